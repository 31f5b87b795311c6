/-! ===== PURE: what comes, run ===== -/
section CR
variable {P T X i j n c : Nat} {z w u : Wd} {b : Be} {A A' : Ta}
theorem o_comeL (hz : PS P z) (hj : j < 8) (hn : X + 10 ≤ n) (hn2 : 10 ≤ n) : ∀ (k : Nat) (w : Wd) (b : Be) (A : Ta) (p t m : Nat), Tm P T X z w b A → Iv P z c A → p < tN A 1 0 → tN A 5 p = 3 → p < k → t + k < 1000000 → k < m → Bg X b A 1 0 1 →
    ∃ v b', wd_lp5 (f_X9_come_l5 n) m T (some (hA T j)) (some (b_pa b p)) (Int32.ofNat t) w = some ((cmF P z j k (some p) A).1.map (b_pa b'), v) ∧ Tm P T X z v b' (cmF P z j k (some p) A).2 ∧ Rl T w b v b' := by
  intro k
  induction k with
  | zero => intro w b A p t m _ _ _ _ h; omega
  | succ k ih =>
    intro w b A p t m hT h hp hp3 hpk ht hm hB
    obtain ⟨m, rfl⟩ : ∃ r, m = r + 1 := ⟨m - 1, by omega⟩
    have hk := (hT.2.2.2.1 p hp).1
    have s1 := (hT.2.2.2.2.2.2 j hj).1.1
    have hx : ¬ (1000000 : Int32) ≤ Int32.ofNat t := by rw [show (1000000 : Int32) = Int32.ofNat 1000000 from rfl, j_ll (by omega) (by omega)]; omega
    rw [wd_lp5, f_X9_come_l5, wd_on_S, if_neg hx, Option.bind_some, s1, Option.bind_some, hk 402 (by omega) (by omega), p_owns hz hT.1 hj (by omega), wd_b2_s, cmF]
    by_cases c1 : owv P z j (tI A 402 p) = true
    · rw [if_pos c1, if_neg (by rw [bi_0, c1]; decide)]
      obtain ⟨g1, g2, g3, g4⟩ := ga_ok h hj hp hp3
      obtain ⟨v, kk, v1, v2, v3⟩ := o_gather (n := n) hT h.1 (h.2.2.2.1.2.2.2.2.1 j hj).1 hj (by omega) hp hp3
      rw [v1, wd_b2_s]
      cases hr : (gaF A j p).1 with
      | none => exact ⟨v, v_kh b kk, by rw [Option.map_none, wd_on_N]; rfl, v2, v3⟩
      | some q =>
        dsimp only
        obtain ⟨r1, r2, r3, r4, r5, r6⟩ := g4 q hr
        have r3' : tN (gaF A j p).2 5 q = 3 := by rw [r1]; exact r3
        have r4' : hv (gaF A j p).2 407 q = 0 := by rw [r1]; exact r4
        have hq : q < tN (gaF A j p).2 1 0 := by rw [r2, r1]; exact hp
        have k6 := k6_iff g1 hq
        have hB2 : Bg X (v_kh b kk) (gaF A j p).2 1 0 1 := (hB.le (a' := 0 + 1) (f' := 0 + 0) (g' := 0 + 1) (by omega) (by omega) (by omega)).cs g2 v3.ng
        rw [Option.map_some, wd_on_S]
        generalize (gaF A j p).2 = B at *
        have hkq : wd_I v 400 (b_pa b q) = tI B 400 q := (v2.2.2.2.1 q hq).1 400 (by omega) (by omega)
        rw [hkq]
        by_cases c2 : tI B 400 q = 6
        · rw [if_pos (show tI B 400 q = (6 : Int32) from c2), if_pos c2]
          obtain ⟨u1, u2, u3, u4⟩ := un_ok (j := j) g1 hq r3' (k6.mp c2) r4'
          obtain ⟨x, x1, x2, x3⟩ := o_unwrap (n := n) v2 hz hj (by omega) hq
          rw [show f_X2_unwrap n v (hA T j) (some (b_pa b q)) = some ((unF P z B j q).1.map (b_pa b), x) from x1, wd_b2_s, wd_let, j_a1]
          have hdt : ∀ d, (unF P z B j q).1 = some d → tN B 5 d ≠ 4 ∧ (unF P z B j q).2 = B := fun d hd => by
            have q1 := (g1.2.2.1 q hq).2.2.2.2.2.2.1 (k6.mp c2)
            have q2 := (g1.2.2.1 q hq).2.2.2.2.2.2.2 (k6.mp c2) (by omega) r4'
            obtain ⟨d0, e1, e2, e3⟩ := q1
            unfold unF at hd ⊢
            by_cases c3 : htv P z j (tI B 401 q) = true
            · rw [if_pos c3] at hd ⊢
              have : tR B 410 q = some d := hd
              rw [e1] at this
              rw [← Option.some.inj this]
              exact ⟨by rw [e3] at q2; omega, rfl⟩
            · rw [if_neg c3] at hd; cases hd
          cases hd : (unF P z B j q).1 with
          | none =>
            have e1 : (unT P z B j q).1 = none := u4.trans hd
            have e2 : (unT P z B j q).2 = (unF P z B j q).2 := by unfold unT; rw [hd]
            rw [e1, cmF_n, Option.map_none]
            obtain ⟨m, rfl⟩ : ∃ r, m = r + 1 := ⟨m - 1, by omega⟩
            exact ⟨x, v_kh b kk, by rw [wd_lp5, f_X9_come_l5, wd_on_N, f_X9_come_j127]; rfl, by rw [e2]; exact x2, v3.tr x3⟩
          | some d =>
            have e1 : (unT P z B j q).1 = some d := u4.trans hd
            obtain ⟨d1, d2, d3⟩ := u3 d e1
            obtain ⟨d4, d5⟩ := hdt d hd
            have e2 : (unT P z B j q).2 = uN (uN B 5 q 0) 5 d 3 := by unfold unT; rw [hd, d5]
            rw [d5] at x2
            have x4 : Tm P T X z x (v_kh b kk) (unT P z B j q).2 := by
              rw [e2]
              refine (x2.tag (p := q) (v := 0) (by omega)).tag ?_
              rw [tN_uN]
              split
              · omega
              · exact d4
            rw [e1, Option.map_some]
            generalize (unT P z B j q).2 = C at *
            obtain ⟨y, b2, y1, y2, y3⟩ := ih x (v_kh b kk) C d (t + 1) m x4 u1 d2 d3 (by omega) (by omega) (by omega) ((hB2.le (a' := 0 + 1) (f' := 0 + 0) (g' := 0 + 1) (by omega) (by omega) (by omega)).cs u2 rfl)
            exact ⟨y, b2, y1, y2, (v3.tr x3).tr y3⟩
        · rw [if_neg (show ¬ tI B 400 q = (6 : Int32) from c2), if_neg c2]
          obtain ⟨y, b2, y1, y2, y3⟩ := o_accept (n := n) v2 g1.1 g1.2.1 hj (by have := hB2.1; omega) hq (by have := hB2.2.2.2 j hj; omega)
          refine ⟨y, b2, ?_, y2, v3.tr y3⟩
          rw [show f_X9_accept n v T (some (hA T j)) (some (b_pa b q)) = some ((acF B j q).1.map (b_pa b2), y) from y1, wd_b2_s]
    have c1' : bi (owv P z j (tI A 402 p)) = 0 := by rw [bi_0]; cases e : owv P z j (tI A 402 p) with | true => exact absurd e c1 | false => rfl
    have h301 : wd_I w 301 (mA P j) = wd_I z 301 (mA P j) := (pw_m0 hT.1 hj).1 301
    rw [if_neg c1, if_pos c1', s1, Option.bind_some, h301]
    by_cases c2 : wd_I z 301 (mA P j) = 0
    · rw [if_pos c2, if_pos c2, wd_let]
      obtain ⟨g1, g2⟩ := o_gone hT hj
      exact ⟨_, b, rfl, g1, g2⟩
    have e24 : wd_I (wd_sI w 404 (b_pa b p) (tI A 404 p - 1)) 404 (b_pa b p) = tI A 404 p - 1 := by rw [i_sI, if_pos ⟨rfl, rfl⟩]
    rw [if_neg c2, if_neg c2, wd_let, hk 404 (by omega) (by omega), e24]
    obtain ⟨t1, t2, t3, t4, t5, t6, t7⟩ := tt_ok h hp hp3
    obtain ⟨k1, k2⟩ := o_head hT (g := 404) hp (by omega) (by omega) (tI A 404 p - 1)
    have k3 : Tm P T X z (wd_sI w 404 (b_pa b p) (tI A 404 p - 1)) b (ttF A p) := k1.tag (by rw [tN_uI]; omega)
    rw [t5]
    by_cases c3 : tI A 404 p - 1 ≤ 0
    · rw [if_pos c3, if_pos c3]
      have hB2 : Bg X b (ttF A p) 1 0 1 := (hB.le (a' := 0 + 1) (f' := 0 + 0) (g' := 0 + 1) (by omega) (by omega) (by omega)).cs t2 rfl
      have hp' : p < tN (ttF A p) 1 0 := by rw [t3]; exact hp
      generalize ttF A p = B at *
      obtain ⟨y, b2, y1, y2, y3⟩ := o_complain (n := n) k3 t1.1 t1.2.1 hz hj (by omega) (by have := hB2.1; omega) hp' 3 0
      exact ⟨y, b2, by rw [y1, wd_b2_s], y2, k2.tr y3⟩
    · rw [if_neg c3, if_neg c3]
      exact ⟨_, b, rfl, k3, k2⟩
theorem o_come (hz : PS P z) (hj : j < 8) (hn : X + 10 ≤ n) (hX : X < 900000) (hT : Tm P T X z w b A) (h : Iv P z c A) {p : Nat} (hp : p < tN A 1 0) (hp3 : tN A 5 p = 3) (hB : Bg X b A 1 0 1) :
    ∃ v b', f_X9_come n w T (some (hA T j)) (some (b_pa b p)) = some ((cmF P z j (tN A 1 0) (some p) A).1.map (b_pa b'), v) ∧ Tm P T X z v b' (cmF P z j (tN A 1 0) (some p) A).2 ∧ Rl T w b v b' ∧
      Iv P z c (cmF P z j (tN A 1 0) (some p) A).2 ∧ Cs A (cmF P z j (tN A 1 0) (some p) A).2 1 0 1 (3 * X) ∧ ∀ q, (cmF P z j (tN A 1 0) (some p) A).1 = some q → Gp P z (cmF P z j (tN A 1 0) (some p) A).2 j q := by
  have hNX : tN A 1 0 + 1 ≤ X := hB.1
  obtain ⟨g1, g2, g3⟩ := cm_ok hz hj (tN A 1 0) A p h hp hp3 (by have := hB.2.2.1; omega)
  obtain ⟨v, b', k1, k2, k3⟩ := o_comeL (n := n) hz hj hn (by omega) (tN A 1 0) w b A p 0 n hT h hp hp3 hp (by omega) (by omega) hB
  exact ⟨v, b', k1, k2, k3, g1, g2.le (by omega) (by omega) (by omega) (by omega), g3⟩
end CR
