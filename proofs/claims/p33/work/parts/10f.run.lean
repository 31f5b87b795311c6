/-! ===== PURE: GO OUT, run ===== -/
section RU
variable {P T X i j n c : Nat} {z w u : Wd} {b : Be} {A A' : Ta}
/-- room and numbers for a packets, f frames, g notes more -/
def Bg (X : Nat) (b : Be) (A : Ta) (a f g : Nat) : Prop := tN A 1 0 + a ≤ X ∧ tN A 3 0 + f ≤ X ∧ tN A 901 0 + a ≤ 1000000000 ∧ ∀ j, j < 8 → b_ng b 203 j + (tO A j).length + g < 1073741824
theorem Bg.cs {b' : Be} {a f g a' f' g' : Nat} (h : Bg X b A (a + a') (f + f') (g + g')) {d : Nat} (k : Cs A A' a f g d) (hb : b_ng b' = b_ng b) : Bg X b' A' a' f' g' := by
  obtain ⟨h1, h2, h3, h4⟩ := h
  obtain ⟨k1, k2, k3, k4, k5, k6, -⟩ := k
  exact ⟨by omega, by omega, by omega, fun j hj => by have := h4 j hj; have := k6 j; rw [hb]; omega⟩
theorem Bg.le {a f g a' f' g' : Nat} (h : Bg X b A a f g) (ha : a' ≤ a) (hf : f' ≤ f) (hg : g' ≤ g) : Bg X b A a' f' g' :=
  ⟨by have := h.1; omega, by have := h.2.1; omega, by have := h.2.2.1; omega, fun j hj => by have := h.2.2.2 j hj; omega⟩
theorem Rl.ng {w' : Wd} {b' : Be} (h : Rl T w b w' b') : b_ng b' = b_ng b := h.1.1.2.2.1
theorem o_goS (hT : Tm P T X z w b A) (h : Iv P z c A) (hz : PS P z) (hj : j < 8) {p : Nat} (hp : Gp P z A j p) (hn : X + 10 ≤ n) (hB : Bg X b A (c / 8 + 1) (c / 8 + 1) 1) :
    ∃ v b', Tm P T X z v b' (goS P z A j p).2 ∧ Rl T w b v b' ∧ ∀ rec x5, ¬ (1000000 : Int32) ≤ x5 → f_X9_goOut_l11 n rec T (some (hA T j)) (some (mA P j)) (some (b_pa b p)) x5 w = f_X9_goOut_j180 n rec T (some (hA T j)) (some (mA P j)) ((goS P z A j p).1.map (b_pa b')) x5 v := by
  obtain ⟨hp1, hp3, hp6⟩ := hp
  have hk := (hT.2.2.2.1 p hp1).1
  have h904 := hT.2.2.1.1.2.1
  have hw := hT.1
  have hh := h.2.2.1 p hp1
  have a1 := hh.1
  have hc := h.2.2.2.2.1
  have hsz := hh.2.1.2.2.2.2.2.1
  unfold goS
  by_cases c1 : owv P z j (tI A 402 p) = true
  · rw [if_pos c1]
    obtain ⟨v, b', h1, h2, h3⟩ := o_accept (n := n) hT h.1 h.2.1 hj (by have := hB.1; omega) hp1 (by have := hB.2.2.2 j hj; omega)
    refine ⟨v, b', h2, h3, fun rec x5 hx => ?_⟩
    rw [f_X9_goOut_l11, wd_on_S, if_neg hx, Option.bind_some, hk 402 (by omega) (by omega), p_portTo hz hw hj, wd_b2_s, p_port hz hw hj, wd_b2_s, hk 402 (by omega) (by omega), p_owns hz hw hj (by omega), wd_b2_s, if_neg (by rw [bi_0, c1]; decide), h1, wd_b2_s]
  rw [if_neg c1]
  have c1' : bi (owv P z j (tI A 402 p)) = 0 := by rw [bi_0]; cases e : owv P z j (tI A 402 p) with | true => exact absurd e c1 | false => rfl
  by_cases c2 : ptv P z j (tI A 402 p) = -2 ∧ cwP P z j (tI A 402 p) = true
  · rw [if_pos c2]
    obtain ⟨v, b', h1, h2, h3⟩ := o_wrap (n := n) hT h.1 h.2.1 hz hj (by omega) (by have := hB.1; omega) hp1 hp3
    refine ⟨v, b', h2, h3, fun rec x5 hx => ?_⟩
    rw [f_X9_goOut_l11, wd_on_S, if_neg hx, Option.bind_some, hk 402 (by omega) (by omega), p_portTo hz hw hj, wd_b2_s, p_port hz hw hj, wd_b2_s, hk 402 (by omega) (by omega), p_owns hz hw hj (by omega), wd_b2_s, if_pos c1', if_pos c2.1, o_canWrap hT hz hj (by omega) hp1, wd_b2_s, if_neg (by rw [bi_0, c2.2]; decide), h1, wd_b2_s]; rfl
  rw [if_neg c2]
  -- behind the wrapping
  have j94 : ∀ rec x5, ¬ (1000000 : Int32) ≤ x5 → f_X9_goOut_l11 n rec T (some (hA T j)) (some (mA P j)) (some (b_pa b p)) x5 w = f_X9_goOut_j94 n rec T (some (hA T j)) (some (mA P j)) (some (b_pa b p)) x5 (pov P z j (ptv P z j (tI A 402 p))) w := fun rec x5 hx => by
    rw [f_X9_goOut_l11, wd_on_S, if_neg hx, Option.bind_some, hk 402 (by omega) (by omega), p_portTo hz hw hj, wd_b2_s, p_port hz hw hj, wd_b2_s, hk 402 (by omega) (by omega), p_owns hz hw hj (by omega), wd_b2_s, if_pos c1']
    by_cases d : ptv P z j (tI A 402 p) = -2
    · have d2 : bi (cwP P z j (tI A 402 p)) = 0 := by rw [bi_0]; cases e : cwP P z j (tI A 402 p) with | true => exact absurd ⟨d, e⟩ c2 | false => rfl
      rw [if_pos d, o_canWrap hT hz hj (by omega) hp1, wd_b2_s, if_pos d2]
    · rw [if_neg d]
  cases hq : pov P z j (ptv P z j (tI A 402 p)) with
  | none =>
    dsimp only
    obtain ⟨v, b', h1, h2, h3⟩ := o_complain (n := n) hT h.1 h.2.1 hz hj (by omega) (by have := hB.1; omega) hp1 4 0
    refine ⟨v, b', h2, h3, fun rec x5 hx => ?_⟩
    rw [j94 rec x5 hx, hq, f_X9_goOut_j94, wd_on_N, h1, wd_b2_s]
  | some q =>
    dsimp only
    obtain ⟨k, k1, -⟩ := pov_P hj hq
    have h701 : wd_I w 701 q = wd_I z 701 q := (hw q k1.pl).1 701
    by_cases c3 : tI A 408 p = 0 ∨ tI A 403 p + 4 ≤ wiv P z (wd_I z 701 q)
    · rw [if_pos c3]
      have hkp : kp A p ≤ c / 8 + 1 := by
        show hv A 403 p / 8 + 1 ≤ _
        have := Nat.div_le_div_right (c := 8) (show hv A 403 p ≤ c by omega)
        omega
      have hc8 : c / 8 + 1 ≤ X := by have := hB.1; omega
      have h403 : (tI A 403 p).toInt = hv A 403 p := by rw [a1 403 (by omega) (by omega), j_ti (by omega)]
      have h408 : tI A 408 p = 0 ∨ tI A 408 p = 1 := by
        have e8 := a1 408 (by omega) (by omega)
        have l8 := hh.2.1.2.2.2.2.2.2.1
        have : hv A 408 p = 0 ∨ hv A 408 p = 1 := by omega
        rcases this with e | e
        · rw [e] at e8; exact Or.inl e8
        · rw [e] at e8; exact Or.inr e8
      obtain ⟨v, b', h1, h2, h3, -⟩ := o_goByPort (n := n) hT h.1 h.2.1 hz hj hp1 hp3 k1.pl h408 (by omega) (by omega) (by omega) (by omega) (by have := hB.1; omega) (by have := hB.2.1; omega)
      refine ⟨v, b', h2, h3, fun rec x5 hx => ?_⟩
      rw [j94 rec x5 hx, hq, f_X9_goOut_j94, wd_on_S, Option.bind_some, hk 408 (by omega) (by omega), hk 403 (by omega) (by omega), h904, Option.bind_some, h701, p_widthOf hz hw, wd_b2_s]
      have j168 : f_X9_goOut_j168 n rec T (some (hA T j)) (some (mA P j)) (some (b_pa b p)) x5 (some q) w = f_X9_goOut_j180 n rec T (some (hA T j)) (some (mA P j)) none x5 v := by rw [f_X9_goOut_j168, h1, Option.bind_some]
      by_cases d : tI A 408 p = 0
      · rw [if_pos d, j168]; rfl
      · rw [if_neg d, if_pos (c3.resolve_left d), j168]; rfl
    · rw [if_neg c3]
      obtain ⟨v, b', h1, h2, h3⟩ := o_complain (n := n) hT h.1 h.2.1 hz hj (by omega) (by have := hB.1; omega) hp1 5 (wiv P z (wd_I z 701 q))
      refine ⟨v, b', h2, h3, fun rec x5 hx => ?_⟩
      rw [j94 rec x5 hx, hq, f_X9_goOut_j94, wd_on_S, Option.bind_some, hk 408 (by omega) (by omega), hk 403 (by omega) (by omega), h904, Option.bind_some, h701, p_widthOf hz hw, wd_b2_s, if_neg (fun e => c3 (Or.inl e)), if_neg (fun e => c3 (Or.inr e)), h904, Option.bind_some, h701, p_widthOf hz hw, wd_b2_s, h1, wd_b2_s]
/-- GO OUT: the loop -/
theorem o_goL (hz : PS P z) (hj : j < 8) (hn : X + 10 ≤ n) (hc : c + 12 ≤ 10000) : ∀ (k : Nat) (w : Wd) (b : Be) (A : Ta) (p t m : Nat), Tm P T X z w b A → (Iv P z c A ∨ Iv P z (c + 4) A ∧ rk1 P z A j p) → Gp P z A j p → rkF P z A j p ≤ k → t + k < 1000 → k < m → Bg X b A ((c + 4) / 8 + 1 + k) ((c + 4) / 8 + 1 + k) (k + 1) →
    ∃ v b', wd_lp6 (f_X9_goOut_l11 n) m T (some (hA T j)) (some (mA P j)) (some (b_pa b p)) (Int32.ofNat t) w = some v ∧ Tm P T X z v b' (goF P z j k (some p) A) ∧ Rl T w b v b' := by
  intro k
  induction k with
  | zero => intro w b A p t m _ _ _ hr _ _ _; have := rkF_0 (P := P) (z := z) (A := A) (j := j) (p := p); omega
  | succ k ih =>
    intro w b A p t m hT hI hp hr ht hm hB
    obtain ⟨m, rfl⟩ : ∃ r, m = r + 1 := ⟨m - 1, by omega⟩
    obtain ⟨m', rfl⟩ : ∃ r, m = r + 1 := ⟨m - 1, by omega⟩
    have hc8 : c / 8 ≤ (c + 4) / 8 := Nat.div_le_div_right (by omega)
    have h9 : tN A 901 0 + 1 ≤ 1000000000 := by have := hB.2.2.1; omega
    have hx : ¬ (1000000 : Int32) ≤ Int32.ofNat t := by rw [show (1000000 : Int32) = Int32.ofNat 1000000 from rfl, j_ll (by omega) (by omega)]; omega
    have hI4 : Iv P z (c + 4) A := by
      rcases hI with q | q
      · exact q.le (by omega) (by omega)
      · exact q.1
    obtain ⟨v, b', h1, h2, h3⟩ := o_goS hT hI4 hz hj hp hn (hB.le (by omega) (by omega) (by omega))
    rw [wd_lp6, h3 _ _ hx, f_X9_goOut_j180, wd_let, j_a1, goF]
    obtain ⟨s1, s2, s3, s4, s5⟩ := gs_ok hI4 hz hj hp (by omega) h9
    cases hr1 : (goS P z A j p).1 with
    | none =>
      rw [goF_n, Option.map_none]
      exact ⟨v, b', by rw [wd_lp6, f_X9_goOut_l11, wd_on_N], h1, h2⟩
    | some r =>
      obtain ⟨r1, r2⟩ := s5 r hr1
      have cs := s2 (by rw [hr1]; exact fun e => by cases e)
      have hI2 : Iv P z c (goS P z A j p).2 ∨ Iv P z (c + 4) (goS P z A j p).2 ∧ rk1 P z (goS P z A j p).2 j r := by
        rcases hI with q | q
        · obtain ⟨-, -, t3, -, -⟩ := gs_ok q hz hj hp (by omega) h9
          rcases t3 with t3 | t3
          · exact Or.inl t3
          · exact Or.inr ⟨t3.1, t3.2 r hr1⟩
        · have := (s4 q.2).2
          rw [hr1] at this
          cases this
      rw [Option.map_some]
      generalize (goS P z A j p).2 = C at *
      obtain ⟨y, b2, k1, k2, k3⟩ := ih v b' C r (t + 1) (m' + 1) h1 hI2 r1 (by omega) (by omega) (by omega) ((hB.le (a' := 1 + ((c + 4) / 8 + 1 + k)) (f' := 0 + ((c + 4) / 8 + 1 + k)) (g' := 1 + (k + 1)) (by omega) (by omega) (by omega)).cs cs h2.ng)
      exact ⟨y, b2, k1, k2, h2.tr k3⟩
theorem o_goOut (hT : Tm P T X z w b A) (h : Iv P z c A) (hz : PS P z) (hj : j < 8) (hn : X + 10 ≤ n) (hn2 : 10 ≤ n) (hc : c + 12 ≤ 10000) {o : Option Nat} (ho : ∀ p, o = some p → Gp P z A j p) (hB : Bg X b A ((c + 4) / 8 + 5) ((c + 4) / 8 + 5) 5) :
    ∃ v b', f_X9_goOut n w T (some (hA T j)) (o.map (b_pa b)) = some v ∧ Tm P T X z v b' (goF P z j 4 o A) ∧ Rl T w b v b' ∧ Iv P z (c + 4) (goF P z j 4 o A) ∧ Cs A (goF P z j 4 o A) ((c + 4) / 8 + 5) ((c + 4) / 8 + 1) 4 ((c + 4) / 8 + 5) := by
  have s1 := (hT.2.2.2.2.2.2 j hj).1.1
  cases o with
  | none =>
    refine ⟨w, b, ?_, hT, Rl.rf _ _ _, h.le (by omega) (by omega), (Cs.rf A).le (by omega) (by omega) (by omega) (by omega)⟩
    obtain ⟨m, rfl⟩ : ∃ r, n = r + 1 := ⟨n - 1, by omega⟩
    rw [f_X9_goOut, Option.bind_some, wd_let, s1, Option.map_none, wd_lp6, f_X9_goOut_l11, wd_on_N]
  | some p =>
    obtain ⟨g1, g2⟩ := go_ok hz hj (by omega) 4 A p h (ho p rfl) (by have := hB.2.2.1; omega)
    obtain ⟨v, b', k1, k2, k3⟩ := o_goL (n := n) hz hj hn hc 4 w b A p 0 n hT (Or.inl h) (ho p rfl) rkF_4 (by omega) (by omega) (hB.le (by omega) (by omega) (by omega))
    refine ⟨v, b', ?_, k2, k3, g1, g2⟩
    rw [f_X9_goOut, Option.bind_some, wd_let, s1, Option.map_some]
    exact k1
end RU
