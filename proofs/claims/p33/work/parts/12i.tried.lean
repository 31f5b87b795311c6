/-! ===== PURE: what is tried is right ===== -/
section TR
variable {P i j n c B nm g q K G s : Nat} {z w u v : Wd} {b1 b2 : Be} {A1 A2 : Ta}
theorem Ls.tr (h : Ls B nm g q K G s z w b1 A1 b2 A2) {b3 : Be} {A3 : Ta} {q' : Nat} (hN : Nw B 2 nm s z v b1 A1 b3 A3) (hot : ∀ a, Ot B a → ag w v a) (hT : Tc B z b3 A3 400000 q') : Ls B nm g q' K G s z v b1 A1 b3 A3 := by
  obtain ⟨h1, h2, h3, h4, h5, h6, h7, h8, h9⟩ := h
  exact ⟨hN, h2, h3.ot (fun a x y => hot a (ot_of x y)), h4, h5, h6, h7, h8, hT⟩
theorem ow_t {x k q' : Nat} (hk : k < 4) (h1 : wd_Q z (mA P i + 1) k = some q') (h2 : wd_I z 702 q' = Int32.ofNat x) : owv P z i (Int32.ofNat x) = true := by
  have hh : ht z (mA P i + 1) k (Int32.ofNat x) = true := by
    unfold ht
    rw [h1]
    exact decide_eq_true h2
  unfold owv
  simp only [Bool.or_eq_true]
  have : k = 0 ∨ k = 1 ∨ k = 2 ∨ k = 3 := by omega
  rcases this with e | e | e | e
  · rw [e] at hh; exact Or.inl hh
  · rw [e] at hh; exact Or.inr (Or.inl hh)
  · rw [e] at hh; exact Or.inr (Or.inr (Or.inl hh))
  · rw [e] at hh; exact Or.inr (Or.inr (Or.inr hh))
theorem q_le {q E a : Nat} (h : q + (E + 28500) ≤ 400000000) (ha : a ≤ 28500) : q + a ≤ 500000000 := by omega
theorem t_92 (hj : j < nm) (hn : 200000 ≤ n) (h9 : tN A1 901 0 ≤ 200000) {r13 r19 : Int32} (f1 : ¬ (12 : Int32) < r13) (f2 : ¬ r13 = 0) (f3 : ¬ r19 < (-1 : Int32)) : ∀ (k t m : Nat) (w : Wd) (b2 : Be) (A2 : Ta) (q : Nat), t + k = 4 → k < m → Ls B nm g q K G s z w b1 A1 b2 A2 → q + 28500 * k ≤ 400000000 →
    ∃ v b3 A3, wd_lp7 (f_L_areTriedRight_l92 n) m (some B) (some (B + 200)) (Int32.ofNat j) r13 r19 (Int32.ofNat (4 * j + t)) w = some ((1 : Int32), v) ∧ Ls B nm g (q + 28500 * k) K G s z v b1 A1 b3 A3 ∧ ∀ a, Ot B a → ag w v a := by
  have e4 : ((4 : Int32) * Int32.ofNat j) + (4 : Int32) = Int32.ofNat (4 * j + 4) := by rw [show (4 : Int32) = Int32.ofNat 4 from rfl, j_ml, j_ad]
  intro k
  induction k with
  | zero =>
    intro t m w b2 A2 q ht hm h hq
    have h8 := h.1.mm.2
    obtain ⟨m, rfl⟩ : ∃ r, m = r + 1 := ⟨m - 1, by omega⟩
    refine ⟨w, b2, A2, ?_, h, fun a _ => ag.rf _ _⟩
    rw [wd_lp7, f_L_areTriedRight_l92, e4, if_pos (by rw [j_ll (by omega) (by omega)]; omega), if_neg f3, if_neg f1, if_neg f2]
  | succ k ih =>
    intro t m w b2 A2 q ht hm h hq
    have e28 : 28500 * (k + 1) = 28500 * k + 28500 := Nat.mul_succ _ _
    rw [e28] at hq ⊢
    clear e28
    generalize 28500 * k = E at hq ih ⊢
    have h8 := h.1.mm.2
    obtain ⟨m, rfl⟩ : ∃ r, m = r + 1 := ⟨m - 1, by omega⟩
    have h32 : 4 * j + t < 32 := by omega
    have hT := h.2.2.1
    rcases hT.2.2 j t (by omega) (by omega) with ⟨q', x, g1, g2, g3, g4, g5⟩ | ⟨-, g2⟩
    · have ho := ow_t (i := j) (x := x) (by omega : t < 4) g1 g3
      have g5' : wd_A w (B + 201 + (4 * j + t)) (1 : Int32).toNatClampNeg = Int32.ofNat x := by rw [j_c1]; exact g5
      obtain ⟨r, y, b', A', u1, u2, -, u4, u5, u6⟩ := x_hops (n := n) h.1 h.2.1 h.2.2.2.2.1 hj hn h9 g2 h.2.2.2.2.2.2.2.2 (Nat.le_refl _) (q_le hq (by decide))
      have hL1 := h.tr u2 u6 u5
      have gy : wd_A y (B + 201 + (4 * j + t)) (1 : Int32).toNatClampNeg = Int32.ofNat x := by rw [(u6 _ (ot_of (by omega) (by omega))).2.2.1]; exact g5'
      obtain ⟨r', y', b'', A'', v1, v2, -, v4, v5, v6⟩ := x_widest (n := n) hL1.1 h.2.1 h.2.2.2.2.1 hj hn h9 g2 hL1.2.2.2.2.2.2.2.2 (by rw [Nat.add_assoc]; exact q_le hq (by decide))
      have hL2 := hL1.tr v2 v6 v5
      have gy' : wd_A y' (B + 201 + (4 * j + t)) (1 : Int32).toNatClampNeg = Int32.ofNat x := by rw [(v6 _ (ot_of (by omega) (by omega))).2.2.1]; exact gy
      obtain ⟨y2, b3, A3, x1, x2, -, x4, x5, x6⟩ := x_whoTells (n := n) hL2.1 h.2.1 h.2.2.2.2.1 hj hn h9 g2 (tt := 1) (by omega) (by omega) hL2.2.2.2.2.2.2.2.2 (by rw [Nat.add_assoc]; exact q_le hq (by decide))
      have hL3 := hL2.tr x2 x6 x5
      have gy2 : wd_A y2 (B + 201 + (4 * j + t)) (1 : Int32).toNatClampNeg = Int32.ofNat x := by rw [(x6 _ (ot_of (by omega) (by omega))).2.2.1]; exact gy'
      rw [x4 ho] at x1
      rw [u4 ho] at u1
      rw [v4 ho] at v1
      obtain ⟨v, b4, A4, w1, w2, w3⟩ := ih (t + 1) m y2 b3 A3 (q + 18000 + 9000 + 1500) (by omega) (by omega) hL3 (by omega)
      refine ⟨v, b4, A4, ?_, ?_, fun a ha => (((u6 a ha).tr (v6 a ha)).tr (x6 a ha)).tr (w3 a ha)⟩
      · rw [wd_lp7, f_L_areTriedRight_l92, e4, if_neg (by rw [j_ll (by omega) (by omega)]; omega), Option.bind_some, tb_get hT h32, g5', if_neg (j_n0 (by omega)), tb_get hT h32, Option.bind_some, g5', u1, wd_b2_s, if_pos rfl, tb_get hL1.2.2.1 h32, gy, v1, wd_b2_s, if_pos rfl, tb_get hL2.2.2.1 h32, gy', show f_X11_whoTells n y' B (Int32.ofNat j) (Int32.ofNat x) 1 = some (Int32.ofNat x, y2) from x1, wd_b2_s, tb_get hL3.2.2.1 h32, gy2, if_pos rfl, f_L_areTriedRight_j166, wd_let, j_a1]
        exact w1
      · have e : q + 18000 + 9000 + 1500 + E = q + (E + 28500) := by omega
        rw [e] at w2
        exact w2
    · obtain ⟨v, b4, A4, w1, w2, w3⟩ := ih (t + 1) m w b2 A2 q (by omega) (by omega) h (by omega)
      refine ⟨v, b4, A4, ?_, ⟨w2.1, w2.2.1, w2.2.2.1, w2.2.2.2.1, w2.2.2.2.2.1, w2.2.2.2.2.2.1, w2.2.2.2.2.2.2.1, w2.2.2.2.2.2.2.2.1, w2.2.2.2.2.2.2.2.2.le (Nat.le_refl _) (by omega)⟩, w3⟩
      rw [wd_lp7, f_L_areTriedRight_l92, e4, if_neg (by rw [j_ll (by omega) (by omega)]; omega), Option.bind_some, tb_get hT h32, j_c1, g2, if_pos (by decide), f_L_areTriedRight_j166, wd_let, j_a1]
      exact w1
/-- what is tried is right -/
theorem l_tried (h : Ls B nm g q K G s z w b1 A1 b2 A2) (hn : 200000 ≤ n) (hg : g ≤ 44) (hK : K = 3360) (hq : q + 150000 ≤ 400000000) (p : Int32) : ∃ v b3 A3, f_L_areTriedRight n w (some B) p (some (B + 200)) = some ((1 : Int32), v) ∧ Ls B nm g (q + 150000) K G s z v b1 A1 b3 A3 ∧ ∀ a, Ot B a → ag w v a := by
  have h8 := h.1.mm.2
  have h3 := h.2.1
  have h9 : tN A1 901 0 ≤ 200000 := by
    obtain ⟨-, -, k3, -⟩ := h.2.2.2.2.2.2.1
    have e1 : g * K ≤ 44 * K := Nat.mul_le_mul_right _ hg
    have e2 : 44 * K = 147840 := by rw [hK]
    omega
  obtain ⟨j, j1, j2⟩ := x_below (n := n) (w := w) p (m := nm) (by omega) (by omega)
  obtain ⟨to, t1, t2⟩ := x_addressOf (n := n) h.2.2.1 (by omega) (p >>> ((4 : Int32) &&& 31))
  obtain ⟨r, y, b', A', u1, u2, u3, -, u5, u6⟩ := x_hops (n := n) h.1 h3 h.2.2.2.2.1 j1 hn h9 t1 h.2.2.2.2.2.2.2.2 (Nat.le_refl _) (by omega)
  have hL1 := h.tr u2 u6 u5
  obtain ⟨r', y', b'', A'', v1, v2, v3, -, v5, v6⟩ := x_widest (n := n) hL1.1 h3 h.2.2.2.2.1 j1 hn h9 t1 hL1.2.2.2.2.2.2.2.2 (by omega)
  have hL2 := hL1.tr v2 v6 v5
  obtain ⟨y2, b3, A3, x1, x2, x3, -, x5, x6⟩ := x_whoTells (n := n) hL2.1 h3 h.2.2.2.2.1 j1 hn h9 t1 (tt := 12) (by omega) (by omega) hL2.2.2.2.2.2.2.2.2 (by omega)
  have hL3 := hL2.tr x2 x6 x5
  generalize (akF (B + 1) z (tM A1) (tN A1 901 0) j to 8 12 0).2 = S at x1 x3
  have f3 : ¬ S.2.2.1 < (-1 : Int32) := by
    rcases x3.2.1 with e | ⟨k, x, a, e, -, x9, -⟩
    · rw [e]; decide
    · rw [e]
      intro f
      have : Int32.ofNat x < -1 := f
      rw [j_lt, j_ti (by omega)] at this
      have e1 : (-1 : Int32).toInt = -1 := by decide
      omega
  have f1 : ¬ (12 : Int32) < r := by
    rcases u3 with e | ⟨t', a1, a2, e, -⟩
    · rw [e]; decide
    · rw [e, show (12 : Int32) = Int32.ofNat 12 from rfl, j_lx (by omega) (by omega)]; omega
  have f2 : ¬ r = 0 := by
    rcases u3 with e | ⟨t', a1, a2, e, -⟩
    · rw [e]; decide
    · rw [e, show (0 : Int32) = Int32.ofNat 0 from rfl, j_ee (by omega) (by omega)]; omega
  -- the rest, from where it stands
  have key : ∀ (v : Wd) (b4 : Be) (A4 : Ta) (q' : Nat), q' + 114000 ≤ 400000000 → Ls B nm g q' K G s z v b1 A1 b4 A4 → ∃ v' b5 A5, f_L_areTriedRight_j64 n (some B) (some (B + 200)) (Int32.ofNat j) r r' S.2.2.1 v = some ((1 : Int32), v') ∧ Ls B nm g (q' + 114000) K G s z v' b1 A1 b5 A5 ∧ ∀ a, Ot B a → ag v v' a := by
    intro v b4 A4 q' hq' hL
    obtain ⟨v', b5, A5, w1, w2, w3⟩ := t_92 (n := n) j1 hn h9 f1 f2 f3 4 0 n v b4 A4 q' (by omega) (by omega) hL (by omega)
    refine ⟨v', b5, A5, ?_, w2, w3⟩
    have e87 : f_L_areTriedRight_j87 n (some B) (some (B + 200)) (Int32.ofNat j) r S.2.2.1 v = some ((1 : Int32), v') := by
      rw [f_L_areTriedRight_j87, wd_let, show (4 : Int32) * Int32.ofNat j = Int32.ofNat (4 * j) by rw [show (4 : Int32) = Int32.ofNat 4 from rfl, j_ml]]
      exact w1
    rw [f_L_areTriedRight_j64]
    rcases v3 with e | ⟨gg, a1, a2, e⟩
    · rw [e, if_pos rfl, e87]
    · rw [e, if_neg (j_m1 (by omega)), if_neg (by rw [show (8 : Int32) = Int32.ofNat 8 from rfl, j_lx (by omega) (by omega)]; omega), if_pos (by rw [show (196 : Int32) = Int32.ofNat 196 from rfl, j_ll (by omega) (by omega)]; omega), e87]
  have e0 : f_L_areTriedRight n w (some B) p (some (B + 200)) = (if r ≤ 0 then f_L_areTriedRight_j64 n (some B) (some (B + 200)) (Int32.ofNat j) r r' S.2.2.1 y2 else wd_b2 (f_X11_whoTells n y2 B (Int32.ofNat j) (Int32.ofNat to) r) fun r64 w62 => if r64 < 0 then f_L_areTriedRight_j85 n w62 else f_L_areTriedRight_j64 n (some B) (some (B + 200)) (Int32.ofNat j) r r' S.2.2.1 w62) := by
    rw [f_L_areTriedRight, Option.bind_some, h.mach, wd_b2_s, j2, wd_b2_s, t2, wd_b2_s, u1, wd_b2_s, v1, wd_b2_s, show f_X11_whoTells n y' B (Int32.ofNat j) (Int32.ofNat to) 12 = some (S.2.2.1, y2) from x1, wd_b2_s]
  rw [e0]
  have ag3 : ∀ a, Ot B a → ag w y2 a := fun a ha => ((u6 a ha).tr (v6 a ha)).tr (x6 a ha)
  rcases u3 with e | ⟨t', a1, a2, e, e5⟩
  · obtain ⟨v', b5, A5, w1, w2, w3⟩ := key y2 b3 A3 _ (by omega) hL3
    refine ⟨v', b5, A5, ?_, ⟨w2.1, w2.2.1, w2.2.2.1, w2.2.2.2.1, w2.2.2.2.2.1, w2.2.2.2.2.2.1, w2.2.2.2.2.2.2.1, w2.2.2.2.2.2.2.2.1, w2.2.2.2.2.2.2.2.2.le (Nat.le_refl _) (by omega)⟩, fun a ha => (ag3 a ha).tr (w3 a ha)⟩
    rw [if_pos (by rw [e]; decide), w1]
  · obtain ⟨y4, b6, A6, s1, s2, s3, -, s5, s6⟩ := x_whoTells (n := n) hL3.1 h3 h.2.2.2.2.1 j1 hn h9 t1 (tt := t') (by omega) (by omega) hL3.2.2.2.2.2.2.2.2 (by omega)
    have hL4 := hL3.tr s2 s6 s5
    generalize (akF (B + 1) z (tM A1) (tN A1 901 0) j to 8 t' 0).2 = S' at s1 s3 e5
    have f6 : ¬ S'.2.2.1 < 0 := by
      rcases s3.2.1 with e' | ⟨k, x, a, e', -, x9, -⟩
      · exact absurd (by rw [e']) (s3.2.2 e5)
      · rw [e']; exact j_n0 (by omega)
    obtain ⟨v', b5, A5, w1, w2, w3⟩ := key y4 b6 A6 _ (by omega) hL4
    refine ⟨v', b5, A5, ?_, ⟨w2.1, w2.2.1, w2.2.2.1, w2.2.2.2.1, w2.2.2.2.2.1, w2.2.2.2.2.2.1, w2.2.2.2.2.2.2.1, w2.2.2.2.2.2.2.2.1, w2.2.2.2.2.2.2.2.2.le (Nat.le_refl _) (by omega)⟩, fun a ha => ((ag3 a ha).tr (s6 a ha)).tr (w3 a ha)⟩
    rw [if_neg (by rw [e, show (0 : Int32) = Int32.ofNat 0 from rfl, j_ll (by omega) (by omega)]; omega), show f_X11_whoTells n y2 B (Int32.ofNat j) (Int32.ofNat to) r = some (S'.2.2.1, y4) by rw [e]; exact s1, wd_b2_s, if_neg f6, w1]
end TR
