/-! ===== PURE: what is known forgotten ===== -/
section CK
variable {P T X j n : Nat} {z w u : Wd} {b : Be} {A A' : Ta}
theorem o_setMark (hT : Tm P T X z w b A) (hj : j < 8) {k : Nat} (hk : k < 256) (v : Int32) : Tm P T X z (wd_sA w (hA T j + 1) k v) b (uM A j k v) ∧ Rl T w b (wd_sA w (hA T j + 1) k v) b := by
  have s1 := (hT.2.2.2.2.2.2 j hj).1
  have hf : f_X2_learn 0 w (hA T j) (Int32.ofNat k) v = some (wd_sA w (hA T j + 1) k v) := by
    unfold f_X2_learn
    rw [if_neg (j_n0 (by omega)), if_neg (by rw [show (256 : Int32) = Int32.ofNat 256 from rfl, j_ll (by omega) (by omega)]; omega), s1.2.1, Option.bind_some, j_gd (by rw [s1.2.2.2.2.1]; exact j_in hk (by omega)), j_nn (by omega)]; rfl
  obtain ⟨w', h1, h2, h3⟩ := o_learn (n := 0) hT hj hk v
  rw [hf] at h1
  have := Option.some.inj h1
  subst this
  exact ⟨h2, h3⟩
def clA (A : Ta) (j s : Nat) : Ta := uMf A j (fun x => if x < s then -1 else tM A j x)
theorem clA_s (A : Ta) (j s : Nat) : uM (clA A j s) j s (-1) = clA A j (s + 1) := by
  have h : (wd_up (tM (clA A j s)) j s (-1) : Nat → Nat → Int32) = tM (clA A j (s + 1)) := by
    funext h x
    show (if h = j ∧ x = s then (-1 : Int32) else if h = j then (if x < s then -1 else tM A j x) else tM A h x) = if h = j then (if x < s + 1 then -1 else tM A j x) else tM A h x
    by_cases c : h = j
    · by_cases d : x = s
      · rw [if_pos ⟨c, d⟩, if_pos c, if_pos (by omega)]
      · rw [if_neg (fun q => d q.2), if_pos c, if_pos c]
        by_cases e : x < s
        · rw [if_pos e, if_pos (by omega)]
        · rw [if_neg e, if_neg (by omega)]
    · rw [if_neg (fun q => c q.1), if_neg c, if_neg c]
  exact congrArg (fun M => ((tI A, tR A, tW A, tK A, M, tO A, tN A, tF A) : Ta)) h
/-- of how many the mark is known, k from s on -/
def kcv (A : Ta) (j : Nat) : Nat → Nat → Nat
  | 0, _ => 0
  | k + 1, s => (if tM A j s < 0 then 0 else 1) + kcv A j k (s + 1)
theorem o_clearKnown (hT : Tm P T X z w b A) (hj : j < 8) (hn : 257 ≤ n) : ∃ v, f_X2_clearKnown n w (hA T j) = some (Int32.ofNat (kcv A j 256 0), v) ∧ Tm P T X z v b (clA A j 256) ∧ Rl T w b v b := by
  have key : ∀ (k s x m : Nat) (u : Wd), s + k = 256 → k < m → Tm P T X z u b (clA A j s) → ∃ v, wd_lp4 (f_X2_clearKnown_l4 n) m (hA T j) (Int32.ofNat x) (Int32.ofNat s) u = some (Int32.ofNat (x + kcv A j k s), v) ∧ Tm P T X z v b (clA A j 256) ∧ Rl T u b v b := by
    intro k
    induction k with
    | zero =>
      intro s x m u hs hm hu
      obtain ⟨m, rfl⟩ : ∃ k, m = k + 1 := ⟨m - 1, by omega⟩
      have : s = 256 := by omega
      subst this
      refine ⟨u, ?_, hu, Rl.rf _ _ _⟩
      rw [wd_lp4, f_X2_clearKnown_l4, if_pos (by rw [show (256 : Int32) = Int32.ofNat 256 from rfl, j_ll (by omega) (by omega)]; omega)]; rfl
    | succ k ih =>
      intro s x m u hs hm hu
      obtain ⟨m, rfl⟩ : ∃ k, m = k + 1 := ⟨m - 1, by omega⟩
      obtain ⟨s1, s2, -⟩ := hu.2.2.2.2.2.2 j hj
      have hv : wd_A u (hA T j + 1) s = tM A j s := by
        rw [s2.1 s (by omega), clA, tM_uMf, if_pos rfl, if_neg (by omega)]
      obtain ⟨g1, g2⟩ := o_setMark hu hj (k := s) (by omega) (-1)
      rw [clA_s] at g1
      have h23 : ∀ y : Nat, f_X2_clearKnown_j23 n (wd_lp4 (f_X2_clearKnown_l4 n) m) (hA T j) (Int32.ofNat y) (Int32.ofNat s) u = wd_lp4 (f_X2_clearKnown_l4 n) m (hA T j) (Int32.ofNat y) (Int32.ofNat (s + 1)) (wd_sA u (hA T j + 1) s (-1)) := fun y => by
        rw [f_X2_clearKnown_j23, s1.2.1, Option.bind_some, j_gd (by rw [s1.2.2.2.2.1]; exact j_in (by omega) (by omega)), j_nn (by omega), wd_let, wd_let, j_a1]
      rw [wd_lp4, f_X2_clearKnown_l4, if_neg (by rw [show (256 : Int32) = Int32.ofNat 256 from rfl, j_ll (by omega) (by omega)]; omega), s1.2.1, Option.bind_some, j_gd (by rw [s1.2.2.2.2.1]; exact j_in (by omega) (by omega)), j_nn (by omega), hv, kcv]
      by_cases c : tM A j s < 0
      · obtain ⟨v, i1, i2, i3⟩ := ih (s + 1) x m _ (by omega) (by omega) g1
        rw [if_pos c, if_pos c, h23, Nat.zero_add]
        exact ⟨v, i1, i2, g2.tr i3⟩
      · obtain ⟨v, i1, i2, i3⟩ := ih (s + 1) (x + 1) m _ (by omega) (by omega) g1
        rw [if_neg c, if_neg c, wd_let, j_a1, h23, ← Nat.add_assoc]
        exact ⟨v, i1, i2, g2.tr i3⟩
  have h0 : clA A j 0 = A := by
    have h : (tM (clA A j 0) : Nat → Nat → Int32) = tM A := by
      funext h x
      show (if h = j then (if x < 0 then (-1 : Int32) else tM A j x) else tM A h x) = tM A h x
      by_cases c : h = j
      · rw [if_pos c, if_neg (by omega), c]
      · rw [if_neg c]
    exact congrArg (fun M => ((tI A, tR A, tW A, tK A, M, tO A, tN A, tF A) : Ta)) h
  obtain ⟨v, h1, h2, h3⟩ := key 256 0 0 n w rfl (by omega) (by rw [h0]; exact hT)
  rw [Nat.zero_add] at h1
  exact ⟨v, h1, h2, h3⟩
end CK
