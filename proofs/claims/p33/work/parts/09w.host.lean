/-! ===== PURE: hosts found, what is gone in all ===== -/
section HF
variable {P T X j n : Nat} {z w u : Wd} {b : Be} {A A' : Ta}
theorem o_host (hT : Tm P T X z w b A) (hj : j < 8) : f_X9_host n w T (Int32.ofNat j) = some (some (hA T j), w) := by
  obtain ⟨c1, c2, c3, c4, c5, c6, c7, c8⟩ := hT.2.2.1.1
  unfold f_X9_host
  rw [if_neg (j_n0 (by omega)), if_neg (by rw [show (8 : Int32) = Int32.ofNat 8 from rfl, j_ll (by omega) (by omega)]; omega), c4, Option.bind_some, j_gd (by rw [c6]; exact j_in hj (by omega)), j_nn (by omega), c8 j hj]
theorem o_hostWithMark (hT : Tm P T X z w b A) {m : Nat} (hm : m < 32) : f_X9_hostWithMark n w T (Int32.ofNat m) = some (some (hA T (m / 4)), w) := by
  unfold f_X9_hostWithMark
  rw [if_pos (by rw [show (0 : Int32) = Int32.ofNat 0 from rfl, j_ll (by omega) (by omega)]; omega), (j_dv hm).1, o_host hT (by omega), wd_b2_s]
theorem o_noHost (x : Int32) (hx : x < 0) : f_X9_hostWithMark n w T x = some (none, w) := by
  unfold f_X9_hostWithMark
  rw [if_neg (by rw [j_le]; rw [j_lt] at hx; omega)]
theorem o_carriedOn (hT : Tm P T X z w b A) {c : Nat} (hc : c < 8) : f_X9_carriedOn n w T (Int32.ofNat c) = some (Int32.ofNat (b_ng b 907 c + tN A 907 c), w) := by
  obtain ⟨c1, c2, c3, c4, c5, c6, c7, c8⟩ := hT.2.2.1.1
  unfold f_X9_carriedOn
  rw [if_neg (j_n0 (by omega)), if_neg (by rw [show (8 : Int32) = Int32.ofNat 8 from rfl, j_ll (by omega) (by omega)]; omega), c5, Option.bind_some, j_gd (by rw [c7]; exact j_in hc (by omega)), j_nn (by omega), hT.2.2.1.2.2.2.2 c hc]
/-- what is gone at the hosts from s on, k of them -/
def gsum (b : Be) (A : Ta) : Nat → Nat → Nat
  | 0, _ => 0
  | k + 1, s => b_ng b 204 s + tN A 204 s + gsum b A k (s + 1)
theorem o_goneInAll (hT : Tm P T X z w b A) (hn : 9 ≤ n) : f_X9_goneInAll n w T = some (Int32.ofNat (gsum b A 8 0), w) := by
  obtain ⟨c1, c2, c3, c4, c5, c6, c7, c8⟩ := hT.2.2.1.1
  have key : ∀ (k s x m : Nat), s + k = 8 → k < m → wd_lp4 (f_X9_goneInAll_l4 n) m T (Int32.ofNat x) (Int32.ofNat s) w = some (Int32.ofNat (x + gsum b A k s), w) := by
    intro k
    induction k with
    | zero =>
      intro s x m hs hm
      obtain ⟨m, rfl⟩ : ∃ k, m = k + 1 := ⟨m - 1, by omega⟩
      rw [wd_lp4, f_X9_goneInAll_l4, if_pos (by rw [show (8 : Int32) = Int32.ofNat 8 from rfl, j_ll (by omega) (by omega)]; omega)]; rfl
    | succ k ih =>
      intro s x m hs hm
      obtain ⟨m, rfl⟩ : ∃ k, m = k + 1 := ⟨m - 1, by omega⟩
      rw [wd_lp4, f_X9_goneInAll_l4, if_neg (by rw [show (8 : Int32) = Int32.ofNat 8 from rfl, j_ll (by omega) (by omega)]; omega), c4, Option.bind_some, j_gd (by rw [c6]; exact j_in (by omega) (by omega)), j_nn (by omega), c8 s (by omega), Option.bind_some, wd_let, wd_let, (hT.2.2.2.2.2.2 s (by omega)).2.1.2, j_ad, j_a1, ih (s + 1) _ m (by omega) (by omega), gsum, Nat.add_assoc]
  have := key 8 0 0 n rfl (by omega)
  rw [Nat.zero_add] at this
  exact this
end HF
