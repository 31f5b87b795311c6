/-! ===== PURE: small ints ===== -/
theorem j_ti {k : Nat} (h : k < 2147483648) : (Int32.ofNat k).toInt = k := Int32.toInt_ofNat_of_lt (by simpa using h)
theorem j_tn {x : Int32} : x.toNatClampNeg = x.toInt.toNat := rfl
theorem j_nn {k : Nat} (h : k < 2147483648) : (Int32.ofNat k).toNatClampNeg = k := by rw [j_tn, j_ti h]; rfl
theorem j_ad (k m : Nat) : Int32.ofNat k + Int32.ofNat m = Int32.ofNat (k + m) := (Int32.ofNat_add k m).symm
theorem j_a1 (k : Nat) : Int32.ofNat k + 1 = Int32.ofNat (k + 1) := (Int32.ofNat_add k 1).symm
theorem j_s1 {k : Nat} (h : 0 < k) : Int32.ofNat k - 1 = Int32.ofNat (k - 1) := by
  have e : Int32.ofNat k = Int32.ofNat (k - 1) + 1 := by rw [j_a1]; congr 1; omega
  rw [e, Int32.add_sub_cancel]
theorem j_le {x y : Int32} : x ≤ y ↔ x.toInt ≤ y.toInt := Int32.le_iff_toInt_le
theorem j_lt {x y : Int32} : x < y ↔ x.toInt < y.toInt := Int32.lt_iff_toInt_lt
theorem j_eq {x y : Int32} : x = y ↔ x.toInt = y.toInt := ⟨fun h => by rw [h], Int32.toInt_inj.mp⟩
/-- a number that isn't below 0 and is below k is one of those of k -/
theorem j_of {x : Int32} (h0 : ¬ x < 0) : ∃ k : Nat, x = Int32.ofNat k ∧ k < 2147483648 := by
  have h1 : 0 ≤ x.toInt := by
    have := h0
    rw [j_lt] at this
    simpa using this
  refine ⟨x.toInt.toNat, ?_, ?_⟩
  · rw [j_eq, j_ti]
    · omega
    · have := Int32.toInt_lt x
      omega
  · have := Int32.toInt_lt x
    omega
theorem j_up {x : Int32} {N : Nat} (h0 : ¬ x < 0) (hN : N < 2147483648) (h : ¬ Int32.ofNat N ≤ x) : ∃ k : Nat, k < N ∧ x = Int32.ofNat k := by
  obtain ⟨k, rfl, hk⟩ := j_of h0
  rw [j_le, j_ti hN, j_ti hk] at h
  exact ⟨k, by omega, rfl⟩
/-- no index outside -/
theorem j_in {k N : Nat} (hk : k < N) (hN : N < 2147483648) : ¬ (Int32.ofNat k < 0 ∨ N ≤ (Int32.ofNat k).toNatClampNeg) := by
  rw [j_nn (by omega), j_lt, j_ti (by omega)]
  simp
  omega
theorem j_n0 {k : Nat} (hk : k < 2147483648) : ¬ Int32.ofNat k < 0 := by
  rw [j_lt, j_ti hk]
  simp
theorem j_gd {ρ : Type} {c : Prop} [Decidable c] {A : Option ρ} (h : ¬ c) : wd_gd c A = A := by
  unfold wd_gd
  rw [if_neg h]
theorem j_ll {k m : Nat} (hk : k < 2147483648) (hm : m < 2147483648) : (Int32.ofNat k ≤ Int32.ofNat m) = (k ≤ m) := by
  rw [j_le, j_ti hk, j_ti hm]
  simp
theorem j_lx {k m : Nat} (hk : k < 2147483648) (hm : m < 2147483648) : (Int32.ofNat k < Int32.ofNat m) = (k < m) := by
  rw [j_lt, j_ti hk, j_ti hm]
  simp
theorem j_ee {k m : Nat} (hk : k < 2147483648) (hm : m < 2147483648) : (Int32.ofNat k = Int32.ofNat m) = (k = m) := by
  rw [j_eq, j_ti hk, j_ti hm, eq_iff_iff]
  omega
