/-! ===== PURE: by a port ===== -/
section GB
variable {P T X i j n : Nat} {z w u : Wd} {b : Be} {A A' : Ta}
theorem wiv_ok (hz : PS P z) (x : Int32) : ∃ k, 12 ≤ k ∧ k ≤ 200 ∧ wiv P z x = Int32.ofNat k := by
  unfold wiv
  by_cases c1 : x < 0
  · rw [if_pos c1]; exact ⟨200, by omega, by omega, rfl⟩
  rw [if_neg c1]
  by_cases c2 : wd_I z 501 P ≤ x
  · rw [if_pos c2]; exact ⟨200, by omega, by omega, rfl⟩
  rw [if_neg c2]
  obtain ⟨k, hk, rfl⟩ := j_up (N := 2) c1 (by omega) (by rw [show Int32.ofNat 2 = wd_I z 501 P from hz.2.2.2.1.1.symm]; exact c2)
  rw [j_nn (by omega)]
  exact hz.2.2.2.1.2.1 k hk
/-- as many pieces as there may be -/
def kp (A : Ta) (p : Nat) : Nat := (tI A 403 p).toNatClampNeg / 8 + 1
def gbF (P : Nat) (z : Wd) (A : Ta) (j p q : Nat) : Ta :=
  if tI A 403 p + 4 ≤ wiv P z (wd_I z 701 q) then gtF P z A j p q
  else gcF P z j p q ((wiv P z (wd_I z 701 q) - 4) / 4 * 4) (kp A p) (uN A 5 p 0) 0
theorem o_goByPort (hT : Tm P T X z w b A) (hI : Ix A) (hJ : Iy A) (hz : PS P z) (hj : j < 8) {p q : Nat} (hp : p < tN A 1 0) (hp3 : tN A 5 p = 3) (hq : pl P z q) (h8 : tI A 408 p = 0 ∨ tI A 408 p = 1)
    (hs0 : 0 ≤ (tI A 403 p).toInt) (hs : (tI A 403 p).toInt < 1000000) (hn : 7 ≤ n) (hnk : kp A p < n) (hX1 : tN A 1 0 + kp A p ≤ X) (hX3 : tN A 3 0 + kp A p ≤ X) :
    ∃ v b', f_X9_goByPort n w T (some (hA T j)) (some q) (some (b_pa b p)) = some v ∧ Tm P T X z v b' (gbF P z A j p q) ∧ Rl T w b v b' ∧ Ix (gbF P z A j p q) ∧ Iy (gbF P z A j p q) ∧
      tN (gbF P z A j p q) 1 0 ≤ tN A 1 0 + kp A p ∧ tN (gbF P z A j p q) 3 0 ≤ tN A 3 0 + kp A p := by
  have h3 := (hT.2.2.2.1 p hp).1 403 (by omega) (by omega)
  have h904 := hT.2.2.1.1.2.1
  have hw := hT.1
  have h701 : wd_I w 701 q = wd_I z 701 q := (hw q hq).1 701
  obtain ⟨k, hk1, hk2, hk⟩ := wiv_ok hz (wd_I z 701 q)
  have hmo : ((wiv P z (wd_I z 701 q) - 4) / 4 * 4) = Int32.ofNat ((k - 4) / 4 * 4) := by
    rw [hk, show (4 : Int32) = Int32.ofNat 4 from rfl, j_sb (by omega), j_di (by omega) (by omega), j_ml]
  have hkp1 : 1 ≤ kp A p := Nat.le_add_left 1 _
  have hop : ∃ v b', f_X9_goByPort_j40 n T (some (hA T j)) (some q) (some (b_pa b p)) w = some v ∧ Tm P T X z v b' (gtF P z A j p q) ∧ Rl T w b v b' := by
    obtain ⟨v, b', g1, g2, g3, -⟩ := o_goToHop (n := n) hT hI hz hj hn (by omega) hp hp3 hq
    exact ⟨v, b', by rw [f_X9_goByPort_j40, g1, Option.bind_some], g2, g3⟩
  unfold f_X9_goByPort gbF
  rw [Option.bind_some, h904, Option.bind_some, h701, p_widthOf hz hw, wd_b2_s, wd_let, Option.bind_some, h3, hmo]
  by_cases c : tI A 403 p + 4 ≤ wiv P z (wd_I z 701 q)
  · rw [if_pos c, if_pos c]
    obtain ⟨v, b', g1, g2, g3⟩ := hop
    obtain ⟨o1, o2, -, -, o5, o6, -⟩ := gt_ok (P := P) (z := z) (q := q) hI hJ hj hp hp3
    exact ⟨v, b', g1, g2, g3, o1, o2, by rw [o5]; omega, by omega⟩
  · rw [if_neg c, if_neg c, if_pos (by rw [show (1 : Int32) = Int32.ofNat 1 from rfl, j_ll (by omega) (by omega)]; omega)]
    have hT2 : Tm P T X z w b (uN A 5 p 0) := hT.tag (by omega)
    have hI2 : Ix (uN A 5 p 0) := hI.tag hp3
    have hJ2 : Iy (uN A 5 p 0) := hJ
    have hsz : (tI A 403 p).toInt ≤ ((0 : Nat) : Int) + (kp A p : Int) * (((k - 4) / 4 * 4 : Nat) : Int) := by
      have h1 : (tI A 403 p).toInt = ((tI A 403 p).toNatClampNeg : Int) := by rw [j_tn]; omega
      have h2 : (tI A 403 p).toNatClampNeg ≤ kp A p * 8 := by unfold kp; omega
      have h4 : kp A p * 8 ≤ kp A p * ((k - 4) / 4 * 4) := Nat.mul_le_mul_left _ (by omega)
      rw [h1, ← Int.natCast_mul]
      omega
    obtain ⟨v, b', g1, g2, g3, g4, g5, g6, g7⟩ := o_pieces (n := n) hz hj hn hq (mo := (k - 4) / 4 * 4) (by omega) (by omega) (kp A p) (x := 0) (m := n) hT2 hI2 hJ2 hp h8 hsz (by omega) hs hX1 hX3 hnk
    exact ⟨v, b', g1, g2, g3, g4, g5, g6, g7⟩
end GB
