/-! ===== PURE: the part of the steps with a packet ===== -/
section US
variable {n c B nm g q K G s : Nat} {z w : Wd} {b1 b2 : Be} {A1 A2 : Ta}
theorem u_i2d {a : Nat} (ha : a < 2147483648) : ∃ (c : Nat) (e : Int), FP.Core.val64 (FP.Core.i2d (Int32.ofNat a)) = .fin false c e ∧ c * 2 ^ e.toNat = a * 2 ^ (-e).toNat := by
  have h := FP.Core.i2d_int (Int32.ofNat a)
  have hs : FP.Core.sgn (FP.Core.val64 (FP.Core.i2d (Int32.ofNat a))) = false := by
    rw [FP.Core.val64_i2d]
    show FP.Core.sgn (FP.Core.roundRatio _ (decide ((Int32.ofNat a).toInt < 0)) _ 1 0) = _
    rw [FP.Core.sgn_roundRatio, j_ti ha]
    simp
  unfold FP.Core.DInt at h
  rw [j_ti ha] at h
  cases hv : FP.Core.val64 (FP.Core.i2d (Int32.ofNat a)) with
  | nan => rw [hv] at h; exact h.elim
  | inf s => rw [hv] at h; exact h.elim
  | fin s c e =>
    rw [hv] at h hs
    have hs' : s = false := hs
    subst hs'
    refine ⟨c, e, rfl, ?_⟩
    have h' : FP.Core.signed false (c * 2 ^ e.toNat) = (a : Int) * ((2 ^ (-e).toNat : Nat) : Int) := h
    have h2 : ((c * 2 ^ e.toNat : Nat) : Int) = ((a * 2 ^ (-e).toNat : Nat) : Int) := by
      rw [Int.natCast_mul a]
      exact h'
    exact Int.ofNat.inj h2
theorem u_div {a b : Nat} (hb : 1 ≤ b) (hab : a ≤ b) (hb2 : b < 2147483648) : ∃ (c : Nat) (d : Nat) (e : Int), FP.Core.val64 (FP.Core.ddiv (FP.Core.i2d (Int32.ofNat a)) (FP.Core.i2d (Int32.ofNat b))) = FP.Core.roundRatio FP.Core.b64 false c d e ∧ 0 < d ∧ ∀ e0 : Int, e0 ≤ 0 → e0 ≤ e → c * 2 ^ (e - e0).toNat ≤ d * 2 ^ (-e0).toNat := by
  obtain ⟨ca, qa, a1, a2⟩ := u_i2d (a := a) (by omega)
  obtain ⟨cb, qb, b1, b2⟩ := u_i2d (a := b) hb2
  have hcb : 0 < cb := by
    rcases Nat.eq_zero_or_pos cb with e | e
    · rw [e, Nat.zero_mul] at b2
      have := Nat.mul_pos hb (Nat.two_pow_pos (-qb).toNat)
      omega
    · exact e
  refine ⟨ca, cb, qa - qb, ?_, hcb, fun e0 h0 h1 => ?_⟩
  · rw [FP.Core.val64_ddiv, a1, b1]
    show (if cb = 0 then _ else _) = _
    rw [if_neg (by omega)]
    rfl
  · have hM : 0 < 2 ^ (qb.toNat + (-qa).toNat) := Nat.two_pow_pos _
    refine Nat.le_of_mul_le_mul_right ?_ hM
    have l1 : ca * 2 ^ (qa - qb - e0).toNat * 2 ^ (qb.toNat + (-qa).toNat) = a * 2 ^ ((-qa).toNat + (-qb).toNat + (-e0).toNat) := by
      rw [Nat.mul_assoc, ← Nat.pow_add, show (qa - qb - e0).toNat + (qb.toNat + (-qa).toNat) = qa.toNat + ((-qb).toNat + (-e0).toNat) by omega, Nat.pow_add, ← Nat.mul_assoc, a2, Nat.mul_assoc, ← Nat.pow_add, Nat.add_assoc]
    have l2 : cb * 2 ^ (-e0).toNat * 2 ^ (qb.toNat + (-qa).toNat) = b * 2 ^ ((-qa).toNat + (-qb).toNat + (-e0).toNat) := by
      rw [Nat.mul_assoc, ← Nat.pow_add, show (-e0).toNat + (qb.toNat + (-qa).toNat) = qb.toNat + ((-e0).toNat + (-qa).toNat) by omega, Nat.pow_add, ← Nat.mul_assoc, b2, Nat.mul_assoc, ← Nat.pow_add, show (-qb).toNat + ((-e0).toNat + (-qa).toNat) = (-qa).toNat + (-qb).toNat + (-e0).toNat by omega]
    rw [l1, l2]
    exact Nat.mul_le_mul_right _ hab
theorem u_ok {a b : Nat} (hb : 1 ≤ b) (hab : a ≤ b) (hb2 : b < 2147483648) : (FP.ddiv (FP.i2d (Int32.ofNat a)) (FP.i2d (Int32.ofNat b)) &&& 9223372036854775807 ≤ 9218868437227405312) ∧ ¬ Op.cmpValue (FP.dcmp (FP.ddiv (FP.i2d (Int32.ofNat a)) (FP.i2d (Int32.ofNat b))) FP.dconst0) .g < 0 ∧ Op.cmpValue (FP.dcmp (FP.ddiv (FP.i2d (Int32.ofNat a)) (FP.i2d (Int32.ofNat b))) FP.dconst1) .l ≤ 0 := by
  obtain ⟨c, d, e, h1, h2, h3⟩ := u_div hb hab hb2
  show (FP.Core.ddiv (FP.Core.i2d (Int32.ofNat a)) (FP.Core.i2d (Int32.ofNat b)) &&& 9223372036854775807 ≤ 9218868437227405312) ∧ ¬ Op.cmpValue (FP.Core.dcmp (FP.Core.ddiv (FP.Core.i2d (Int32.ofNat a)) (FP.Core.i2d (Int32.ofNat b))) FP.Core.dconst0) .g < 0 ∧ Op.cmpValue (FP.Core.dcmp (FP.Core.ddiv (FP.Core.i2d (Int32.ofNat a)) (FP.Core.i2d (Int32.ofNat b))) FP.Core.dconst1) .l ≤ 0
  generalize FP.Core.ddiv (FP.Core.i2d (Int32.ofNat a)) (FP.Core.i2d (Int32.ofNat b)) = r at *
  have hn : FP.Core.val64 r ≠ .nan := by rw [h1]; exact FP.Core.roundRatio_ne_nan _ _ _ _ _
  have hs : FP.Core.sgn (FP.Core.val64 r) = false := by rw [h1]; exact FP.Core.sgn_roundRatio _ _ _ _ _
  have h1n : FP.Core.val64 FP.Core.dconst1 ≠ .nan := by rw [FP.Core.val64_dconst1]; exact FP.Core.Datum.noConfusion
  have h0n : FP.Core.val64 FP.Core.dconst0 ≠ .nan := by rw [FP.Core.val64_dconst0]; exact FP.Core.Datum.noConfusion
  have hz : FP.Core.zval FP.Core.b64 (FP.Core.val64 r) = (FP.Core.zmag FP.Core.b64 (FP.Core.val64 r) : Int) := by
    unfold FP.Core.zval
    rw [hs]; rfl
  refine ⟨?_, ?_, ?_⟩
  · rw [UInt64.le_iff_toNat_le]
    have e1 := FP.Core.mask_toNat r
    have e2 := (FP.Core.ne_nan r).mp hn
    have e3 : (r &&& 9223372036854775807).toNat = r.toNat % 2 ^ 63 := e1
    rw [e3]
    exact e2
  · have hge := (FP.Core.dcmp_ge (a := r) (b := FP.Core.dconst0)).mpr ⟨hn, h0n, by
      rw [hz, FP.Core.val64_dconst0]
      show (FP.Core.signed false (FP.Core.inUnits 0 _ _)) ≤ _
      unfold FP.Core.inUnits FP.Core.signed
      simp⟩
    rcases hge with x | x <;> rw [x] <;> decide
  · have hle := (FP.Core.dcmp_le (a := r) (b := FP.Core.dconst1)).mpr ⟨hn, h1n, by
      have hm : FP.Core.zmag FP.Core.b64 (FP.Core.val64 r) ≤ FP.Core.zmag FP.Core.b64 (FP.Core.val64 FP.Core.dconst1) := by
        rw [h1]
        refine FP.Core.zmag_roundRatio_le (V := FP.Core.val64 FP.Core.dconst1) (e0 := min FP.Core.b64.qmin e) FP.Core.good_b64 h2 (FP.Core.val64_fits _) h1n (Int.min_le_left _ _) (Int.min_le_right _ _) ?_
        have hq : FP.Core.b64.qmin = -1074 := FP.Core.qmin_b64
        have := h3 (min FP.Core.b64.qmin e) (by rw [hq]; omega) (Int.min_le_right _ _)
        refine Nat.le_trans this ?_
        rw [FP.Core.val64_dconst1]
        show _ ≤ 2 ^ 52 * 2 ^ ((-52 : Int) - FP.Core.b64.qmin).toNat * 2 ^ (FP.Core.b64.qmin - min FP.Core.b64.qmin e).toNat * d
        rw [← Nat.pow_add, ← Nat.pow_add, Nat.mul_comm d, hq]
        refine Nat.le_of_eq ?_
        congr 2
        omega
      rw [hz]
      have h2' : FP.Core.zval FP.Core.b64 (FP.Core.val64 FP.Core.dconst1) = (FP.Core.zmag FP.Core.b64 (FP.Core.val64 FP.Core.dconst1) : Int) := by
        rw [FP.Core.val64_dconst1]
        rfl
      rw [h2']
      exact Int.ofNat_le.mpr hm⟩
    rcases hle with x | x <;> rw [x] <;> decide
theorem x_use (h : Ls B nm g q K G s z w b1 A1 b2 A2) (hg : g ≤ 44) : ∃ r, f_X11_use n w B = some (r, w) ∧ ¬ (Op.cmpValue (FP.dcmp r FP.dconst0) .g) < 0 ∧ (Op.cmpValue (FP.dcmp r FP.dconst1) .l) ≤ 0 := by
  have c1 := h.1.2.1.2.2.1
  have hb := h.2.2.2.2.2.1
  obtain ⟨l1, l2, l3⟩ := h.2.2.2.2.2.2.2.1
  have e2 : wd_I w 902 (B + 77) = Int32.ofNat (tN A1 902 0) := by rw [c1.2.2.1, hb, Nat.zero_add]
  have e3 : wd_I w 903 (B + 77) = Int32.ofNat (tN A1 903 0) := by rw [c1.2.2.2.1, hb, Nat.zero_add]
  rw [f_X11_use, h.1.2.2.2.2.1.2.1, Option.bind_some, e2]
  by_cases e : tN A1 902 0 = 0
  · rw [if_pos (by rw [e]; rfl)]
    exact ⟨_, rfl, by decide +kernel, by decide +kernel⟩
  · obtain ⟨u1, u2, u3⟩ := u_ok (a := tN A1 903 0) (b := tN A1 902 0) (by omega) l2 (by omega)
    rw [if_neg (by rw [show (0 : Int32) = Int32.ofNat 0 from rfl, j_ee (by omega) (by omega)]; exact e), Option.bind_some, Option.bind_some, e3, e2, j_gd (fun x => x u1)]
    exact ⟨_, rfl, u2, u3⟩
end US
