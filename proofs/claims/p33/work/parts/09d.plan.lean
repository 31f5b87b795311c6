/-! ===== PURE: what is read of the plan ===== -/
section PLN
variable {P T X n i : Nat} {z w : Wd}
theorem pw_m (hw : PW P z w) (hi : i < 8) {j : Nat} (hj : j < 9) : ag z w (mA P i + j) := hw _ (Or.inl ⟨by unfold mA; omega, by unfold mA; omega⟩)
theorem pw_p (hw : PW P z w) {j : Nat} (hj : j < 76) : ag z w (P + j) := hw _ (Or.inl ⟨by omega, by omega⟩)
theorem pw_m0 (hw : PW P z w) (hi : i < 8) : ag z w (mA P i) := pw_m hw hi (j := 0) (by omega)
theorem pw_p0 (hw : PW P z w) : ag z w P := pw_p hw (j := 0) (by omega)
theorem pw_q (hw : PW P z w) (hi : i < 8) {k q : Nat} (hk : k < 4) (h : wd_Q z (mA P i + 1) k = some q) : ag z w q :=
  hw _ (Or.inr ⟨i, k, hi, hk, by rw [← h, show mA P i + 1 = P + 5 + 9 * i by unfold mA; omega]⟩)
/-- an element of a table, or -1 -/
def tb (z : Wd) (a N : Nat) (x : Int32) : Int32 := if x < 0 then -1 else if Int32.ofNat N ≤ x then -1 else wd_A z a x.toNatClampNeg
theorem tb_of {a N k : Nat} (hk : k < N) (hN : N < 2147483648) : tb z a N (Int32.ofNat k) = wd_A z a k := by
  unfold tb
  rw [if_neg (j_n0 (by omega)), if_neg (by rw [j_ll hN (by omega)]; omega), j_nn (by omega)]
abbrev ptv (P : Nat) (z : Wd) (i : Nat) (x : Int32) : Int32 := tb z (mA P i + 6) 256 x
abbrev hpv (P : Nat) (z : Wd) (i : Nat) (x : Int32) : Int32 := tb z (mA P i + 7) 256 x
theorem p_portTo (hz : PS P z) (hw : PW P z w) (hi : i < 8) (x : Int32) : f_X3_portTo n w (mA P i) x = some (ptv P z i x, w) := by
  have h1 : wd_R w 310 (mA P i) = some (mA P i + 6) := by rw [(pw_m0 hw hi).2.1]; exact (hz.2.1 i hi).2.2.2.2.2.2.1
  have h2 : wd_N w (mA P i + 6) = 256 := by rw [(pw_m hw hi (by omega)).2.2.2.2]; exact (hz.2.2.1 i hi).2.2.2.2.2.1
  have h3 := (pw_m hw hi (j := 6) (by omega)).2.2.1
  unfold f_X3_portTo f_X3_portTo_j20 ptv tb
  by_cases c1 : x < 0
  · rw [if_pos c1, if_pos c1]
  rw [if_neg c1, if_neg c1]
  by_cases c2 : (256 : Int32) ≤ x
  · rw [if_pos c2, if_pos (show Int32.ofNat 256 ≤ x from c2)]
  rw [if_neg c2, if_neg (show ¬ Int32.ofNat 256 ≤ x from c2)]
  obtain ⟨k, hk, rfl⟩ := j_up (N := 256) c1 (by omega) c2
  rw [h1, Option.bind, j_gd (by rw [h2]; exact j_in hk (by omega)), h3]
theorem p_hopTo (hz : PS P z) (hw : PW P z w) (hi : i < 8) (x : Int32) : f_X3_hopTo n w (mA P i) x = some (hpv P z i x, w) := by
  have h1 : wd_R w 311 (mA P i) = some (mA P i + 7) := by rw [(pw_m0 hw hi).2.1]; exact (hz.2.1 i hi).2.2.2.2.2.2.2.1
  have h2 : wd_N w (mA P i + 7) = 256 := by rw [(pw_m hw hi (by omega)).2.2.2.2]; exact (hz.2.2.1 i hi).2.2.2.2.2.2.1
  have h3 := (pw_m hw hi (j := 7) (by omega)).2.2.1
  unfold f_X3_hopTo f_X3_hopTo_j20 hpv tb
  by_cases c1 : x < 0
  · rw [if_pos c1, if_pos c1]
  rw [if_neg c1, if_neg c1]
  by_cases c2 : (256 : Int32) ≤ x
  · rw [if_pos c2, if_pos (show Int32.ofNat 256 ≤ x from c2)]
  rw [if_neg c2, if_neg (show ¬ Int32.ofNat 256 ≤ x from c2)]
  obtain ⟨k, hk, rfl⟩ := j_up (N := 256) c1 (by omega) c2
  rw [h1, Option.bind, j_gd (by rw [h2]; exact j_in hk (by omega)), h3]
def fav (P : Nat) (z : Wd) (i : Nat) (x : Int32) : Int32 := if x < 0 then -1 else if wd_I z 309 (mA P i) ≤ x then -1 else wd_A z (mA P i + 5) x.toNatClampNeg
theorem p_farOf (hz : PS P z) (hw : PW P z w) (hi : i < 8) (x : Int32) : f_X3_farOf n w (mA P i) x = some (fav P z i x, w) := by
  have h1 : wd_R w 308 (mA P i) = some (mA P i + 5) := by rw [(pw_m0 hw hi).2.1]; exact (hz.2.1 i hi).2.2.2.2.2.1
  have h2 : wd_N w (mA P i + 5) = 2 := by rw [(pw_m hw hi (by omega)).2.2.2.2]; exact (hz.2.2.1 i hi).2.2.2.2.1
  have h3 := (pw_m hw hi (j := 5) (by omega)).2.2.1
  have h4 := (pw_m0 hw hi).1 309
  obtain ⟨c, hc, hc1, -⟩ := hz.2.2.2.2.1 i hi
  unfold f_X3_farOf f_X3_farOf_j21 fav
  rw [h4]
  by_cases c1 : x < 0
  · rw [if_pos c1, if_pos c1]
  rw [if_neg c1, if_neg c1]
  by_cases c2 : wd_I z 309 (mA P i) ≤ x
  · rw [if_pos c2, if_pos c2]
  rw [if_neg c2, if_neg c2]
  obtain ⟨k, hk, rfl⟩ := j_up (N := c) c1 (by omega) (by rw [← hc1]; exact c2)
  rw [h1, Option.bind, j_gd (by rw [h2]; exact j_in (by omega) (by omega)), h3]
def pov (P : Nat) (z : Wd) (i : Nat) (x : Int32) : Option Nat := if x < 0 then none else if Int32.ofNat 4 ≤ x then none else wd_Q z (mA P i + 1) x.toNatClampNeg
theorem p_port (hz : PS P z) (hw : PW P z w) (hi : i < 8) (x : Int32) : f_X3_port n w (mA P i) x = some (pov P z i x, w) := by
  have h1 : wd_R w 302 (mA P i) = some (mA P i + 1) := by rw [(pw_m0 hw hi).2.1]; exact (hz.2.1 i hi).2.1
  have h2 : wd_N w (mA P i + 1) = 4 := by rw [(pw_m hw hi (by omega)).2.2.2.2]; exact (hz.2.2.1 i hi).1
  have h3 := (pw_m hw hi (j := 1) (by omega)).2.2.2.1
  unfold f_X3_port f_X3_port_j18 pov
  by_cases c1 : x < 0
  · rw [if_pos c1, if_pos c1]
  rw [if_neg c1, if_neg c1]
  by_cases c2 : (4 : Int32) ≤ x
  · rw [if_pos c2, if_pos (show Int32.ofNat 4 ≤ x from c2)]
  rw [if_neg c2, if_neg (show ¬ Int32.ofNat 4 ≤ x from c2)]
  obtain ⟨k, hk, rfl⟩ := j_up (N := 4) c1 (by omega) c2
  rw [h1, Option.bind, j_gd (by rw [h2]; exact j_in hk (by omega)), h3]
def ht (z : Wd) (a k : Nat) (x : Int32) : Bool := match wd_Q z a k with
  | none => false
  | some q => decide (wd_I z 702 q = x)
def owv (P : Nat) (z : Wd) (i : Nat) (x : Int32) : Bool := ht z (mA P i + 1) 0 x || (ht z (mA P i + 1) 1 x || (ht z (mA P i + 1) 2 x || ht z (mA P i + 1) 3 x))
def bi (c : Bool) : Int32 := if c then 1 else 0
theorem bi_0 {c : Bool} : (bi c = 0) = (c = false) := by cases c <;> simp [bi]
theorem bi_t : bi true = 1 := rfl
theorem bi_f : bi false = 0 := rfl
theorem p_owns (hz : PS P z) (hw : PW P z w) (hi : i < 8) (hn : 5 ≤ n) (x : Int32) : f_X3_owns n w (mA P i) x = some (bi (owv P z i x), w) := by
  have h1 : wd_R w 302 (mA P i) = some (mA P i + 1) := by rw [(pw_m0 hw hi).2.1]; exact (hz.2.1 i hi).2.1
  have h2 : wd_N w (mA P i + 1) = 4 := by rw [(pw_m hw hi (by omega)).2.2.2.2]; exact (hz.2.2.1 i hi).1
  have h3 := (pw_m hw hi (j := 1) (by omega)).2.2.2.1
  have hs : ∀ k, k < 4 → ∀ rec : Nat → Int32 → Int32 → Wd → Option (Int32 × Wd), f_X3_owns_l2 n rec (mA P i) x (Int32.ofNat k) w = if ht z (mA P i + 1) k x = true then some ((1 : Int32), w) else rec (mA P i) x (Int32.ofNat (k + 1)) w := by
    intro k hk rec
    unfold f_X3_owns_l2 f_X3_owns_j28
    rw [if_neg (by rw [show (4 : Int32) = Int32.ofNat 4 from rfl, j_ll (by omega) (by omega)]; omega), h1, Option.bind, j_gd (by rw [h2]; exact j_in hk (by omega)), wd_let, j_nn (by omega), h3, wd_let, j_a1]
    unfold ht
    cases hq : wd_Q z (mA P i + 1) k with
    | none => rfl
    | some q =>
      show (if wd_I w 702 q = x then _ else _) = _
      rw [(pw_q hw hi hk hq).1]
      by_cases c : wd_I z 702 q = x
      · rw [if_pos c, if_pos (by simpa using c)]
      · rw [if_neg c, if_neg (by simpa using c)]
  obtain ⟨m, rfl⟩ : ∃ m, n = m + 5 := ⟨n - 5, by omega⟩
  unfold f_X3_owns owv
  have e : (0 : Int32) = Int32.ofNat 0 := rfl
  have hl : ∀ rec : Nat → Int32 → Int32 → Wd → Option (Int32 × Wd), f_X3_owns_l2 (m + 5) rec (mA P i) x (Int32.ofNat 4) w = some ((0 : Int32), w) := fun rec => by
    unfold f_X3_owns_l2
    rw [if_pos (by decide)]
  rw [e, wd_lp4, hs 0 (by omega), wd_lp4, hs 1 (by omega), wd_lp4, hs 2 (by omega), wd_lp4, hs 3 (by omega), wd_lp4, hl]
  cases ht z (mA P i + 1) 0 x <;> cases ht z (mA P i + 1) 1 x <;> cases ht z (mA P i + 1) 2 x <;> cases ht z (mA P i + 1) 3 x <;> rfl
def htv (P : Nat) (z : Wd) (i : Nat) (x : Int32) : Bool := decide ((0 : Int32) < wd_I z 309 (mA P i) ∧ wd_A z (mA P i + 5) 0 = x ∨ (1 : Int32) < wd_I z 309 (mA P i) ∧ wd_A z (mA P i + 5) 1 = x)
theorem p_hasTunnelTo (hz : PS P z) (hw : PW P z w) (hi : i < 8) (hn : 3 ≤ n) (x : Int32) : f_X3_hasTunnelTo n w (mA P i) x = some (bi (htv P z i x), w) := by
  have h1 : wd_R w 308 (mA P i) = some (mA P i + 5) := by rw [(pw_m0 hw hi).2.1]; exact (hz.2.1 i hi).2.2.2.2.2.1
  have h2 : wd_N w (mA P i + 5) = 2 := by rw [(pw_m hw hi (by omega)).2.2.2.2]; exact (hz.2.2.1 i hi).2.2.2.2.1
  have h3 := (pw_m hw hi (j := 5) (by omega)).2.2.1
  have h4 : wd_I w 309 (mA P i) = wd_I z 309 (mA P i) := (pw_m0 hw hi).1 309
  obtain ⟨c, hc, hc1, -⟩ := hz.2.2.2.2.1 i hi
  have hs : ∀ k, k < c → ∀ rec : Nat → Int32 → Int32 → Wd → Option (Int32 × Wd), f_X3_hasTunnelTo_l2 n rec (mA P i) x (Int32.ofNat k) w = if wd_A z (mA P i + 5) k = x then some ((1 : Int32), w) else rec (mA P i) x (Int32.ofNat (k + 1)) w := by
    intro k hk rec
    unfold f_X3_hasTunnelTo_l2
    rw [h4, hc1, if_neg (by rw [j_ll (by omega) (by omega)]; omega), h1, Option.bind, j_gd (by rw [h2]; exact j_in (by omega) (by omega)), j_nn (by omega), h3, wd_let, j_a1]
  have hl : ∀ rec : Nat → Int32 → Int32 → Wd → Option (Int32 × Wd), f_X3_hasTunnelTo_l2 n rec (mA P i) x (Int32.ofNat c) w = some ((0 : Int32), w) := fun rec => by
    unfold f_X3_hasTunnelTo_l2
    rw [h4, hc1, if_pos (by rw [j_ll (by omega) (by omega)]; omega)]
  unfold htv
  rw [hc1]
  have e : (0 : Int32) = Int32.ofNat 0 := rfl
  have e1 : (1 : Int32) = Int32.ofNat 1 := rfl
  generalize hk : f_X3_hasTunnelTo_l2 n = F at hs hl
  unfold f_X3_hasTunnelTo
  rw [hk]
  obtain ⟨m, rfl⟩ : ∃ m, n = m + 3 := ⟨n - 3, by omega⟩
  rw [show wd_lp4 F (m + 3) (mA P i) x (0 : Int32) w = F (wd_lp4 F (m + 2)) (mA P i) x (Int32.ofNat 0) w from rfl]
  have c3 : c = 0 ∨ c = 1 ∨ c = 2 := by omega
  rcases c3 with rfl | rfl | rfl
  · rw [hl]; rfl
  · rw [hs 0 (by omega), wd_lp4, hl]
    by_cases a : wd_A z (mA P i + 5) 0 = x
    · rw [if_pos a, decide_eq_true (Or.inl ⟨by decide, a⟩)]; rfl
    · rw [if_neg a, decide_eq_false (fun h => h.elim (fun h => a h.2) (fun h => absurd h.1 (by decide)))]; rfl
  · rw [hs 0 (by omega), wd_lp4, hs 1 (by omega), wd_lp4, hl]
    by_cases a : wd_A z (mA P i + 5) 0 = x
    · rw [if_pos a, decide_eq_true (Or.inl ⟨by decide, a⟩)]; rfl
    · rw [if_neg a]
      by_cases b : wd_A z (mA P i + 5) 1 = x
      · rw [if_pos b, decide_eq_true (Or.inr ⟨by decide, b⟩)]; rfl
      · rw [if_neg b, decide_eq_false (fun h => h.elim (fun h => a h.2) (fun h => b h.2))]; rfl
def wiv (P : Nat) (z : Wd) (x : Int32) : Int32 := if x < 0 then 200 else if wd_I z 501 P ≤ x then 200 else wd_A z (P + 1) x.toNatClampNeg
theorem p_widthOf (hz : PS P z) (hw : PW P z w) (x : Int32) : f_X5_widthOf n w P x = some (wiv P z x, w) := by
  have h1 : wd_R w 500 P = some (P + 1) := by rw [(pw_p0 hw).2.1]; exact hz.1.1
  have h2 : wd_N w (P + 1) = 8 := by rw [(pw_p hw (by omega)).2.2.2.2]; exact hz.1.2.2.2.1
  have h3 := (pw_p hw (j := 1) (by omega)).2.2.1
  have h4 : wd_I w 501 P = wd_I z 501 P := (pw_p0 hw).1 501
  have h5 := hz.2.2.2.1.1
  unfold f_X5_widthOf f_X5_widthOf_j21 wiv
  rw [h4]
  by_cases c1 : x < 0
  · rw [if_pos c1, if_pos c1]
  rw [if_neg c1, if_neg c1]
  by_cases c2 : wd_I z 501 P ≤ x
  · rw [if_pos c2, if_pos c2]
  rw [if_neg c2, if_neg c2]
  obtain ⟨k, hk, rfl⟩ := j_up (N := 2) c1 (by omega) (by rw [show Int32.ofNat 2 = wd_I z 501 P from h5.symm]; exact c2)
  rw [h1, Option.bind, j_gd (by rw [h2]; exact j_in (by omega) (by omega)), h3]
def pav (P : Nat) (z : Wd) (x : Int32) : Option Nat := if x < 0 then none else if Int32.ofNat 256 ≤ x then none else wd_Q z (P + 3) x.toNatClampNeg
theorem p_portWithAddress (hz : PS P z) (hw : PW P z w) (x : Int32) : f_X5_portWithAddress n w P x = some (pav P z x, w) := by
  have h1 : wd_R w 504 P = some (P + 3) := by rw [(pw_p0 hw).2.1]; exact hz.1.2.2.1
  have h2 : wd_N w (P + 3) = 256 := by rw [(pw_p hw (by omega)).2.2.2.2]; exact hz.1.2.2.2.2.2
  have h3 := (pw_p hw (j := 3) (by omega)).2.2.2.1
  unfold f_X5_portWithAddress f_X5_portWithAddress_j20 pav
  by_cases c1 : x < 0
  · rw [if_pos c1, if_pos c1]
  rw [if_neg c1, if_neg c1]
  by_cases c2 : (256 : Int32) ≤ x
  · rw [if_pos c2, if_pos (show Int32.ofNat 256 ≤ x from c2)]
  rw [if_neg c2, if_neg (show ¬ Int32.ofNat 256 ≤ x from c2)]
  obtain ⟨k, hk, rfl⟩ := j_up (N := 256) c1 (by omega) c2
  rw [h1, Option.bind, j_gd (by rw [h2]; exact j_in hk (by omega)), h3]
theorem j_dv {m : Nat} (h : m < 32) : Int32.ofNat m / (4 : Int32) = Int32.ofNat (m / 4) ∧ Int32.ofNat m - Int32.ofNat m / (4 : Int32) * (4 : Int32) = Int32.ofNat (m % 4) := by
  have : ∀ m : Fin 32, Int32.ofNat m.1 / (4 : Int32) = Int32.ofNat (m.1 / 4) ∧ Int32.ofNat m.1 - Int32.ofNat m.1 / (4 : Int32) * (4 : Int32) = Int32.ofNat (m.1 % 4) := by decide
  exact this ⟨m, h⟩
def pmv (P : Nat) (z : Wd) (x : Int32) : Option Nat := if x < 0 then none else if x < (32 : Int32) then wd_Q z (mA P (x.toNatClampNeg / 4) + 1) (x.toNatClampNeg % 4) else none
theorem p_portWithMark (hz : PS P z) (hw : PW P z w) (x : Int32) : f_X5_portWithMark n w P x = some (pmv P z x, w) := by
  have h1 : wd_R w 502 P = some (P + 2) := by rw [(pw_p0 hw).2.1]; exact hz.1.2.1
  have h2 : wd_N w (P + 2) = 8 := by rw [(pw_p hw (by omega)).2.2.2.2]; exact hz.1.2.2.2.2.1
  have h3 := (pw_p hw (j := 2) (by omega)).2.2.2.1
  unfold f_X5_portWithMark f_X5_portWithMark_j10 pmv
  by_cases c1 : x < 0
  · rw [if_pos c1, if_pos c1]
  rw [if_neg c1, if_neg c1]
  by_cases c2 : x < (32 : Int32)
  · rw [if_pos c2, if_pos c2]
    obtain ⟨k, hk, rfl⟩ := j_up (N := 32) c1 (by omega) (by rw [j_le]; rw [j_lt] at c2; have : (Int32.ofNat 32).toInt = (32 : Int32).toInt := rfl; omega)
    have hk4 : k / 4 < 8 := by omega
    rw [(j_dv hk).1, ← (j_dv hk).1, (j_dv hk).2, (j_dv hk).1, h1, Option.bind, j_gd (by rw [h2]; exact j_in hk4 (by omega)), j_nn (by omega), h3, (hz.2.1 _ hk4).1, Option.bind, p_port hz hw hk4, wd_b2, j_nn (by omega)]
    unfold pov
    rw [if_neg (j_n0 (by omega)), if_neg (by rw [j_ll (by omega) (by omega)]; omega), j_nn (by omega)]
  · rw [if_neg c2, if_neg c2]
end PLN
