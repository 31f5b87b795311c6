/-! ===== PURE: the machines are right ===== -/
section MR
variable {P i j n c B nm g q K G s : Nat} {z w u v : Wd} {b1 b2 : Be} {A1 A2 : Ta}
theorem p_lengthTo (hz : PS P z) (hw : PW P z w) (hi : i < 8) (x : Int32) : f_X3_lengthTo n w (mA P i) x = some (tb z (mA P i + 8) 256 x, w) := by
  have h1 : wd_R w 312 (mA P i) = some (mA P i + 8) := by rw [(pw_m0 hw hi).2.1]; exact (hz.2.1 i hi).2.2.2.2.2.2.2.2
  have h2 : wd_N w (mA P i + 8) = 256 := by rw [(pw_m hw hi (by omega)).2.2.2.2]; exact (hz.2.2.1 i hi).2.2.2.2.2.2.2
  have h3 := (pw_m hw hi (j := 8) (by omega)).2.2.1
  unfold f_X3_lengthTo f_X3_lengthTo_j20 tb
  by_cases c1 : x < 0
  · rw [if_pos c1, if_pos c1]
  rw [if_neg c1, if_neg c1]
  by_cases c2 : (256 : Int32) ≤ x
  · rw [if_pos c2, if_pos (show Int32.ofNat 256 ≤ x from c2)]
  rw [if_neg c2, if_neg (show ¬ Int32.ofNat 256 ≤ x from c2)]
  obtain ⟨k, hk, rfl⟩ := j_up (N := 256) c1 (by omega) c2
  rw [h1, Option.bind, j_gd (by rw [h2]; exact j_in hk (by omega)), h3]
theorem j_m1 {k : Nat} (hk : k < 2147483648) : ¬ Int32.ofNat k = -1 := fun e => by
  have := j_n0 hk
  rw [e] at this
  exact this (by decide)
theorem x_ways (h : Nw B 2 nm s z w b1 A1 b2 A2) (h3 : 3 ≤ nm) (hj : j < nm) {x : Nat} (hx : x < 256) : ∃ p d l : Int32, f_X11_way n w B (Int32.ofNat j) (Int32.ofNat x) (0 : Int32) = some (p, w) ∧ f_X11_way n w B (Int32.ofNat j) (Int32.ofNat x) (1 : Int32) = some (d, w) ∧ f_X11_way n w B (Int32.ofNat j) (Int32.ofNat x) (2 : Int32) = some (l, w) ∧ ¬ p < (-2 : Int32) ∧ ¬ (3 : Int32) < p ∧ (p = -1 ↔ d = -1) ∧ (p = -1 ↔ l = -1) := by
  have h8 := h.mm.2
  have hz := h.1.ps h3
  have hw := h.2.1.1
  have hh := h.h2 (j := j) (by omega)
  refine ⟨wd_A z (mA (B + 1) j + 6) x, wd_A z (mA (B + 1) j + 7) x, wd_A z (mA (B + 1) j + 8) x, ?_, ?_, ?_, ?_⟩
  · rw [f_X11_way, x_hostOf h hj, wd_b2_s, Option.bind_some, wd_let, hh, x_addr x hx, Option.bind_some, show f_X11_needPart n w 0 3 = some w from x_part 0 3 (by omega) (by omega), Option.bind_some, if_pos rfl, Option.bind_some, p_portTo hz hw (by omega), wd_b2_s, ptv, tb_of hx (by omega)]
  · rw [f_X11_way, x_hostOf h hj, wd_b2_s, Option.bind_some, wd_let, hh, x_addr x hx, Option.bind_some, show f_X11_needPart n w 1 3 = some w from x_part 1 3 (by omega) (by omega), Option.bind_some, if_neg (by decide), if_pos rfl, Option.bind_some, p_hopTo hz hw (by omega), wd_b2_s, hpv, tb_of hx (by omega)]
  · rw [f_X11_way, x_hostOf h hj, wd_b2_s, Option.bind_some, wd_let, hh, x_addr x hx, Option.bind_some, show f_X11_needPart n w 2 3 = some w from x_part 2 3 (by omega) (by omega), Option.bind_some, if_neg (by decide), if_neg (by decide), Option.bind_some, p_lengthTo hz hw (by omega), wd_b2_s, tb_of hx (by omega)]
  · rcases h.1.2.2.2.2 j x (by omega) hx with ⟨e1, e2, e3⟩ | ⟨⟨k, k1, k2⟩, ⟨e1, t, e2, t2, -⟩ | ⟨k', q, y, k3, e1, -, y2, e2⟩⟩
    · rw [e1, e2, e3]; exact ⟨by decide, by decide, Iff.rfl, Iff.rfl⟩
    · rw [e1, e2, k2]
      have f1 := j_m1 (k := t) (by omega)
      have f2 := j_m1 (k := k) (by omega)
      exact ⟨by decide, by decide, ⟨fun e => absurd e (by decide), fun e => absurd e f1⟩, ⟨fun e => absurd e (by decide), fun e => absurd e f2⟩⟩
    · rw [e1, e2, k2]
      have f0 := j_m1 (k := k') (by omega)
      have f1 := j_m1 (k := y) (by omega)
      have f2 := j_m1 (k := k) (by omega)
      refine ⟨fun e => ?_, ?_, ⟨fun e => absurd e f0, fun e => absurd e f1⟩, ⟨fun e => absurd e f0, fun e => absurd e f2⟩⟩
      · rw [j_lt, j_ti (by omega)] at e
        have : (-2 : Int32).toInt = -2 := by decide
        omega
      · rw [show (3 : Int32) = Int32.ofNat 3 from rfl, j_lx (by omega) (by omega)]; omega
theorem x_knows (h : Nw B 2 nm s z w b1 A1 b2 A2) (hj : j < nm) {x : Nat} (hx : x < 256) : f_X11_knows n w B (Int32.ofNat j) (Int32.ofNat x) = some (tM A1 j x, w) := by
  have h8 := h.mm.2
  rw [f_X11_knows, x_hostOf h hj, wd_b2_s, x_addr x hx, Option.bind_some, Option.bind_some, o_knownMark h.2.1 (by omega), wd_b2_s, kmv, if_neg (j_n0 (by omega)), if_neg (by rw [j_ll (by omega) (by omega)]; omega), j_nn (by omega)]
theorem Ls.heaps (h : Ls B nm g q K G s z w b1 A1 b2 A2) (hj : j < nm) : f_X11_heaps n w B (Int32.ofNat j) = some (Int32.ofNat (tK A1 j).length, w) := by
  have h8 := h.1.mm.2
  rw [f_X11_heaps, x_hostOf h.1 hj, wd_b2_s, Option.bind_some, (h.1.2.1.2.2.2.2.2.2 j (by omega)).2.2.2.1.1]
theorem Ls.noted (h : Ls B nm g q K G s z w b1 A1 b2 A2) (hj : j < nm) : f_X11_noted n w B (Int32.ofNat j) = some (Int32.ofNat (tO A1 j).length, w) ∧ (tO A1 j).length < 1073741824 := by
  have h8 := h.1.mm.2
  have e := (h.1.2.1.2.2.2.2.2.2 j (by omega)).2.2.2.2
  have e1 := e.1
  have e2 := e.2.1
  rw [h.2.2.2.2.2.1] at e1 e2
  rw [Nat.zero_add] at e1 e2
  exact ⟨by rw [f_X11_noted, x_hostOf h.1 hj, wd_b2_s, Option.bind_some, e1], e2⟩
theorem Ls.note (h : Ls B nm g q K G s z w b1 A1 b2 A2) (hj : j < nm) {k x : Nat} (hk : k < 10) {f : Nat → Int32} (hf : (tO A1 j)[k]? = some f) (hx : x < 6) : f_X11_note n w B (Int32.ofNat j) (Int32.ofNat k) (Int32.ofNat x) = some (f x, w) := by
  have h8 := h.1.mm.2
  have hl : k < (tO A1 j).length := (List.getElem?_eq_some_iff.mp hf).1
  rw [f_X11_note, x_hostOf h.1 hj, wd_b2_s, Option.bind_some, o_isTold h.1.2.1 (by omega) (by omega), wd_b2_s, decide_eq_true ⟨hk, by omega⟩, if_neg (by decide), show f_X11_needPart n w (Int32.ofNat x) 6 = some w from x_part x 6 hx (by omega), Option.bind_some, o_notePart h.1.2.1 (by omega) hk hf hx, wd_b2_s]
theorem tb_get {ρ : Type} {k : Nat} (h : Tb B z w) (hk : k < 32) (F : Nat → Option ρ) : (wd_gd (Int32.ofNat k < 0 ∨ wd_N w (B + 200) ≤ (Int32.ofNat k).toNatClampNeg) (Option.bind (wd_Q w (B + 200) (Int32.ofNat k).toNatClampNeg) fun a => wd_gd ((1 : Int32) < 0 ∨ wd_N w a ≤ (1 : Int32).toNatClampNeg) (F a))) = F (B + 201 + k) := by
  obtain ⟨t1, t2, t3⟩ := h
  obtain ⟨q1, q2⟩ := t2 k hk
  rw [j_gd (by rw [t1]; exact j_in hk (by omega)), j_nn (by omega), q1, Option.bind_some, j_gd (by rw [q2]; decide)]
theorem tb_get0 {ρ : Type} {k : Nat} (h : Tb B z w) (hk : k < 32) (F : Nat → Option ρ) : (wd_gd (Int32.ofNat k < 0 ∨ wd_N w (B + 200) ≤ (Int32.ofNat k).toNatClampNeg) (Option.bind (wd_Q w (B + 200) (Int32.ofNat k).toNatClampNeg) fun a => wd_gd ((0 : Int32) < 0 ∨ wd_N w a ≤ (0 : Int32).toNatClampNeg) (F a))) = F (B + 201 + k) := by
  obtain ⟨t1, t2, t3⟩ := h
  obtain ⟨q1, q2⟩ := t2 k hk
  rw [j_gd (by rw [t1]; exact j_in hk (by omega)), j_nn (by omega), q1, Option.bind_some, j_gd (by rw [q2]; decide)]
theorem j_c1 : (1 : Int32).toNatClampNeg = 1 := by decide
theorem j_c0 : (0 : Int32).toNatClampNeg = 0 := by decide
/-- a port of the table: its address is its owner's -/
theorem Ls.mark (h : Ls B nm g q K G s z w b1 A1 b2 A2) {k x : Nat} (hk : k < 32) (hx : x < 256) (hA : wd_A w (B + 201 + k) 1 = Int32.ofNat x) : ∃ q', wd_Q z (mA (B + 1) (k / 4) + 1) (k % 4) = some q' ∧ wd_I z 702 q' = Int32.ofNat x ∧ wd_I z 700 q' = Int32.ofNat k ∧ wd_A w (B + 201 + k) 0 = wd_I z 701 q' ∧ wd_Q z (B + 1 + 3) x = some q' := by
  rcases h.2.2.1.at hk with ⟨q', x', g1, g2, g3, g4, g5⟩ | ⟨-, g2⟩
  · have e : x = x' := by
      rw [g5] at hA
      have := hA.symm
      rw [j_ee (by omega) (by omega)] at this
      exact this
    subst e
    obtain ⟨d1, -, x'', d3, d4, d5⟩ := h.1.1.2.2.2.1.1 (k / 4) (k % 4) q' (by omega) (by omega) g1
    have e : x = x'' := by
      rw [g3] at d4
      rw [j_ee (by omega) (by omega)] at d4
      exact d4
    subst e
    exact ⟨q', g1, g3, by rw [d1, show 4 * (k / 4) + k % 4 = k by omega], g4, d5⟩
  · rw [g2] at hA
    exact absurd hA.symm (j_m1 (by omega))
theorem m_213 (h : Ls B nm g q K G s z w b1 A1 b2 A2) (hj : j < nm) {t x : Nat} (ht : t < 32) (hx : x < 256) (hA : wd_A w (B + 201 + t) 1 = Int32.ofNat x) (r40 : Option Nat → Option Nat → Int32 → Wd → Option (Int32 × Wd)) (r170 : Option Nat → Option Nat → Int32 → Int32 → Wd → Option (Int32 × Wd)) : f_L_areMachinesRight_j213 n r40 r170 (some B) (some (B + 200)) (Int32.ofNat j) (Int32.ofNat t) w = r170 (some B) (some (B + 200)) (Int32.ofNat j) (Int32.ofNat (t + 1)) w := by
  obtain ⟨p, d, l, w1, w2, w3, w4, w5, w6, w7⟩ := x_ways (n := n) h.1 h.2.1 hj hx
  have hT := h.2.2.1
  have e309 : f_L_areMachinesRight_j309 n r40 r170 (some B) (some (B + 200)) (Int32.ofNat j) (Int32.ofNat t) w = r170 (some B) (some (B + 200)) (Int32.ofNat j) (Int32.ofNat (t + 1)) w := by rw [f_L_areMachinesRight_j309, wd_let, j_a1]
  have e284 : ∀ y : Int32, (y = if d = -1 then 1 else 0) → f_L_areMachinesRight_j284 n r40 r170 y (some B) (some (B + 200)) (Int32.ofNat j) (Int32.ofNat t) w = r170 (some B) (some (B + 200)) (Int32.ofNat j) (Int32.ofNat (t + 1)) w := by
    intro y hy
    rw [f_L_areMachinesRight_j284, Option.bind_some, tb_get hT ht, Option.bind_some, j_c1, hA, w2, wd_b2_s]
    by_cases e : d = -1
    · rw [if_pos e, hy, if_pos e, f_L_areMachinesRight_j304, if_pos rfl, e309]
    · rw [if_neg e, hy, if_neg e, f_L_areMachinesRight_j304, if_pos rfl, e309]
  have e250 : ∀ y : Int32, (y = if l = -1 then 1 else 0) → f_L_areMachinesRight_j250 n r40 r170 y (some B) (some (B + 200)) (Int32.ofNat j) (Int32.ofNat t) p w = r170 (some B) (some (B + 200)) (Int32.ofNat j) (Int32.ofNat (t + 1)) w := by
    intro y hy
    have e270 : f_L_areMachinesRight_j270 n r40 r170 y y (some B) (some (B + 200)) (Int32.ofNat j) (Int32.ofNat t) p w = r170 (some B) (some (B + 200)) (Int32.ofNat j) (Int32.ofNat (t + 1)) w := by
      rw [f_L_areMachinesRight_j270, if_pos rfl]
      by_cases e : p = -1
      · rw [if_pos e, e284 1 (by rw [if_pos (w6.mp e)])]
      · rw [if_neg e, e284 0 (by rw [if_neg (fun f => e (w6.mpr f))])]
    rw [f_L_areMachinesRight_j250, Option.bind_some, tb_get hT ht, Option.bind_some, j_c1, hA, w3, wd_b2_s]
    by_cases e : l = -1
    · rw [if_pos e] at hy ⊢; rw [hy] at e270 ⊢; exact e270
    · rw [if_neg e] at hy ⊢; rw [hy] at e270 ⊢; exact e270
  rw [f_L_areMachinesRight_j213, Option.bind_some, tb_get hT ht, Option.bind_some, j_c1, hA, w1, wd_b2_s, if_neg w4, if_neg w5]
  by_cases e : p = -1
  · rw [if_pos e, e250 1 (by rw [if_pos (w7.mp e)])]
  · rw [if_neg e, e250 0 (by rw [if_neg (fun f => e (w7.mpr f))])]
theorem m_170 (h : Ls B nm g q K G s z w b1 A1 b2 A2) (hj : j < nm) (r40 : Option Nat → Option Nat → Int32 → Wd → Option (Int32 × Wd)) : ∀ (k t m : Nat), t + k = 32 → k < m → wd_lp5 (f_L_areMachinesRight_l170 n r40) m (some B) (some (B + 200)) (Int32.ofNat j) (Int32.ofNat t) w = r40 (some B) (some (B + 200)) (Int32.ofNat (j + 1)) w := by
  have h8 := h.1.mm.2
  have hT := h.2.2.1
  intro k
  induction k with
  | zero =>
    intro t m ht hm
    obtain ⟨m, rfl⟩ : ∃ r, m = r + 1 := ⟨m - 1, by omega⟩
    rw [wd_lp5, f_L_areMachinesRight_l170, if_pos (by rw [show (32 : Int32) = Int32.ofNat 32 from rfl, j_ll (by omega) (by omega)]; omega), wd_let, j_a1]
  | succ k ih =>
    intro t m ht hm
    obtain ⟨m, rfl⟩ : ∃ r, m = r + 1 := ⟨m - 1, by omega⟩
    have h32 : t < 32 := by omega
    rw [wd_lp5, f_L_areMachinesRight_l170, if_neg (by rw [show (32 : Int32) = Int32.ofNat 32 from rfl, j_ll (by omega) (by omega)]; omega), Option.bind_some, tb_get hT h32, j_c1]
    rcases hT.at h32 with ⟨q', x, g1, g2, g3, g4, g5⟩ | ⟨-, g2⟩
    · have g2' : ∀ {ρ : Type} (F : Option ρ), wd_gd ((1 : Int32) < 0 ∨ wd_N w (B + 201 + t) ≤ 1) F = F := fun F => j_gd (by rw [(hT.2.1 t h32).2]; decide)
      rw [g5, if_pos (by rw [show (0 : Int32) = Int32.ofNat 0 from rfl, j_ll (by omega) (by omega)]; omega), j_gd (by rw [hT.1]; exact j_in h32 (by omega)), j_nn (by omega), (hT.2.1 t h32).1, Option.bind_some, g2', Option.bind_some, g5, x_knows h.1 hj g2, wd_b2_s]
      have e213 := m_213 (n := n) h hj h32 g2 g5 r40 (wd_lp5 (f_L_areMachinesRight_l170 n r40) m)
      obtain ⟨q1, m1, m2, m3, m4, m5⟩ := h.mark h32 g2 g5
      rcases h.2.2.2.2.1.2.2.2.1.2.2.2.2.2.1 j x (by omega) g2 with e | ⟨q2, e1, e2⟩
      · rw [e, if_pos rfl, e213, ih (t + 1) m (by omega) (by omega)]
      · have : q2 = q1 := by rw [m5] at e1; cases e1; rfl
        subst this
        rw [e2, m3, if_neg (j_m1 (by omega)), if_pos rfl, e213, ih (t + 1) m (by omega) (by omega)]
    · rw [g2, if_neg (by decide), f_L_areMachinesRight_j309, wd_let, j_a1, ih (t + 1) m (by omega) (by omega)]
end MR
