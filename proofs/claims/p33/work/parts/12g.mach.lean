/-! ===== PURE: all machines are right ===== -/
section MR2
variable {P i j n c B nm g q K G s : Nat} {z w u v : Wd} {b1 b2 : Be} {A1 A2 : Ta}
theorem m_71 (h : Ls B nm g q K G s z w b1 A1 b2 A2) (hj : j < nm) (hn : 40 ≤ n) (r40 : Option Nat → Option Nat → Int32 → Wd → Option (Int32 × Wd)) : ∀ (k t m : Nat), t + k = 10 → k < m → wd_lp5 (f_L_areMachinesRight_l71 n r40) m (some B) (some (B + 200)) (Int32.ofNat j) (Int32.ofNat t) w = r40 (some B) (some (B + 200)) (Int32.ofNat (j + 1)) w := by
  have h8 := h.1.mm.2
  have hp := h.2.2.2.2.1.2.2.2.2.2
  have e170 := m_170 (n := n) h hj r40 32 0 n (by omega) (by omega)
  obtain ⟨n1, n2⟩ := h.noted (n := n) hj
  have emin : (if Int32.ofNat (tO A1 j).length < (10 : Int32) then Int32.ofNat (tO A1 j).length else (10 : Int32)) = Int32.ofNat (min (tO A1 j).length 10) := by
    by_cases c : (tO A1 j).length < 10
    · rw [if_pos (by rw [show (10 : Int32) = Int32.ofNat 10 from rfl, j_lx (by omega) (by omega)]; omega), show min (tO A1 j).length 10 = (tO A1 j).length by omega]
    · rw [if_neg (by rw [show (10 : Int32) = Int32.ofNat 10 from rfl, j_lx (by omega) (by omega)]; omega), show min (tO A1 j).length 10 = 10 by omega]
      rfl
  intro k
  induction k with
  | zero =>
    intro t m ht hm
    obtain ⟨m, rfl⟩ : ∃ r, m = r + 1 := ⟨m - 1, by omega⟩
    rw [wd_lp5, f_L_areMachinesRight_l71, Option.bind_some, n1, wd_b2_s, emin, if_pos (by rw [j_ll (by omega) (by omega)]; omega), show (0 : Int32) = Int32.ofNat 0 from rfl, e170]
  | succ k ih =>
    intro t m ht hm
    obtain ⟨m, rfl⟩ : ∃ r, m = r + 1 := ⟨m - 1, by omega⟩
    rw [wd_lp5, f_L_areMachinesRight_l71, Option.bind_some, n1, wd_b2_s, emin]
    by_cases cL : (tO A1 j).length ≤ t
    · rw [if_pos (by rw [j_ll (by omega) (by omega)]; omega), show (0 : Int32) = Int32.ofNat 0 from rfl, e170]
    · rw [if_neg (by rw [j_ll (by omega) (by omega)]; omega)]
      have hl : t < (tO A1 j).length := by omega
      have hf : (tO A1 j)[t]? = some ((tO A1 j)[t]) := List.getElem?_eq_getElem hl
      have hq := h.2.2.2.2.1.2.2.2.1.2.2.2.2.2.2 j (by omega) _ (List.getElem_mem hl)
      generalize (tO A1 j)[t] = f at hf hq
      obtain ⟨kk, x, s', t', mm, a, f0, f1, f2, f3, f4, f5, k1, k5, x1, t1, t2, mm1, ks, ka⟩ := hq
      have o0 := h.note (n := n) hj (k := t) (x := 0) (by omega) hf (by omega)
      have o2 := h.note (n := n) hj (k := t) (x := 2) (by omega) hf (by omega)
      have o3 := h.note (n := n) hj (k := t) (x := 3) (by omega) hf (by omega)
      have o4 := h.note (n := n) hj (k := t) (x := 4) (by omega) hf (by omega)
      rw [f0] at o0
      rw [f2] at o2
      rw [f3] at o3
      rw [f4] at o4
      have e162 : f_L_areMachinesRight_j162 n r40 (wd_lp5 (f_L_areMachinesRight_l71 n r40) m) (some B) (some (B + 200)) (Int32.ofNat j) (Int32.ofNat t) w = r40 (some B) (some (B + 200)) (Int32.ofNat (j + 1)) w := by
        rw [f_L_areMachinesRight_j162, wd_let, j_a1, ih (t + 1) m (by omega) (by omega)]
      rw [show f_X11_note n w B (Int32.ofNat j) (Int32.ofNat t) 0 = some (Int32.ofNat kk, w) from o0, wd_b2_s,
        if_neg (by rw [show (1 : Int32) = Int32.ofNat 1 from rfl, j_ee (by omega) (by omega)]; omega),
        if_neg (by rw [show (6 : Int32) = Int32.ofNat 6 from rfl, j_ee (by omega) (by omega)]; omega),
        if_neg (j_n0 (by omega)),
        if_neg (by rw [show (6 : Int32) = Int32.ofNat 6 from rfl, j_lx (by omega) (by omega)]; omega),
        show f_X11_note n w B (Int32.ofNat j) (Int32.ofNat t) 3 = some (Int32.ofNat t', w) from o3, wd_b2_s,
        if_neg (by rw [show (1 : Int32) = Int32.ofNat 1 from rfl, j_lx (by omega) (by omega)]; omega),
        show f_X11_note n w B (Int32.ofNat j) (Int32.ofNat t) 4 = some (Int32.ofNat mm, w) from o4, wd_b2_s, h.pack, wd_b2_s,
        if_neg (by rw [j_ll (by omega) (by omega)]; omega)]
      by_cases c2 : Int32.ofNat kk ≤ (2 : Int32)
      · rw [if_pos c2, e162]
      · rw [if_neg c2, show f_X11_note n w B (Int32.ofNat j) (Int32.ofNat t) 2 = some (Int32.ofNat s', w) from o2, wd_b2_s]
        have c3 : 3 ≤ kk := by
          rw [show (2 : Int32) = Int32.ofNat 2 from rfl, j_ll (by omega) (by omega)] at c2
          omega
        rw [ks c3, if_pos (show Int32.ofNat 0 = 0 from rfl), e162]
theorem m_40 (h : Ls B nm g q K G s z w b1 A1 b2 A2) (hn : 40 ≤ n) : ∀ (k t m : Nat), t + k = nm → k < m → wd_lp4 (f_L_areMachinesRight_l40 n) m (some B) (some (B + 200)) (Int32.ofNat t) w = some ((1 : Int32), w) := by
  have h8 := h.1.mm.2
  intro k
  induction k with
  | zero =>
    intro t m ht hm
    obtain ⟨m, rfl⟩ : ∃ r, m = r + 1 := ⟨m - 1, by omega⟩
    rw [wd_lp4, f_L_areMachinesRight_l40, Option.bind_some, h.mach, wd_b2_s, if_pos (by rw [j_ll (by omega) (by omega)]; omega)]
  | succ k ih =>
    intro t m ht hm
    obtain ⟨m, rfl⟩ : ∃ r, m = r + 1 := ⟨m - 1, by omega⟩
    have hw6 := (h.2.2.2.2.1.1.1 t (by omega)).2.2
    have hk3 := (h.2.2.2.2.1.2.2.2.1.2.2.2.2.1 t (by omega)).2
    rw [wd_lp4, f_L_areMachinesRight_l40, Option.bind_some, h.mach, wd_b2_s, if_neg (by rw [j_ll (by omega) (by omega)]; omega), h.wait (by omega), wd_b2_s, if_neg (by rw [show (6 : Int32) = Int32.ofNat 6 from rfl, j_lx (by omega) (by omega)]; omega), h.heaps (by omega), wd_b2_s, if_pos (by rw [show (3 : Int32) = Int32.ofNat 3 from rfl, j_ll (by omega) (by omega)]; omega), show (0 : Int32) = Int32.ofNat 0 from rfl, m_71 h (by omega) hn _ 10 0 n (by omega) (by omega), ih (t + 1) m (by omega) (by omega)]
/-- the machines are right -/
theorem l_machines (h : Ls B nm g q K G s z w b1 A1 b2 A2) (hg : g ≤ 44) (hn : 40 ≤ n) : f_L_areMachinesRight n w (some B) (some (B + 200)) = some ((1 : Int32), w) := by
  have h8 := h.1.mm.2
  obtain ⟨l1, l2, l3⟩ := h.2.2.2.2.2.2.2.1
  have hb := h.2.2.2.2.2.1
  obtain ⟨r, r1, r2, r3⟩ := x_use (n := n) h hg
  have hc : ∀ c, c < 2 → f_X11_carried n w B (Int32.ofNat c) = some (Int32.ofNat (tN A1 907 c), w) := fun c hc => by
    rw [f_X11_carried, x_cable h.1 hc, Option.bind_some, h.1.2.2.2.2.1.2.1, Option.bind_some, o_carriedOn h.1.2.1 (by omega), wd_b2_s, hb, Nat.zero_add]
  rw [f_L_areMachinesRight, Option.bind_some, h.step, wd_b2_s, show f_X11_carried n w B 0 = some (Int32.ofNat (tN A1 907 0), w) from hc 0 (by omega), wd_b2_s, show f_X11_carried n w B 1 = some (Int32.ofNat (tN A1 907 1), w) from hc 1 (by omega), wd_b2_s, j_ad, l1, if_pos rfl, r1, wd_b2_s, if_neg r2, r1, wd_b2_s, if_pos r3, show (0 : Int32) = Int32.ofNat 0 from rfl, m_40 h hn nm 0 n (by omega) (by omega)]
end MR2
