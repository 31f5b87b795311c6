/-! ===== PURE: an act of the law's ===== -/
section AC3
variable {i j n c B nm g q K G s : Nat} {z w u v : Wd} {b1 b2 : Be} {A1 A2 : Ta}
theorem Ls.les (h : Ls B nm g q K G s z w b1 A1 b2 A2) {s' : Nat} (hs : s' ≤ s) : Ls B nm g q K G s' z w b1 A1 b2 A2 := ⟨h.1.le hs, h.2⟩
/-- a machine asked for -/
theorem a_machine (h : Ls B nm g q K G (s + 1) z w b1 A1 b2 A2) (hg : g ≤ 43) {p : Int32} (hp : p = 0 ∨ p = 1) : Ae B g q K G s w (f_L_act_j606 n p (some B) (some B) (Int32.ofNat (tN A1 901 0)) (Int32.ofNat (tF A1).length) w) := by
  have hN := h.now
  have h8 := hN.1.mm.2
  obtain ⟨o, v, mm, v1, v2, v3, v4, v5, v6, v7, v8, v9⟩ := x_addMachine (n := n) hN.1 hp
  have hF : Fw B v := fun i hi => by
    rcases v9 i hi with e | e
    · rw [e]; exact hN.2.2.2.1 i hi
    · rw [e]; exact hp
  have hL := hN.mut (mm := mm) (Nat.le_trans hN.2.1 v6) v2 v3 v4 v5 hF
  rw [f_L_act_j606, Option.bind_some, v1, wd_b2_s]
  refine ⟨v, mm, v, b1, A1, b2, A2, ?_, hL.up hg, fun a ha => v3 a (lt_ot ha)⟩
  rcases v7 with e | ⟨e, e2⟩
  · rw [e, ox_N]; exact a_exc hL
  · rw [e, ox_S, Option.bind_some, hL.mach, wd_b2_s, e2, show Int32.ofNat (nm + 1) - 1 = Int32.ofNat nm from j_s1 (k := nm + 1) (by omega), if_pos rfl]
theorem a_width (h : Ls B nm g q K G (s + 1) z w b1 A1 b2 A2) (hg : g ≤ 43) {t k : Nat} (ht : t < 2) (hk : k < 60) : Ae B g q K G s w (wd_b2 (f_X11_setWidth n w B (Int32.ofNat t) ((12 : Int32) + Int32.ofNat k)) fun r256 w254 => f_L_act_j685 n w254) := by
  have hN := h.now
  rw [show (12 : Int32) + Int32.ofNat k = Int32.ofNat (12 + k) by rw [show (12 : Int32) = Int32.ofNat 12 from rfl, j_ad]]
  obtain ⟨o, v, v1, v2, v3, v4, v5, v6⟩ := x_setWidth (n := n) hN.1 ht (k := 12 + k) (by omega) (by omega)
  have hF : Fw B v := fun i hi => by rw [v6 i hi]; exact hN.2.2.2.1 i hi
  have hL := hN.mut (mm := nm) hN.2.1 v2 v3 v4 v5 hF
  rw [v1, wd_b2_s]
  exact ⟨v, nm, v, b1, A1, b2, A2, rfl, hL.up hg, fun a ha => v3 a (lt_ot ha)⟩
theorem a_forward (h : Ls B nm g q K G (s + 1) z w b1 A1 b2 A2) (hg : g ≤ 43) (hj : j < nm) {p : Int32} (hp : p = 0 ∨ p = 1) : Ae B g q K G s w (f_L_act_j681 n p (Int32.ofNat j) (some B) w) := by
  have hN := h.now
  have h8 := hN.1.mm.2
  obtain ⟨o, v, v1, v2, v3, v4, v5, v6⟩ := x_setForwarding (n := n) hN.1 hj hp (hN.2.2.2.1 j (by omega))
  have hF : Fw B v := fun i hi => by
    rcases v6 i with e | e
    · rw [e]; exact hN.2.2.2.1 i hi
    · rw [e]; exact hp
  have hL := hN.mut (mm := nm) hN.2.1 v2 v3 v4 v5 hF
  rw [f_L_act_j681, Option.bind_some, v1, wd_b2_s]
  exact ⟨v, nm, v, b1, A1, b2, A2, rfl, hL.up hg, fun a ha => v3 a (lt_ot ha)⟩
/-- an act -/
theorem l_act (h : Ls B nm g q K G (s + 2) z w b1 A1 b2 A2) (hg : g ≤ 43) (hK : K = 3360) (hG : G = 5403360) (hn : 200000 ≤ n) (x : Int32) : Ae B g q K G s w (f_L_act n w (some B) x (some (B + 200))) := by
  have h8 := h.1.mm.2
  have h3 := h.2.1
  obtain ⟨j, j1, j2⟩ := x_below (n := n) (w := w) (x >>> ((4 : Int32) &&& 31)) (m := nm) (by omega) (by omega)
  obtain ⟨r, r1, r2⟩ := x_below (n := n) (w := w) x (m := 12) (by omega) (by omega)
  have hs1 : Ls B nm g q K G (s + 1) z w b1 A1 b2 A2 := h.les (by omega)
  have hs0 : Ls B nm g q K G s z w b1 A1 b2 A2 := h.les (by omega)
  rw [f_L_act, Option.bind_some, h.mach, wd_b2_s, j2, wd_b2_s, h.pack, wd_b2_s, h.fram, wd_b2_s, h.step, wd_b2_s, wd_let, show f_L_below n w x 12 = some (Int32.ofNat r, w) from r2, wd_b2_s]
  by_cases e0 : Int32.ofNat r = (0 : Int32)
  · rw [if_pos e0]; exact a_port hs1 hg j1 hn x
  rw [if_neg e0]
  by_cases e1 : Int32.ofNat r = (1 : Int32)
  · rw [if_pos e1]; exact a_port hs1 hg j1 hn x
  rw [if_neg e1]
  by_cases e2 : Int32.ofNat r = (2 : Int32)
  · rw [if_pos e2]
    obtain ⟨a, a1, a2⟩ := x_below (n := n) (w := w) (x >>> ((5 : Int32) &&& 31)) (m := 4) (by omega) (by omega)
    obtain ⟨b, d1, d2⟩ := x_below (n := n) (w := w) (x >>> ((7 : Int32) &&& 31)) (m := 5) (by omega) (by omega)
    obtain ⟨d, f1, f2⟩ := x_addressOf (n := n) h.2.2.1 (by omega) (x >>> ((6 : Int32) &&& 31))
    rw [show f_L_below n w (x >>> ((5 : Int32) &&& 31)) 4 = some (Int32.ofNat a, w) from a2, wd_b2_s, show f_L_below n w (x >>> ((7 : Int32) &&& 31)) 5 = some (Int32.ofNat b, w) from d2, wd_b2_s, f2, wd_b2_s, show (16 : Int32) * Int32.ofNat a = Int32.ofNat (16 * a) by rw [show (16 : Int32) = Int32.ofNat 16 from rfl, j_ml]]
    exact a_route hs1 hg j1 hn (x := 16 * a) (l := b) (via := Int32.ofNat d) (by omega) (by omega) (Or.inl ⟨d, f1, rfl⟩) (fun w73 => some ((0 : Int32), w73))
  rw [if_neg e2]
  by_cases e3 : Int32.ofNat r = (3 : Int32)
  · rw [if_pos e3]
    obtain ⟨d, f1, f2⟩ := x_addressOf (n := n) h.2.2.1 (by omega) (x >>> ((6 : Int32) &&& 31))
    rw [f2, wd_b2_s]
    exact a_tunnel h hg j1 hn f1 (x >>> ((5 : Int32) &&& 31))
  rw [if_neg e3]
  by_cases e4 : Int32.ofNat r = (4 : Int32)
  · rw [if_pos e4]; exact a_send hs0 hg hK hG j1 hn x
  rw [if_neg e4]
  by_cases e5 : Int32.ofNat r = (5 : Int32)
  · rw [if_pos e5]; exact a_send hs0 hg hK hG j1 hn x
  rw [if_neg e5]
  by_cases e6 : Int32.ofNat r = (6 : Int32)
  · rw [if_pos e6]; exact a_send hs0 hg hK hG j1 hn x
  rw [if_neg e6]
  by_cases e7 : Int32.ofNat r = (7 : Int32)
  · rw [if_pos e7]; exact a_step hs0 hg hK hG hn x
  rw [if_neg e7]
  by_cases e8 : Int32.ofNat r = (8 : Int32)
  · rw [if_pos e8]; exact a_step hs0 hg hK hG hn x
  rw [if_neg e8]
  by_cases e9 : Int32.ofNat r = (9 : Int32)
  · rw [if_pos e9]; exact a_step hs0 hg hK hG hn x
  rw [if_neg e9]
  by_cases e10 : Int32.ofNat r = (10 : Int32)
  · rw [if_pos e10]
    obtain ⟨a, a1, a2⟩ := x_below (n := n) (w := w) (x >>> ((6 : Int32) &&& 31)) (m := 2) (by omega) (by omega)
    rw [show f_L_below n w (x >>> ((6 : Int32) &&& 31)) 2 = some (Int32.ofNat a, w) from a2, wd_b2_s]
    by_cases f : Int32.ofNat a = (0 : Int32)
    · rw [if_pos f]; exact a_forget hs0 hg j1 hn
    · rw [if_neg f]; exact a_giveUp hs0 hg hK hG j1 hn
  rw [if_neg e10]
  obtain ⟨a, a1, a2⟩ := x_below (n := n) (w := w) (x >>> ((6 : Int32) &&& 31)) (m := 3) (by omega) (by omega)
  obtain ⟨b, d1, d2⟩ := x_below (n := n) (w := w) (x >>> ((8 : Int32) &&& 31)) (m := 3) (by omega) (by omega)
  obtain ⟨b', d1', d2'⟩ := x_below (n := n) (w := w) (x >>> ((8 : Int32) &&& 31)) (m := 2) (by omega) (by omega)
  obtain ⟨t, t1, t2⟩ := x_below (n := n) (w := w) (x >>> ((5 : Int32) &&& 31)) (m := 60) (by omega) (by omega)
  have a2' : f_L_below n w (x >>> ((6 : Int32) &&& 31)) 3 = some (Int32.ofNat a, w) := a2
  have d2'' : f_L_below n w (x >>> ((8 : Int32) &&& 31)) 3 = some (Int32.ofNat b, w) := d2
  rw [a2', wd_b2_s]
  by_cases f : Int32.ofNat a = (0 : Int32)
  · rw [if_pos f, d2'', wd_b2_s]
    by_cases f' : Int32.ofNat b ≤ (0 : Int32)
    · rw [if_pos f']; exact a_machine hs1 hg (Or.inl rfl)
    · rw [if_neg f']; exact a_machine hs1 hg (Or.inr rfl)
  · rw [if_neg f, a2', wd_b2_s]
    by_cases f' : Int32.ofNat a = (1 : Int32)
    · rw [if_pos f', show f_L_below n w (x >>> ((8 : Int32) &&& 31)) 2 = some (Int32.ofNat b', w) from d2', wd_b2_s, show f_L_below n w (x >>> ((5 : Int32) &&& 31)) 60 = some (Int32.ofNat t, w) from t2, wd_b2_s]
      exact a_width hs1 hg d1' t1
    · rw [if_neg f', d2'', wd_b2_s]
      by_cases f'' : Int32.ofNat b ≤ (0 : Int32)
      · rw [if_pos f'']; exact a_forward hs1 hg j1 (Or.inl rfl)
      · rw [if_neg f'']; exact a_forward hs1 hg j1 (Or.inr rfl)
end AC3
