/-! ===== PURE: the other acts ===== -/
section AC2
variable {i j n c B nm g q K G s : Nat} {z w u v : Wd} {b1 b2 : Be} {A1 A2 : Ta}
theorem l_int {a : Nat} (ha : a < 2147483648) : (Int32.ofNat a).toInt64.toInt = a := by
  rw [Int32.toInt_toInt64, j_ti ha]
theorem l_sub {a d : Nat} (h : a + d < 2147483648) : (Int32.ofNat (a + d)).toInt64 - (Int32.ofNat a).toInt64 = (Int32.ofNat d).toInt64 := by
  rw [← Int64.toInt_inj, Int64.toInt_sub, l_int h, l_int (by omega), l_int (by omega)]
  rw [show ((a + d : Nat) : Int) - (a : Int) = (d : Int) by omega]
  exact Int.bmod_eq_of_le (by omega) (by omega)
theorem lg_le {a d : Nat} (ha : a < 2147483648) (hd : d < 2147483648) (h : a ≤ d) : ¬ 0 < lg_cmp (Int32.ofNat a).toInt64 (Int32.ofNat d).toInt64 := by
  unfold lg_cmp
  rw [if_neg (by
    show ¬ (Int32.ofNat d).toInt64 < (Int32.ofNat a).toInt64
    rw [Int64.lt_iff_toInt_lt, l_int ha, l_int hd]; omega)]
  split <;> decide
theorem lg_eq (x : Int64) : lg_cmp x x = 0 := by
  unfold lg_cmp
  rw [if_neg (by
    show ¬ x < x
    rw [Int64.lt_iff_toInt_lt]; omega), if_pos rfl]
theorem Ls.bg (h : Ls B nm g q K G s z w b1 A1 b2 A2) (hg : g ≤ 43) (hK : K = 3360) : Bg 150000 b1 A1 3360 3360 1000 := by
  obtain ⟨-, -, -, -, -, h6, ⟨k1, k2, k3, k4, k5⟩, -⟩ := h
  have e1 : g * K ≤ 43 * K := Nat.mul_le_mul_right _ hg
  have e2 : 43 * K = 144480 := by rw [hK]
  exact ⟨by omega, by omega, by omega, fun j _ => by have := k4 j; rw [h6]; omega⟩
/-- a tunnel asked for, and a route by it -/
theorem a_tunnel (h : Ls B nm g q K G (s + 2) z w b1 A1 b2 A2) (hg : g ≤ 43) (hj : j < nm) (hn : 200000 ≤ n) {x : Nat} (hx : x < 256) (y : Int32) :
    Ae B g q K G s w (wd_b2 (f_X11_addTunnel n w B (Int32.ofNat j) (Int32.ofNat x)) fun o94 w92 => wd_ox o94 (wd_b2 (f_X11_packets n w92 B) fun r119 w117 => if r119 = Int32.ofNat (tN A1 901 0) then wd_b2 (f_X11_frames n w117 B) fun r123 w121 => if r123 = Int32.ofNat (tF A1).length then some ((1 : Int32), w121) else f_L_act_j764 n w121 else f_L_act_j764 n w117) (fun r95 => if (2 : Int32) ≤ r95 then f_L_act_j259 n w92 else wd_b2 (f_L_below n w92 y (4 : Int32)) fun r100 w98 => wd_b2 (f_X11_addRoute n w98 B (Int32.ofNat j) ((16 : Int32) * r100) (4 : Int32) (-1 : Int32)) fun o103 w101 => wd_ox o103 (wd_b2 (f_X11_packets n w101 B) fun r110 w108 => if r110 = Int32.ofNat (tN A1 901 0) then wd_b2 (f_X11_frames n w108 B) fun r114 w112 => if r114 = Int32.ofNat (tF A1).length then some ((1 : Int32), w112) else f_L_act_j764 n w112 else f_L_act_j764 n w108) (fun r104 => if (6 : Int32) ≤ r104 then f_L_act_j259 n w101 else some ((1 : Int32), w101)))) := by
  have hN := h.now
  obtain ⟨o, v, v1, v2, v3, v4, v5, v6, v7⟩ := x_addTunnel (n := n) hN.1 hj hx
  have hF : Fw B v := fun i hi => by rw [v7 i hi]; exact hN.2.2.2.1 i hi
  have hL := hN.mut (mm := nm) hN.2.1 v2 v3 v4 v5 hF
  rw [v1, wd_b2_s]
  rcases v6 with e | ⟨k, k2, e, k9⟩
  · rw [e, ox_N]
    have hL' : Ls B nm g q K G s v v b1 A1 b2 A2 := ⟨hL.1.le (by omega), hL.2⟩
    exact ⟨v, nm, v, b1, A1, b2, A2, a_exc hL, hL'.up hg, fun a ha => v3 a (lt_ot ha)⟩
  · rw [e, ox_S, if_neg (by rw [show (2 : Int32) = Int32.ofNat 2 from rfl, j_ll (by omega) (by omega)]; omega)]
    obtain ⟨r, r1, r2⟩ := x_below (n := n) (w := v) y (m := 4) (by omega) (by omega)
    rw [show f_L_below n v y 4 = some (Int32.ofNat r, v) from r2, wd_b2_s, show (16 : Int32) * Int32.ofNat r = Int32.ofNat (16 * r) by rw [show (16 : Int32) = Int32.ofNat 16 from rfl, j_ml]]
    obtain ⟨v', m', z', c1, C1, c2, C2, g1, g2, g3⟩ := a_route hL hg hj hn (x := 16 * r) (l := 4) (via := -1) (by omega) (by omega) (Or.inr ⟨rfl, k9⟩) (f_L_act_j259 n)
    exact ⟨v', m', z', c1, C1, c2, C2, g1, g2, fun a ha => (v3 a (lt_ot ha)).tr (g3 a ha)⟩
theorem a_send350 (h : Ls B nm g q K G s z w b1 A1 b2 A2) (hg : g ≤ 43) (hK : K = 3360) (hG : G = 5403360) (hj : j < nm) (hn : 200000 ≤ n) {to size tt vv : Nat} {k0 : Int32} (ht : to < 256) (hs : size ≤ 59) (htt : 1 ≤ tt) (htt2 : tt ≤ 40) (hv : vv ≤ 1) : Ae B g q K G s w (f_L_act_j350 n (Int32.ofNat vv) (Int32.ofNat tt) (Int32.ofNat size) k0 (Int32.ofNat to) (Int32.ofNat j) (some B) (some B) (Int32.ofNat (tN A1 901 0)) (Int32.ofNat (tF A1).length) w) := by
  have hB := h.bg hg hK
  obtain ⟨r, v, b', A', v1, v2, v3, v4, v5, v6, v7⟩ := x_send (n := n) h.1 h.2.1 h.2.2.2.2.1 hj hn (by omega) (k0 := k0) ht (size := size) (by omega) (by omega) htt htt2 hv (hB.le (by omega) (by omega) (by omega))
  have hL := h.tra hg v2 v6 (v3.le (by omega) (by omega)) v4 (v5.t.le (by omega) (by omega) (by omega) (by omega)) v5.e.cm (by omega)
  rw [f_L_act_j350, Option.bind_some, v1, wd_b2_s]
  refine ⟨v, nm, z, b', A', b2, A2, ?_, hL, fun a ha => v6 a (lt_ot ha)⟩
  have n9 := hB.2.2.1
  rcases v7 with ⟨e1, e2⟩ | ⟨e1, e2⟩
  · subst e2
    rw [e1, if_pos rfl, Option.bind_some, hL.pack, wd_b2_s, if_pos rfl, hL.fram, wd_b2_s, if_pos rfl]
  · rw [e1, if_neg (fun e => by
      have := j_n0 (k := tN A1 901 0) (by omega)
      rw [e] at this
      exact this (by decide)), if_pos rfl, Option.bind_some, hL.pack, wd_b2_s, if_neg (by
      have := v5.2.2.2.2.1
      rw [j_ll (by omega) (by omega)]; omega)]
theorem a_send (h : Ls B nm g q K G s z w b1 A1 b2 A2) (hg : g ≤ 43) (hK : K = 3360) (hG : G = 5403360) (hj : j < nm) (hn : 200000 ≤ n) (x : Int32) : Ae B g q K G s w (f_L_act_j261 n (some B) x (some (B + 200)) (Int32.ofNat j) (Int32.ofNat (tN A1 901 0)) (Int32.ofNat (tF A1).length) w) := by
  have j315 : ∀ (to : Nat) (k0 : Int32), to < 256 → Ae B g q K G s w (f_L_act_j315 n k0 (Int32.ofNat to) (Int32.ofNat j) (some B) (some B) x (Int32.ofNat (tN A1 901 0)) (Int32.ofNat (tF A1).length) w) := by
    intro to k0 ht
    obtain ⟨r, r1, r2⟩ := x_below (n := n) (w := w) (x >>> ((8 : Int32) &&& 31)) (m := 60) (by omega) (by omega)
    obtain ⟨r', r1', r2'⟩ := x_below (n := n) (w := w) (x >>> ((5 : Int32) &&& 31)) (m := 6) (by omega) (by omega)
    obtain ⟨r'', r1'', r2''⟩ := x_below (n := n) (w := w) (x >>> ((6 : Int32) &&& 31)) (m := 3) (by omega) (by omega)
    rw [f_L_act_j315, show f_L_below n w (x >>> ((8 : Int32) &&& 31)) 60 = some (Int32.ofNat r, w) from r2, wd_b2_s, show f_L_below n w (x >>> ((5 : Int32) &&& 31)) 6 = some (Int32.ofNat r', w) from r2', wd_b2_s, show f_L_below n w (x >>> ((6 : Int32) &&& 31)) 3 = some (Int32.ofNat r'', w) from r2'', wd_b2_s, show (1 : Int32) + Int32.ofNat r' = Int32.ofNat (1 + r') by rw [show (1 : Int32) = Int32.ofNat 1 from rfl, j_ad]]
    split
    · exact a_send350 h hg hK hG hj hn (vv := 1) ht (by omega) (by omega) (by omega) (by omega)
    · exact a_send350 h hg hK hG hj hn (vv := 0) ht (by omega) (by omega) (by omega) (by omega)
  have j293 : ∀ (to : Nat), to < 256 → Ae B g q K G s w (f_L_act_j293 n (Int32.ofNat to) (some B) x (Int32.ofNat j) (Int32.ofNat (tN A1 901 0)) (Int32.ofNat (tF A1).length) w) := by
    intro to ht
    obtain ⟨r, r1, r2⟩ := x_below (n := n) (w := w) (x >>> ((7 : Int32) &&& 31)) (m := 2) (by omega) (by omega)
    rw [f_L_act_j293, show f_L_below n w (x >>> ((7 : Int32) &&& 31)) 2 = some (Int32.ofNat r, w) from r2, wd_b2_s]
    split
    · exact j315 to 1 ht
    · exact j315 to 0 ht
  obtain ⟨r, r1, r2⟩ := x_below (n := n) (w := w) (x >>> ((9 : Int32) &&& 31)) (m := 6) (by omega) (by omega)
  rw [f_L_act_j261, show f_L_below n w (x >>> ((9 : Int32) &&& 31)) 6 = some (Int32.ofNat r, w) from r2, wd_b2_s]
  split
  · obtain ⟨r', r1', r2'⟩ := x_below (n := n) (w := w) (x >>> ((5 : Int32) &&& 31)) (m := 256) (by omega) (by omega)
    rw [show f_L_below n w (x >>> ((5 : Int32) &&& 31)) 256 = some (Int32.ofNat r', w) from r2', wd_b2_s]
    exact j293 r' r1'
  · obtain ⟨a, a1, a2⟩ := x_addressOf (n := n) h.2.2.1 (by omega) (x >>> ((6 : Int32) &&& 31))
    rw [a2, wd_b2_s]
    exact j293 a a1
set_option maxRecDepth 8000 in
theorem a_step (h : Ls B nm g q K G s z w b1 A1 b2 A2) (hg : g ≤ 43) (hK : K = 3360) (hG : G = 5403360) (hn : 200000 ≤ n) (x : Int32) : Ae B g q K G s w (f_L_act_j409 n (some B) x (Int32.ofNat (tN A1 902 0)).toInt64 w) := by
  have hB := h.bg hg hK
  have l3 := h.2.2.2.2.2.2.2.1.2.2
  obtain ⟨r, r1, r2⟩ := x_below (n := n) (w := w) (x >>> ((6 : Int32) &&& 31)) (m := 12) (by omega) (by omega)
  have e1 : (1 : Int32) + Int32.ofNat r = Int32.ofNat (1 + r) := by rw [show (1 : Int32) = Int32.ofNat 1 from rfl, j_ad]
  have eb : (1 + r) * 280 ≤ 12 * 280 := Nat.mul_le_mul_right _ (by omega)
  have eg : (1 + r) * (450000 + 280) ≤ 12 * (450000 + 280) := Nat.mul_le_mul_right _ (by omega)
  obtain ⟨y, b', A', d, y1, y2, y3, y4, y5, y6, y7, y8, y9, y10⟩ := x_step (n := n) h.1 h.2.1 hn (K := 280) (N := 1 + r) (by omega) (by omega) (by omega) h.2.2.2.2.1 (by omega) (by omega) (hB.le (by omega) (by omega) (by omega))
  have hL := h.tra hg y2 y10 (y3.le (by omega) (by omega)) y4 (y5.le (by omega) (by omega) (by omega) (by omega)) y6 (by omega)
  have r2v : f_L_below n y (x >>> ((6 : Int32) &&& 31)) 12 = some (Int32.ofNat r, y) := by
    obtain ⟨-, m2⟩ := j_and (x >>> ((6 : Int32) &&& 31))
    have g0 : ∀ u : Wd, f_L_below n u (x >>> ((6 : Int32) &&& 31)) 12 = (f_L_below n w (x >>> ((6 : Int32) &&& 31)) 12).map (fun a => (a.1, u)) := fun u => by
      unfold f_L_below
      rw [j_gd (by decide), j_gd (by decide)]; rfl
    rw [g0, show f_L_below n w (x >>> ((6 : Int32) &&& 31)) 12 = some (Int32.ofNat r, w) from r2]; rfl
  refine ⟨y, nm, z, b', A', b2, A2, ?_, hL, fun a ha => y10 a (lt_ot ha)⟩
  rw [f_L_act_j409, show f_L_below n w (x >>> ((6 : Int32) &&& 31)) 12 = some (Int32.ofNat r, w) from r2, wd_b2_s, Option.bind_some, e1, y1, wd_b2_s, hL.fram, wd_b2_s, if_pos rfl, hL.step, wd_b2_s, r2v, wd_b2_s, y6.1, l_sub (by omega), e1, if_neg (lg_le (by omega) (by omega) y7)]
  by_cases e : Int32.ofNat (tF A').length = 0
  · rw [if_pos e]; rfl
  · rw [if_neg e, hL.step, wd_b2_s, r2v, wd_b2_s, y6.1, l_sub (by omega), e1]
    rcases y8 with f | f
    · rw [f] at e; exact absurd rfl e
    · rw [f, lg_eq, if_pos rfl]; rfl
theorem a_forget (h : Ls B nm g q K G s z w b1 A1 b2 A2) (hg : g ≤ 43) (hj : j < nm) (hn : 200000 ≤ n) : Ae B g q K G s w (wd_b2 (f_X11_forget n w B (Int32.ofNat j)) fun r226 w224 => if r226 < 0 then f_L_act_j525 n w224 else wd_b2 (f_X11_forget n w224 B (Int32.ofNat j)) fun r230 w228 => if r230 = 0 then some ((1 : Int32), w228) else f_L_act_j525 n w228) := by
  obtain ⟨y, y1, y2, y3, y4⟩ := x_forget (n := n) h.1 h.2.2.2.2.1 hj (by omega)
  obtain ⟨v, v1, v2, v3, v4⟩ := x_forget (n := n) y2 y3 hj (by omega)
  obtain ⟨p1, p2, p3⟩ := cl_c A1 j
  obtain ⟨q1, q2, q3⟩ := cl_c (clA A1 j 256) j
  have k0 := kcv_b A1 j 256 0
  have hk : kcv (clA A1 j 256) j 256 0 = 0 := kcv_0 _ _ (fun x hx => by unfold clA; rw [tM_uMf, if_pos rfl, if_pos hx]; decide) 256 0 (by omega)
  have hL := h.tra (d := 0) hg v2 (fun a ha => (y4 a ha).tr (v4 a ha)) (v3.le (by omega) (by omega)) rfl ((p1.tr q1).le (by omega) (by omega) (by omega) (by omega)) (p2.tr q2).cm (by omega)
  refine ⟨v, nm, z, b1, _, b2, A2, ?_, hL, fun a ha => (y4 a (lt_ot ha)).tr (v4 a (lt_ot ha))⟩
  rw [y1, wd_b2_s, if_neg (j_n0 (by omega)), v1, wd_b2_s, hk]
  exact if_pos (show Int32.ofNat 0 = 0 from rfl)
theorem a_giveUp (h : Ls B nm g q K G s z w b1 A1 b2 A2) (hg : g ≤ 43) (hK : K = 3360) (hG : G = 5403360) (hj : j < nm) (hn : 200000 ≤ n) : Ae B g q K G s w (wd_b2 (f_X11_waiting n w B (Int32.ofNat j)) fun r208 w206 => wd_b2 (f_X11_gone n w206 B) fun r211 w209 => wd_b2 (f_X11_giveUp n w209 B (Int32.ofNat j)) fun r214 w212 => if r214 = r208 then wd_b2 (f_X11_waiting n w212 B (Int32.ofNat j)) fun r218 w216 => if r208 < r218 then f_L_act_j576 n w216 else wd_b2 (f_X11_gone n w216 B) fun r222 w220 => if r222 < (r211 + r208) then f_L_act_j576 n w220 else some ((1 : Int32), w220) else f_L_act_j576 n w212) := by
  have hB := h.bg hg hK
  have h8 := h.1.mm.2
  have hw6 := (h.2.2.2.2.1.1.1 j (by omega)).2.2
  obtain ⟨y, b', A', y1, y2, y3, y4, y5, y6, y7, y8, y9⟩ := x_giveUp (n := n) h.1 h.2.1 h.2.2.2.2.1 hj hn (by omega) (K := 280) (by omega) (hB.le (by omega) (by omega) (by omega))
  have hL := h.tra hg y2 y9 (y3.le (by omega) (by omega)) y4 (y5.le (by omega) (by omega) (by omega) (by omega)) y6.cm (by omega)
  have gm : ∀ i, tN A1 204 i ≤ tN A' 204 i := fun i => (y5.2.2.2.2.2.2 i).1
  have ga := gs_add (b := b1) (j := j) gm y8 8 0 (by omega) (by omega)
  have eg1 : (g + 1) * G ≤ 44 * G := Nat.mul_le_mul_right _ (by omega)
  have eg2 : 44 * G = 237747840 := by rw [hG]
  have gb := gs_b (b := b') (A := A') hL.2.2.2.2.2.1 hL.2.2.2.2.2.2.1.2.2.2.2 8 0
  have ebb : gsum b' A' 8 0 = gsum b1 A' 8 0 := by
    have key : ∀ k t, gsum b' A' k t = gsum b1 A' k t := by
      intro k
      induction k with
      | zero => intro t; rfl
      | succ k ih => intro t; rw [gsum, gsum, ih, y4]
    exact key 8 0
  refine ⟨y, nm, z, b', A', b2, A2, ?_, hL, fun a ha => y9 a (lt_ot ha)⟩
  rw [h.wait hj, wd_b2_s, h.gone (by omega), wd_b2_s, y1, wd_b2_s, if_pos rfl, hL.wait hj, wd_b2_s, if_neg (by rw [j_lx (by omega) (by omega)]; omega), hL.gone (by omega), wd_b2_s, j_ad, if_neg (by rw [j_lx (by omega) (by omega)]; omega)]
end AC2
