/-! ===== PURE: the net made ===== -/
section NEW5
variable {P T R B i j n h m X s b : Nat} {w u v : Wd}
theorem ag_new (w : Wd) (k N sz : Nat) : ∀ a, a ≠ wd_H w → ag w (wd_nw w k N sz) a := fun a ha => ⟨fun g => by rw [i_nw, if_neg ha], fun g => by rw [r_nw, if_neg ha], fun g => by rw [a_nw, if_neg ha], fun g => by rw [q_nw, if_neg ha], by rw [n_nw, if_neg ha]⟩
theorem ag_set (w : Wd) (g x : Nat) (o : Option Nat) : ∀ a, a ≠ x → ag w (wd_sR w g x o) a := fun a ha => ⟨fun _ => rfl, fun g => by rw [r_sR, if_neg (fun q => ha q.2)], fun _ => rfl, fun _ => rfl, rfl⟩
theorem i_X10 (hH : wd_H w = R + 1) (hM : 61 ≤ wd_M w) (hS : 2734 ≤ wd_S w) (hP : P + 76 ≤ R) (h0 : wd_R w 502 P = some (P + 2) ∧ wd_N w (P + 2) = 8 ∧ ∀ j, j < 8 → wd_Q w (P + 2) j = some (mA P j)) (hn : 300 ≤ n) : ∃ v, f_X10_init n w R (some P) = some v ∧ TF v (R + 1) P ∧ wd_R v 1004 R = some (R + 1) ∧ (∀ a, a < R → ag w v a) ∧ wd_H v = R + 62 ∧ wd_M v + 61 = wd_M w ∧ wd_S v + 2734 = wd_S w := by
  obtain ⟨p1, p2, p3⟩ := h0
  have g1 := ag_new w 10 0 8
  have gP := g1 P (by omega)
  have gP2 := g1 (P + 2) (by omega)
  obtain ⟨u, u1, u2, u3, u4, u5, u6⟩ := i_X9 (n := n) (w := wd_nw w 10 0 8) (T := R + 1) (P := P) (by rw [h_nw, hH]) (by rw [m_nw]; omega) (by rw [s_nw]; omega) (fun g => by rw [i_nw, if_pos hH.symm]) (by omega) ⟨by rw [gP.2.1]; exact p1, by rw [gP2.2.2.2.2]; exact p2, fun j hj => by rw [gP2.2.2.2.1]; exact p3 j hj⟩ hn
  rw [m_nw] at u5
  rw [s_nw] at u6
  have g3 := ag_set u 1004 R (some (R + 1))
  refine ⟨wd_sR u 1004 R (some (R + 1)), ?_, u2.ag (fun a ha _ => g3 a (by omega)), by rw [r_sR, if_pos ⟨rfl, rfl⟩], fun a ha => ((g1 a (by omega)).tr (u3 a (by omega))).tr (g3 a (by omega)), by rw [h_sR]; omega, by rw [m_sR]; omega, by rw [s_sR]; omega⟩
  rw [f_X10_init, j_gd (by omega), wd_let, wd_let, hH, u1, Option.bind_some, wd_let]
theorem PF.h0 (h : PF w P) : wd_R w 502 P = some (P + 2) ∧ wd_N w (P + 2) = 8 ∧ ∀ j, j < 8 → wd_Q w (P + 2) j = some (mA P j) := ⟨h.1.2.1, h.1.2.2.2.2.1, fun j hj => (h.2.2.2 j hj).1⟩
theorem i_X11 (hH : wd_H w = B + 1) (hM : 199 ≤ wd_M w) (hS : 12192 ≤ wd_S w) (hn : 300 ≤ n) : ∃ v, f_X11_init n w B = some v ∧ PF v (B + 1) ∧ TF v (B + 77) (B + 1) ∧ TF v (B + 139) (B + 1) ∧ (wd_R v 1100 B = some (B + 1) ∧ wd_R v 1101 B = some (B + 77) ∧ wd_R v 1102 B = some (B + 138) ∧ wd_R v 1004 (B + 138) = some (B + 139)) ∧ (∀ a, a < B → ag w v a) ∧ wd_H v = B + 200 ∧ wd_M v + 199 = wd_M w ∧ wd_S v + 12192 = wd_S w := by
  have g1 := ag_new w 6 0 5
  obtain ⟨p, p1, p2, p3, p4, p5, p6⟩ := i_X5 (n := n) (w := wd_nw w 6 0 5) (P := B + 1) (by rw [h_nw, hH]) (by rw [m_nw]; omega) (by rw [s_nw]; omega) (fun g => by rw [i_nw, if_pos hH.symm]) hn
  rw [m_nw] at p5
  rw [s_nw] at p6
  have g2 := ag_set p 1100 B (some (B + 1))
  have e2R : wd_R (wd_sR p 1100 B (some (B + 1))) 1100 B = some (B + 1) := by rw [r_sR, if_pos ⟨rfl, rfl⟩]
  have e2H : wd_H (wd_sR p 1100 B (some (B + 1))) = B + 77 := by rw [h_sR, p4]
  have e2M : wd_M (wd_sR p 1100 B (some (B + 1))) + 76 = wd_M w := by rw [m_sR]; omega
  have e2S : wd_S (wd_sR p 1100 B (some (B + 1))) + 6717 = wd_S w := by rw [s_sR]; omega
  have q2 : PF (wd_sR p 1100 B (some (B + 1))) (B + 1) := p2.ag (fun a ha _ => g2 a (by omega))
  have k2 : ∀ a, a < B → ag w (wd_sR p 1100 B (some (B + 1))) a := fun a ha => ((g1 a (by omega)).tr (p3 a (by omega))).tr (g2 a (by omega))
  have e1 : f_X11_init n w B = (wd_gd (wd_M (wd_sR p 1100 B (some (B + 1))) = 0 ∨ wd_S (wd_sR p 1100 B (some (B + 1))) < 8) <| wd_let (wd_H (wd_sR p 1100 B (some (B + 1)))) fun a11 => wd_let (wd_nw (wd_sR p 1100 B (some (B + 1))) 10 0 8) fun w13 => Option.bind (f_X9_init n w13 a11 (wd_R w13 1100 B)) fun w15 => wd_let (wd_sR w15 1101 B (some a11)) fun w17 => wd_gd (wd_M w17 = 0 ∨ wd_S w17 < 7) <| wd_let (wd_H w17) fun a20 => wd_let (wd_nw w17 11 0 7) fun w22 => Option.bind (f_X10_init n w22 a20 (wd_R w22 1100 B)) fun w24 => wd_let (wd_sR w24 1102 B (some a20)) fun w26 => some w26) := by
    rw [f_X11_init, j_gd (by omega), wd_let, wd_let, hH, p1, Option.bind_some, wd_let]
  generalize wd_sR p 1100 B (some (B + 1)) = x at *
  -- the traffic
  have g3 := ag_new x 10 0 8
  have e3R : wd_R (wd_nw x 10 0 8) 1100 B = some (B + 1) := by rw [(g3 B (by omega)).2.1, e2R]
  have q3 : PF (wd_nw x 10 0 8) (B + 1) := q2.ag (fun a _ hb => g3 a (by omega))
  obtain ⟨t, t1, t2, t3, t4, t5, t6⟩ := i_X9 (n := n) (w := wd_nw x 10 0 8) (T := B + 77) (P := B + 1) (by rw [h_nw, e2H]) (by rw [m_nw]; omega) (by rw [s_nw]; omega) (fun g => by rw [i_nw, if_pos e2H.symm]) (by omega) q3.h0 hn
  rw [m_nw] at t5
  rw [s_nw] at t6
  have g4 := ag_set t 1101 B (some (B + 77))
  have q4 : PF (wd_sR t 1101 B (some (B + 77))) (B + 1) := (q3.ag (fun a _ hb => t3 a (by omega))).ag (fun a ha _ => g4 a (by omega))
  have f4 : TF (wd_sR t 1101 B (some (B + 77))) (B + 77) (B + 1) := t2.ag (fun a ha _ => g4 a (by omega))
  have e4a : wd_R (wd_sR t 1101 B (some (B + 77))) 1100 B = some (B + 1) := by rw [r_sR, if_neg (by omega), (t3 B (by omega)).2.1, e3R]
  have e4b : wd_R (wd_sR t 1101 B (some (B + 77))) 1101 B = some (B + 77) := by rw [r_sR, if_pos ⟨rfl, rfl⟩]
  have e4H : wd_H (wd_sR t 1101 B (some (B + 77))) = B + 138 := by rw [h_sR, t4]
  have e4M : wd_M (wd_sR t 1101 B (some (B + 77))) + 137 = wd_M w := by rw [m_sR]; omega
  have e4S : wd_S (wd_sR t 1101 B (some (B + 77))) + 9451 = wd_S w := by rw [s_sR]; omega
  have k4 : ∀ a, a < B → ag w (wd_sR t 1101 B (some (B + 77))) a := fun a ha => (((k2 a ha).tr (g3 a (by omega))).tr (t3 a (by omega))).tr (g4 a (by omega))
  have e3 : f_X11_init n w B = (wd_gd (wd_M (wd_sR t 1101 B (some (B + 77))) = 0 ∨ wd_S (wd_sR t 1101 B (some (B + 77))) < 7) <| wd_let (wd_H (wd_sR t 1101 B (some (B + 77)))) fun a20 => wd_let (wd_nw (wd_sR t 1101 B (some (B + 77))) 11 0 7) fun w22 => Option.bind (f_X10_init n w22 a20 (wd_R w22 1100 B)) fun w24 => wd_let (wd_sR w24 1102 B (some a20)) fun w26 => some w26) := by
    rw [e1, j_gd (by omega), wd_let, wd_let, e3R, e2H, t1, Option.bind_some, wd_let]
  generalize wd_sR t 1101 B (some (B + 77)) = y at *
  -- the trial
  have g5 := ag_new y 11 0 7
  have e5R : wd_R (wd_nw y 11 0 7) 1100 B = some (B + 1) := by rw [(g5 B (by omega)).2.1, e4a]
  have q5 : PF (wd_nw y 11 0 7) (B + 1) := q4.ag (fun a _ hb => g5 a (by omega))
  obtain ⟨r, r1, r2, r3, r4, r5, r6, r7⟩ := i_X10 (n := n) (w := wd_nw y 11 0 7) (R := B + 138) (P := B + 1) (by rw [h_nw, e4H]) (by rw [m_nw]; omega) (by rw [s_nw]; omega) (by omega) q5.h0 hn
  rw [m_nw] at r6
  rw [s_nw] at r7
  have g6 := ag_set r 1102 B (some (B + 138))
  refine ⟨wd_sR r 1102 B (some (B + 138)), ?_, (q5.ag (fun a _ hb => r4 a (by omega))).ag (fun a ha _ => g6 a (by omega)), ((f4.ag (fun a _ hb => g5 a (by omega))).ag (fun a _ hb => r4 a (by omega))).ag (fun a ha _ => g6 a (by omega)), r2.ag (fun a ha _ => g6 a (by omega)), ⟨?_, ?_, ?_, ?_⟩, fun a ha => (((k4 a ha).tr (g5 a (by omega))).tr (r4 a (by omega))).tr (g6 a (by omega)), by rw [h_sR]; omega, by rw [m_sR]; omega, by rw [s_sR]; omega⟩
  · rw [e3, j_gd (by omega), wd_let, wd_let, e5R, e4H, r1, Option.bind_some, wd_let]
  · rw [r_sR, if_neg (by omega), (r4 B (by omega)).2.1, e5R]
  · rw [r_sR, if_neg (by omega), (r4 B (by omega)).2.1, (g5 B (by omega)).2.1, e4b]
  · rw [r_sR, if_pos ⟨rfl, rfl⟩]
  · rw [r_sR, if_neg (by omega), r3]
theorem ag_mna (w : Wd) (N K : Nat) : ∀ a, a < wd_H w → ag w (wd_mna w N K) a := fun a ha => ⟨fun _ => rfl, fun _ => rfl, fun g => if_neg (by omega), fun g => if_neg (by omega), by
  show (if a = wd_H w then N else if wd_H w < a ∧ a ≤ wd_H w + N then K else wd_N w a) = wd_N w a
  rw [if_neg (by omega), if_neg (by omega)]⟩
theorem PF.pl (h : PF w P) {a : Nat} (ha : pl P w a) : P ≤ a ∧ a < P + 76 := by
  rcases ha with q | ⟨i, k, hi, hk, hq⟩
  · exact q
  · have e : P + 5 + 9 * i = mA P i + 1 := by show P + 5 + 9 * i = P + 4 + 9 * i + 1; omega
    rw [e, (h.2.2.2 i hi).2.1.2.2.2 k] at hq
    cases hq
theorem b0_dm {a : Nat} (h : Dm T (b0 T) a) : T ≤ a ∧ a < T + 61 := by
  rcases h with q | ⟨i, hi, -⟩ | q
  · exact q
  · exact absurd hi (Nat.not_lt_zero _)
  · exact absurd q List.not_mem_nil
/-- the net and the table, new -/
theorem i_lp (hP : PF w (B + 1)) (hT1 : TF w (B + 77) (B + 1)) (hT2 : TF w (B + 139) (B + 1)) (hR : wd_R w 1100 B = some (B + 1) ∧ wd_R w 1101 B = some (B + 77) ∧ wd_R w 1102 B = some (B + 138) ∧ wd_R w 1004 (B + 138) = some (B + 139)) (hH : wd_H w = B + 233) (hM : 360002 + s ≤ wd_M w) (hS : 5400030 + 6 * s ≤ wd_S w) (hN : wd_N w (B + 200) = 32) (hQ : ∀ k, k < 32 → wd_Q w (B + 200) k = some (B + 201 + k) ∧ wd_N w (B + 201 + k) = 2) (hb : wd_N w b < 2147483648) : Lp B 0 0 s 0 b w (b0 (B + 77)) (b0 (B + 139)) := by
  have hI : Iv (B + 1) w 0 EA := A0_iv (fun i x _ _ => Or.inl rfl) (by omega) (by omega)
  have hM1 : 2 * 150000 + 1 ≤ wd_M w := Nat.le_trans (Nat.le_trans (by decide : 2 * 150000 + 1 ≤ 360002) (Nat.le_add_right _ _)) hM
  have hM2 : 2 * 30000 + 1 ≤ wd_M w := Nat.le_trans (Nat.le_trans (by decide : 2 * 30000 + 1 ≤ 360002) (Nat.le_add_right _ _)) hM
  have hS1 : 15 * (2 * 150000 + 1) ≤ wd_S w := Nat.le_trans (Nat.le_trans (by decide : 15 * (2 * 150000 + 1) ≤ 5400030) (Nat.le_add_right _ _)) hS
  have hS2 : 15 * (2 * 30000 + 1) ≤ wd_S w := Nat.le_trans (Nat.le_trans (by decide : 15 * (2 * 30000 + 1) ≤ 5400030) (Nat.le_add_right _ _)) hS
  have hpl : ∀ a, pl (B + 1) w a → a < B + 1 + 76 := fun a ha => (hP.pl ha).2
  refine ⟨⟨hP.ps, hT1.tm (by omega) hpl (by omega) hM1 hS1, hT2.tm (by omega) hpl (by omega) hM2 hS2, ⟨hI.1, hI.1⟩, hR, ⟨rfl, rfl, rfl, rfl⟩, fun a h1 h2 => ?_, fun a h1 => ?_, fun a h1 => ?_, fun a h1 => ?_, by omega, hM, hS⟩, fun i hi => Or.inl (hP.2.2.2 i hi).2.1.2.2.1.2.1, fun i k hi hk => (hP.2.2.2 i hi).2.1.2.2.2 k, ⟨hN, hQ, fun k hk => absurd hk (Nat.not_lt_zero _)⟩, fun _ _ => rfl, fun _ => rfl, hb⟩
  · have := b0_dm h1; have := b0_dm h2; omega
  · have := b0_dm h1; omega
  · have := b0_dm h1; omega
  · have := hP.pl h1; omega
end NEW5
