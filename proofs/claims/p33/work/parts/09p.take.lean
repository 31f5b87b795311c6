/-! ===== PURE: a packet taken from the pool, and its header ===== -/
section TK
variable {P T X n : Nat} {z w u : Wd} {b : Be} {A A' : Ta}
/-- what taking a packet leaves: all but the new one's header -/
def Tq (P T X : Nat) (z w u : Wd) (b : Be) (A : Ta) (pb : Nat → Nat) (pm : Nat) : Prop :=
  tN A 1 0 < pm ∧ (∀ i, i < b_pn b → pb i = b_pa b i) ∧
  (∀ a, Dm T b a → ∀ g, g ≠ 414 → g ≠ 600 → g ≠ 601 → wd_I u g a = wd_I w g a ∧ wd_R u g a = wd_R w g a) ∧ (∀ a, Dm T b a → (∀ i, wd_A u a i = wd_A w a i) ∧ (∀ i, wd_Q u a i = wd_Q w a i) ∧ wd_N u a = wd_N w a) ∧
  (∀ a, pl P z a → ag w u a) ∧ Sp u (T + 2) (v_pp b pb pm) (uN A 1 0 (tN A 1 0 + 1)) ∧ Sd u P T X z (v_pp b pb pm) A ∧ Rl T w b u (v_pp b pb pm) ∧
  (∀ a, Dm T b a → (∀ i, tN A 1 0 ≤ i → i < b_pn b → a ≠ b_pa b i) → a ≠ pb (tN A 1 0)) ∧ (∀ a, pl P z a → a ≠ pb (tN A 1 0))
theorem o_take (hT : Tm P T X z w b A) (hX : tN A 1 0 + 1 ≤ X) : ∃ u pb pm, f_X6_take n w (T + 2) = some (some (pb (tN A 1 0)), u) ∧ Tq P T X z w u b A pb pm := by
  obtain ⟨p1, p2, p3, p4⟩ := hT.2.2.2.2.1
  have hSd := hT.2.1
  obtain ⟨d1, d2, d3, d4, d5, d6, d7, ⟨d8, d9, d10, d11⟩, dh, d12⟩ := hT.2.1
  have hcn : cn b = b_pn b + (b_fl b ++ (b_fh b ++ b_fs b)).length := rfl
  generalize hnp : tN A 1 0 = np at *
  have e1 : tN (uN A 1 0 (np + 1)) 1 0 = np + 1 := by rw [tN_uN, if_pos ⟨rfl, rfl⟩]
  have hDp : Dm T b (T + 2) := Or.inl ⟨by omega, by omega⟩
  by_cases c : np < b_pn b
  · refine ⟨wd_sR w 601 (T + 2) (some (b_pa b np)), b_pa b, b_pn b, ?_, ?_⟩
    · unfold f_X6_take f_X6_take_j21
      rw [p3]
      by_cases c0 : np = 0
      · rw [if_pos c0, wd_on_N, p2, if_neg (by omega), c0, wd_on_S]; rfl
      · rw [if_neg c0, wd_on_S, Option.bind_some, p4 (np - 1) (by omega), if_neg (by omega), show np - 1 + 1 = np by omega, wd_on_S]; rfl
    · unfold Tq
      rw [hnp]
      refine ⟨c, fun _ _ => rfl, fun a ha g h1 h2 h3 => ⟨rfl, by rw [r_sR, if_neg (by omega)]⟩, fun a ha => ⟨fun _ => rfl, fun _ => rfl, rfl⟩, fun a ha => ag_sR hDp (fun c _ => ag.rf _ _) a (fun q => (d6 a q).2 ha), ⟨?_, ?_, ?_, fun i hi => ?_⟩, hSd, ⟨⟨⟨fun _ _ => rfl, Nat.le_refl _, rfl, Nat.le_refl _, fun a _ hn => ag_sR hDp (fun c _ => ag.rf _ _) a hn, fun a ha => Or.inl ha, rfl, rfl, Nat.le_refl _⟩, rfl, fun a ha => ⟨rfl, by rw [r_sR, if_neg (by omega)], by rw [r_sR, if_neg (by omega)]⟩⟩, rfl, fun a ha => ⟨fun _ _ => rfl, by rw [r_sR, if_neg (by omega)]⟩⟩, fun a _ h => h np (Nat.le_refl _) c, fun a ha q => (d6 _ (dm_p c)).2 (q ▸ ha)⟩
      · rw [tN_uN, if_pos ⟨rfl, rfl⟩]; exact c
      · rw [r_sR, if_neg (by omega)]; exact p2
      · rw [r_sR, if_pos ⟨rfl, rfl⟩, e1, if_neg (by omega), Nat.add_sub_cancel]; rfl
      · rw [r_sR, if_neg (by omega)]; exact p4 i hi
  · have hpn : np = b_pn b := by omega
    generalize hH : wd_H w = H at *
    have hge : T + 61 ≤ H := by
      have := (d6 (T + 60) (Or.inl ⟨by omega, by omega⟩)).1
      omega
    have hlt : ∀ i, i < b_pn b → b_pa b i < H := fun i hi => (d6 _ (dm_p hi)).1
    let pb : Nat → Nat := fun i => if i = b_pn b then H else b_pa b i
    have hpb : ∀ i, i < b_pn b → pb i = b_pa b i := fun i hi => if_neg (by omega)
    have hpbn : pb (b_pn b) = H := if_pos rfl
    have hg : ¬ (wd_M w = 0 ∨ wd_S w < 15) := by omega
    -- both ways end alike
    have fin : ∀ x : Wd, (∀ a, a < H → ∀ g, g ≠ 414 → g ≠ 600 → g ≠ 601 → wd_I x g a = wd_I w g a ∧ wd_R x g a = wd_R w g a) → (∀ a, a < H → (∀ i, wd_A x a i = wd_A w a i) ∧ (∀ i, wd_Q x a i = wd_Q w a i) ∧ wd_N x a = wd_N w a) → (∀ a, a < H → ¬ Dm T b a → ag w x a) →
        wd_H x = H + 1 → wd_M x = wd_M w - 1 → wd_S x = wd_S w - 15 → wd_R x 600 (T + 2) = some (pb 0) → wd_R x 414 H = none → (∀ i, i < b_pn b → wd_R x 414 (b_pa b i) = some (pb (i + 1))) → Tq P T X z w (wd_sR x 601 (T + 2) (some H)) b A pb (b_pn b + 1) := by
      intro x x1 x2 x3 x4 x5 x6 x7 x8 x9
      have hcn2 : cn (v_pp b pb (b_pn b + 1)) = cn b + 1 := by
        show b_pn b + 1 + (b_fl b ++ (b_fh b ++ b_fs b)).length = _
        omega
      have hdm : ∀ a, Dm T (v_pp b pb (b_pn b + 1)) a → Dm T b a ∨ a = H := fun a ha => by
        rcases ha with ha | ⟨i, hi, ha⟩ | ha
        · exact Or.inl (Or.inl ha)
        · have hi' : i < b_pn b + 1 := hi
          by_cases q : i = b_pn b
          · subst q; exact Or.inr (ha.trans hpbn)
          · exact Or.inl (Or.inr (Or.inl ⟨i, by omega, ha.trans (hpb i (by omega))⟩))
        · exact Or.inl (dm_f ha)
      have x3' : ∀ a, a < H → ¬ Dm T b a → ag w (wd_sR x 601 (T + 2) (some H)) a := fun a h1 h2 => (x3 a h1 h2).tr ⟨fun _ => rfl, fun f => by rw [r_sR, if_neg]; exact fun q => h2 (q.2 ▸ hDp), fun _ => rfl, fun _ => rfl, rfl⟩
      unfold Tq
      rw [hnp]
      refine ⟨by omega, hpb, fun a ha g h1 h2 h3 => ?_, fun a ha => ?_, fun a ha => x3' a (by have := d7 a ha; omega) fun q => (d6 a q).2 ha, ⟨?_, ?_, ?_, fun i hi => ?_⟩, ⟨d1, fun i hi => ?_, d3, fun i k hi hk h => ?_, d5, fun a ha => ?_, fun a ha => ?_, ⟨?_, d9, ?_, ?_⟩, fun a ha => ?_, d12⟩, ⟨⟨⟨hpb, Nat.le_succ _, rfl, ?_, fun a h1 h2 => x3' a (by omega) h2, fun a ha => ?_, ?_, ?_, ?_⟩, rfl, fun a ha => ?_⟩, rfl, fun a ha => ?_⟩, fun a ha _ => ?_, fun a ha => ?_⟩
      · have := (d6 a ha).1
        have q := x1 a (by omega) g h1 h2 h3
        exact ⟨q.1, by rw [r_sR, if_neg (by omega)]; exact q.2⟩
      · have := (d6 a ha).1
        exact x2 a (by omega)
      · rw [tN_uN, if_pos ⟨rfl, rfl⟩]
        show np + 1 ≤ b_pn b + 1
        omega
      · rw [r_sR, if_neg (by omega), x7]; rfl
      · rw [r_sR, if_pos ⟨rfl, rfl⟩, e1, if_neg (by omega), Nat.add_sub_cancel, hpn]
        exact congrArg some hpbn.symm
      · have hi' : i < b_pn b + 1 := hi
        show wd_R (wd_sR x 601 (T + 2) (some H)) 414 (pb i) = if i + 1 = b_pn b + 1 then none else some (pb (i + 1))
        rw [r_sR, if_neg (by omega)]
        by_cases q : i = b_pn b
        · rw [q, hpbn, if_pos rfl]; exact x8
        · rw [hpb i (by omega), if_neg (by omega)]; exact x9 i (by omega)
      · show T + 61 ≤ pb i
        have hi' : i < b_pn b + 1 := hi
        by_cases q : i = b_pn b
        · rw [q, hpbn]; exact hge
        · rw [hpb i (by omega)]; exact d2 i (by omega)
      · have hi' : i < b_pn b + 1 := hi
        have hk' : k < b_pn b + 1 := hk
        have h' : pb i = pb k := h
        by_cases q : i = b_pn b
        · by_cases r : k = b_pn b
          · omega
          · rw [q, hpbn, hpb k (by omega)] at h'
            have := hlt k (by omega)
            omega
        · by_cases r : k = b_pn b
          · rw [r, hpbn, hpb i (by omega)] at h'
            have := hlt i (by omega)
            omega
          · rw [hpb i (by omega), hpb k (by omega)] at h'
            exact d4 i k (by omega) (by omega) h'
      · show a < wd_H x ∧ _
        rw [x4]
        rcases hdm a ha with q | q
        · exact ⟨by have := (d6 a q).1; omega, (d6 a q).2⟩
        · exact ⟨by omega, fun r => by have := d7 a r; omega⟩
      · show a < wd_H x
        have := d7 a ha
        omega
      · show b_pn b + 1 ≤ X
        omega
      · show 2 * X + 1 ≤ wd_M x + _
        omega
      · show 15 * (2 * X + 1) ≤ wd_S x + _
        omega
      · obtain ⟨r, r1, r2, r3⟩ := dh a ha
        exact ⟨r, by rw [hnp]; exact r1, by rw [r2]; exact (hpb r (by omega)).symm, r3⟩
      · show wd_H w ≤ wd_H x
        omega
      · rcases hdm a ha with q | q
        · exact Or.inl q
        · exact Or.inr (by omega)
      · show wd_M x + wd_H x = _
        omega
      · show wd_H x + _ = _
        omega
      · show _ ≤ wd_S x + _
        omega
      · obtain ⟨r, r1, r2, r3⟩ := dh a ha
        have := x1 a (by rw [r2]; exact hlt r (by omega))
        exact ⟨(this 411 (by omega) (by omega) (by omega)).1, by rw [r_sR, if_neg (by omega)]; exact (this 412 (by omega) (by omega) (by omega)).2, by rw [r_sR, if_neg (by omega)]; exact (this 413 (by omega) (by omega) (by omega)).2⟩
      · have := x1 a (d6 a (dm_f (List.mem_append_right _ (List.mem_append_left _ ha)))).1
        exact ⟨fun g hg => (this g (by omega) (by omega) (by omega)).1, by rw [r_sR, if_neg (by omega)]; exact (this 5 (by omega) (by omega) (by omega)).2⟩
      · rw [hpn, hpbn]
        have := (d6 a ha).1
        omega
      · rw [hpn, hpbn]
        have := d7 a ha
        omega
    have hw1 : ∀ a, a < H → (∀ g, wd_I (wd_nw w 5 0 15) g a = wd_I w g a) ∧ (∀ g, wd_R (wd_nw w 5 0 15) g a = wd_R w g a) ∧ (∀ i, wd_A (wd_nw w 5 0 15) a i = wd_A w a i) ∧ (∀ i, wd_Q (wd_nw w 5 0 15) a i = wd_Q w a i) ∧ wd_N (wd_nw w 5 0 15) a = wd_N w a := fun a ha => ag_nw w (by omega)
    by_cases c0 : np = 0
    · refine ⟨_, pb, b_pn b + 1, ?_, fin (wd_sR (wd_nw w 5 0 15) 600 (T + 2) (some H)) (fun a ha g h1 h2 h3 => ⟨(hw1 a ha).1 g, by rw [r_sR, if_neg (by omega)]; exact (hw1 a ha).2.1 g⟩) (fun a ha => (hw1 a ha).2.2) (fun a ha hn => ag.tr (hw1 a ha) ⟨fun _ => rfl, fun f => by rw [r_sR, if_neg]; exact fun q => hn (q.2 ▸ hDp), fun _ => rfl, fun _ => rfl, rfl⟩) (by show wd_H w + 1 = _; omega) rfl rfl ?_ ?_ (fun i hi => by omega)⟩
      · unfold f_X6_take f_X6_take_j21
        rw [p3, if_pos c0, wd_on_N, p2, if_pos (by omega), wd_on_N, j_gd hg, wd_let, wd_let, f_X4_init, Option.bind_some, (hw1 (T + 2) (by omega)).2.1, p3, if_pos c0, wd_on_N, wd_let, hH, hpn, hpbn]; rfl
      · rw [r_sR, if_pos ⟨rfl, rfl⟩, show (0 : Nat) = b_pn b by omega, hpbn]
      · rw [r_sR, if_neg (by omega), r_nw, if_pos hH.symm]
    · refine ⟨_, pb, b_pn b + 1, ?_, fin (wd_sR (wd_nw w 5 0 15) 414 (b_pa b (np - 1)) (some H)) (fun a ha g h1 h2 h3 => ⟨(hw1 a ha).1 g, by rw [r_sR, if_neg (by omega)]; exact (hw1 a ha).2.1 g⟩) (fun a ha => (hw1 a ha).2.2) (fun a ha hn => ag.tr (hw1 a ha) ⟨fun _ => rfl, fun f => by rw [r_sR, if_neg]; exact fun q => hn (q.2 ▸ dm_p (by omega)), fun _ => rfl, fun _ => rfl, rfl⟩) (by show wd_H w + 1 = _; omega) rfl rfl ?_ ?_ (fun i hi => ?_)⟩
      · unfold f_X6_take f_X6_take_j21
        rw [p3, if_neg c0, wd_on_S, Option.bind_some, p4 (np - 1) (by omega), if_pos (by omega), wd_on_N, j_gd hg, wd_let, wd_let, f_X4_init, Option.bind_some, (hw1 (T + 2) (by omega)).2.1, p3, if_neg c0, wd_on_S, Option.bind_some, wd_let, hH, hpn, hpbn]; rfl
      · rw [r_sR, if_neg (by omega), (hw1 (T + 2) (by omega)).2.1, p2, if_neg (by omega), hpb 0 (by omega)]
      · rw [r_sR, if_neg (fun q => by have := hlt (np - 1) (by omega); omega), r_nw, if_pos hH.symm]
      · by_cases q : i = np - 1
        · rw [q, r_sR, if_pos ⟨rfl, rfl⟩, show np - 1 + 1 = b_pn b by omega, hpbn]
        · rw [r_sR, if_neg (fun r => q (d4 i (np - 1) hi (by omega) r.2)), (hw1 _ (hlt i hi)).2.1, p4 i hi, if_neg (by omega), hpb (i + 1) (by omega)]
/-- the new packet's header written -/
theorem new_op (hT : Tm P T X z w b A) (hI : Ix A) (hJ : Iy A) {pb : Nat → Nat} {pm : Nat} {v : Wd} (hq : Tq P T X z w u b A pb pm) (hd : Nat → Int32) (ins : Option Nat)
    (hc : ∀ g c, (c ≠ pb (tN A 1 0) ∨ g < 400 ∨ 410 < g) → wd_I v g c = wd_I u g c ∧ wd_R v g c = wd_R u g c) (hY : wd_A v = wd_A u ∧ wd_Q v = wd_Q u ∧ wd_N v = wd_N u ∧ wd_H v = wd_H u ∧ wd_M v = wd_M u ∧ wd_S v = wd_S u)
    (h1 : ∀ g, 400 ≤ g → g ≤ 409 → wd_I v g (pb (tN A 1 0)) = hd g) (h2 : wd_R v 410 (pb (tN A 1 0)) = ins.map pb) : Tm P T X z v (v_pp b pb pm) (uN (nwA A hd ins) 5 (tN A 1 0) 3) ∧ Rl T w b v (v_pp b pb pm) := by
  obtain ⟨q1, q2, q3, q4, q5, q6, q7, q8, q9, q10⟩ := hq
  obtain ⟨y1, y2, y3, y4, y5, y6⟩ := hY
  have hpb : ∀ i, i < tN A 1 0 → pb i = b_pa b i := fun i hi => q2 i (hT.pn hi)
  have hne : ∀ i, i < tN A 1 0 → pb i ≠ pb (tN A 1 0) := fun i hi e => by
    have := q7.2.2.2.1 i (tN A 1 0) (by show i < pm; omega) q1 e
    omega
  have hDa : Dm T (v_pp b pb pm) (pb (tN A 1 0)) := Or.inr (Or.inl ⟨tN A 1 0, q1, rfl⟩)
  have hag : ∀ a, a ≠ pb (tN A 1 0) → ag u v a := fun a ha => ⟨fun g => (hc g a (Or.inl ha)).1, fun g => (hc g a (Or.inl ha)).2, fun i => by rw [y1], fun i => by rw [y2], by rw [y3]⟩
  obtain ⟨k1, k2, k3, k4, k5⟩ := tm_wk (u := v) hT hI hJ pb pm hpb (fun a ha hn g g1 g2 g3 => by
      have := hc g a (Or.inl (q9 a ha hn))
      rw [this.1, this.2]; exact q3 a ha g g1 g2 g3) (fun a ha => by rw [y1, y2, y3]; exact q4 a ha) (fun a ha => (q5 a ha).tr (hag a (q10 a ha))) (fun g a ha hg => by
      have := hc g a (Or.inr (Or.inl hg))
      rw [this.1, this.2]; exact q3 a (dm_f ha) g (by omega) (by omega) (by omega))
  refine ⟨⟨k1, ⟨q7.1, q7.2.1, q7.2.2.1, q7.2.2.2.1, q7.2.2.2.2.1, ?_, ?_, ⟨q7.2.2.2.2.2.2.2.1.1, q7.2.2.2.2.2.2.2.1.2.1, ?_, ?_⟩, fun a ha => ?_, q7.2.2.2.2.2.2.2.2.2⟩, k2, fun i hi => ?_, ⟨q6.1, ?_, ?_, fun i hi => ?_⟩, k4, k5⟩, q8.tr ⟨⟨⟨fun _ _ => rfl, Nat.le_refl _, rfl, by rw [y4]; exact Nat.le_refl _, fun a _ hn => hag a (fun e => hn (e ▸ hDa)), fun a ha => Or.inl ha, by rw [y4, y5], by rw [y4], by rw [y6]; exact Nat.le_refl _⟩, rfl, fun a ha => ⟨(hc 411 a (by omega)).1, (hc 412 a (by omega)).2, (hc 413 a (by omega)).2⟩⟩, rfl, fun a ha => ⟨fun g hg => (hc g a (by omega)).1, (hc 5 a (by omega)).2⟩⟩⟩
  · rw [y4]; exact q7.2.2.2.2.2.1
  · rw [y4]; exact q7.2.2.2.2.2.2.1
  · rw [y5]; exact q7.2.2.2.2.2.2.2.1.2.2.1
  · rw [y6]; exact q7.2.2.2.2.2.2.2.1.2.2.2
  · obtain ⟨r, r1, r2, r3⟩ := q7.2.2.2.2.2.2.2.2.1 a ha
    exact ⟨r, Nat.lt_succ_of_lt r1, r2, by rw [tN_uN, if_neg (by omega)]; exact r3⟩
  · have hi' : i < tN A 1 0 + 1 := hi
    show (∀ g, 400 ≤ g → g ≤ 409 → wd_I v g (pb i) = if i = tN A 1 0 then hd g else tI A g i) ∧ wd_R v 410 (pb i) = (if i = tN A 1 0 then ins else tR A 410 i).map pb
    by_cases e : i = tN A 1 0
    · rw [e, if_pos rfl]
      exact ⟨fun g g1 g2 => by rw [if_pos rfl]; exact h1 g g1 g2, h2⟩
    · rw [if_neg e]
      have := k3 i (by omega)
      exact ⟨fun g g1 g2 => by rw [if_neg e]; exact this.1 g g1 g2, this.2⟩
  · rw [(hc 600 _ (by omega)).2]; exact q6.2.1
  · rw [(hc 601 _ (by omega)).2]; exact q6.2.2.1
  · rw [(hc 414 _ (by omega)).2]; exact q6.2.2.2 i hi
end TK
