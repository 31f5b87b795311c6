/-! ===== PURE: a trial asks ===== -/
section AS
variable {P T X R i j n c : Nat} {z w u : Wd} {b : Be} {A A' : Ta}
/-- what a trial leaves as it was -/
def Rr (T R : Nat) (w : Wd) (b : Be) (w' : Wd) (b' : Be) : Prop :=
  wd_H w ≤ wd_H w' ∧ (∀ a, a < wd_H w → ¬ Dm T b a → a ≠ R → ag w w' a) ∧ (∀ a, Dm T b' a → Dm T b a ∨ wd_H w ≤ a) ∧ wd_M w' + wd_H w' = wd_M w + wd_H w ∧ wd_H w' + cn b = wd_H w + cn b' ∧ wd_S w + 15 * cn b ≤ wd_S w' + 15 * cn b' ∧ ∀ g, wd_R w' g R = wd_R w g R
theorem Rr.rf (T R : Nat) (w : Wd) (b : Be) : Rr T R w b w b := ⟨Nat.le_refl _, fun _ _ _ _ => ag.rf _ _, fun _ h => Or.inl h, rfl, rfl, Nat.le_refl _, fun _ => rfl⟩
theorem Rr.tr {v x : Wd} {b' b2 : Be} (h : Rr T R w b v b') (k : Rr T R v b' x b2) : Rr T R w b x b2 := by
  obtain ⟨h1, h2, h3, h4, h5, h6, h7⟩ := h
  obtain ⟨k1, k2, k3, k4, k5, k6, k7⟩ := k
  refine ⟨by omega, fun a ha hn hR => (h2 a ha hn hR).tr (k2 a (by omega) (fun q => ?_) hR), fun a ha => ?_, by omega, by omega, by omega, fun g => (k7 g).trans (h7 g)⟩
  · rcases h3 a q with q | q
    · exact hn q
    · omega
  · rcases k3 a ha with q | q
    · exact h3 a q
    · exact Or.inr (by omega)
theorem Rl.r {v : Wd} {b' : Be} (h : Rl T w b v b') (hR : R < wd_H w) (hD : ¬ Dm T b R) : Rr T R w b v b' := by
  obtain ⟨h1, h2, h3, h4, h5, h6, h7, h8, h9⟩ := h.1.1
  exact ⟨h4, fun a ha hn _ => h5 a ha hn, h6, h7, h8, h9, fun g => (h5 R hR hD).2.1 g⟩
theorem Wo.r {v : Wd} (h : Wo R w v) : Rr T R w b v b := ⟨by rw [h.2.2.1]; omega, fun a _ _ hR => h.1 a hR, fun a ha => Or.inl ha, by rw [h.2.2.1, h.2.2.2.1], by rw [h.2.2.1], by rw [h.2.2.2.2]; omega, h.2.1⟩
theorem Tm.nR (hT : Tm P T X z w b A) (hR : Rx P T R z) : ¬ Dm T b R := fun q => by
  have := hT.ge q
  have := hR.1
  omega
theorem Rl.rt {v : Wd} {b' : Be} (h : Rl T w b v b') (hR : R < wd_H w) (hD : ¬ Dm T b R) {s : Ts} {nu : Int32} (hs : Rt R w s nu) : Rt R v s nu ∧ (∀ g, wd_I v g R = wd_I w g R) := by
  have e := h.1.1.2.2.2.2.1 R hR hD
  obtain ⟨h1, h2, h3, h4, h5⟩ := hs
  exact ⟨⟨by rw [e.1]; exact h1, by rw [e.1]; exact h2, by rw [e.1]; exact h3, by rw [e.1]; exact h4, by rw [e.1]; exact h5⟩, e.1⟩
/-- what a trial may be told -/
def Tsq (s : Ts) : Prop := (s.1 = 0 ∨ s.1 = 1) ∧ (s.2 = (-1, -1, -1) ∨ ∃ k x a : Nat, s.2 = (Int32.ofNat k, Int32.ofNat x, Int32.ofNat a) ∧ k ≤ 5 ∧ x < 256 ∧ (k = 5 → 12 ≤ a ∧ a ≤ 200)) ∧ (s.1 ≠ 0 → s.2.1 ≠ -1)
theorem tsq_1 {nu : Int32} {f : Nat → Int32} {s : Ts} (h : Tsq s) (hf : Nq A f) : Tsq (lk1 nu f s) := by
  obtain ⟨k, x, t, tt, m, a, f0, f1, f2, f3, f4, f5, h1, h2, h3, -, -, -, -, h6⟩ := hf
  have hk : (Int32.ofNat k) ≠ -1 := fun e => by
    have := j_n0 (k := k) (by omega)
    rw [e] at this
    exact this (by decide)
  obtain ⟨g1, g2, g3⟩ := h
  by_cases c2 : s.2.1 = -1 ∧ ((f 0 = 2 ∧ f 5 = nu) ∨ f 0 = 3 ∨ f 0 = 4 ∨ f 0 = 5)
  · have e2 := lk1_c (nu := nu) c2
    have e21 : (lk1 nu f s).2.1 = f 0 := by rw [e2]
    refine ⟨?_, Or.inr ⟨k, x, a, by rw [e2, f0, f1, f5], h2, h3, h6⟩, fun _ => by rw [e21, f0]; exact hk⟩
    by_cases c1 : s.1 = 0 ∧ ¬ (f 0 = 2 ∧ f 5 = nu)
    · exact Or.inl (lk1_a c1)
    · exact Or.inr (lk1_b c1)
  · have e2 := lk1_d (nu := nu) c2
    refine ⟨?_, by rw [e2]; exact g2, fun q => ?_⟩
    · by_cases c1 : s.1 = 0 ∧ ¬ (f 0 = 2 ∧ f 5 = nu)
      · exact Or.inl (lk1_a c1)
      · exact Or.inr (lk1_b c1)
    · rw [e2]
      intro e
      by_cases c1 : s.1 = 0 ∧ ¬ (f 0 = 2 ∧ f 5 = nu)
      · exact q (lk1_a c1)
      · refine c1 ⟨Classical.byContradiction fun x => g3 x e, fun x => c2 ⟨e, Or.inl x⟩⟩
theorem tsq_D {nu : Int32} {O : List (Nat → Int32)} (hO : ∀ f, f ∈ O → Nq A f) : ∀ (d : Nat) (s : Ts), Tsq s → Tsq (lkD nu O d s) := by
  intro d
  induction d with
  | zero => intro s h; exact h
  | succ d ih =>
    intro s h
    show Tsq (lkD nu O d (match O[d]? with | some f => lk1 nu f s | none => s))
    refine ih _ ?_
    cases hf : O[d]? with
    | none => exact h
    | some f => exact tsq_1 h (hO f (List.mem_of_getElem? hf))
def askF (P : Nat) (z : Wd) (j : Nat) (nu : Int32) : Nat → Ta × Ts → Ta × Ts
  | 0, s => s
  | k + 1, s => match tF s.1 with
    | [] => s
    | f :: F => askF P z j nu k (dnF P z s.1 f F, lkD nu (tO (dnF P z s.1 f F) j) ((tO (dnF P z s.1 f F) j).length - (tO s.1 j).length) s.2)
theorem o_askL (hz : PS P z) (hj : j < 8) (hR : Rx P T R z) (hn : X + 12 ≤ n) (hX : X < 900000) {nu : Int32} {K : Nat} : ∀ (k t m : Nat) (w : Wd) (b : Be) (A : Ta) (s : Ts) (c : Nat), t + k = 200 → k < m → Tm P T X z w b A → Iv P z c A → b_fh b = [] → b_ph b = [] → Rt R w s nu → Tsq s → wd_I w 1006 R = Int32.ofNat (b_ng b 203 j + (tO A j).length) → wd_R w 1004 R = some T → R < wd_H w →
    c + 4 * k + 12 ≤ 10000 → (c + 4 * k) / 8 + 7 ≤ K → Bg X b A (k * K) (k * K) (k * 7) →
    ∃ v b', wd_lp4 (f_X10_ask_l81 n) m R (some (hA T j)) (Int32.ofNat t) w = some v ∧ Tm P T X z v b' (askF P z j nu k (A, s)).1 ∧ Rt R v (askF P z j nu k (A, s)).2 nu ∧ Tsq (askF P z j nu k (A, s)).2 ∧ Rr T R w b v b' ∧ b_fh b' = [] ∧ b_ph b' = [] ∧ b_ng b' = b_ng b ∧ Iv P z (c + 4 * k) (askF P z j nu k (A, s)).1 ∧ Ct A (askF P z j nu k (A, s)).1 (k * K) (k * K) (k * 7) (k * (3 * X + K)) := by
  intro k
  induction k with
  | zero =>
    intro t m w b A s c ht hm hT h hh hp hs hq hse h4 hRH hc hK hB
    obtain ⟨m, rfl⟩ : ∃ r, m = r + 1 := ⟨m - 1, by omega⟩
    refine ⟨w, b, ?_, hT, hs, hq, Rr.rf _ _ _ _, hh, hp, rfl, h, (Ct.rf A).le (by omega) (by omega) (by omega) (by omega)⟩
    rw [wd_lp4, f_X10_ask_l81, if_pos (by rw [show (200 : Int32) = Int32.ofNat 200 from rfl, j_ll (by omega) (by omega)]; omega)]
  | succ k ih =>
    intro t m w b A s c ht hm hT h hh hp hs hq hse h4 hRH hc hK hB
    obtain ⟨m, rfl⟩ : ∃ r, m = r + 1 := ⟨m - 1, by omega⟩
    have eK : (k + 1) * K = K + k * K := by rw [Nat.succ_mul]; omega
    have eX : (k + 1) * (3 * X + K) = (3 * X + K) + k * (3 * X + K) := by rw [Nat.succ_mul]; omega
    have e7 : (k + 1) * 7 = 7 + k * 7 := by omega
    rw [eK, e7] at hB
    have hK1 : (c + 4) / 8 ≤ (c + 4 * (k + 1)) / 8 := Nat.div_le_div_right (by omega)
    have hK2 : (c + 4 + 4 * k) / 8 + 7 ≤ K := by
      rw [show c + 4 + 4 * k = c + 4 * (k + 1) by omega]; exact hK
    have hD := hT.nR hR
    rw [wd_lp4, f_X10_ask_l81, if_neg (by rw [show (200 : Int32) = Int32.ofNat 200 from rfl, j_ll (by omega) (by omega)]; omega), h4, Option.bind_some, askF]
    dsimp only
    cases hF : tF A with
    | nil =>
      rw [o_noStep hT hF, wd_b2_s, if_pos rfl]
      exact ⟨w, b, rfl, hT, hs, hq, Rr.rf _ _ _ _, hh, hp, rfl, h.le (by omega) (by omega), (Ct.rf A).le (by omega) (by omega) (by omega) (by omega)⟩
    | cons f F =>
      dsimp only
      obtain ⟨y, b1, y1, y2, y3, y4, y5, y6⟩ := o_step (n := n) hT h hz hh hp (by omega) hX (by omega) hF (hB.le (by omega) (by omega) (by omega))
      obtain ⟨r1, r2⟩ := y3.rt hRH hD hs
      have hng := y3.ng
      have hH : wd_H w ≤ wd_H y := y3.1.1.2.2.2.1
      have h4y : wd_R y 1004 R = some T := by rw [(y3.1.1.2.2.2.2.1 R hRH hD).2.1]; exact h4
      have len := y5.2.2.2.2.2.1 j
      have hB2 : Bg X b1 (dnF P z A f F) (k * K) (k * K) (k * 7) := (hB.le (a' := ((c + 4) / 8 + 7) + k * K) (f' := ((c + 4) / 8 + 7) + k * K) (g' := 7 + k * 7) (by omega) (by omega) (by omega)).ct y5 hng
      obtain ⟨x, x1, x2, x3, x4⟩ := o_look (n := n) y2 hj hR y4.1 (nu := nu) (s := s) (len := (tO A j).length) len.1 (by omega) r1 (by rw [r2, hng]; exact hse) (by omega)
      have hTx := x2.tm y2 y4.1 hR
      have hqx := tsq_D (nu := nu) (y4.2.2.2.1.2.2.2.2.2.2 j hj) ((tO (dnF P z A f F) j).length - (tO A j).length) s hq
      have hph : b_ph b1 = [] := y3.1.2.1.trans hp
      have hfh : b_fh b1 = [] := y3.2.1.trans hh
      rw [y1, wd_b2_s, if_neg (by decide), x1, Option.bind_some, wd_let, j_a1]
      generalize dnF P z A f F = C at *
      obtain ⟨v, b', v1, v2, v3, v4, v5, v6, v7, v8, v9, v10⟩ := ih (t + 1) m x b1 C _ (c + 4) (by omega) (by omega) hTx y4 hfh hph x3 hqx x4 (by rw [x2.2.1]; exact h4y) (by rw [x2.2.2.1]; omega) (by omega) hK2 hB2
      refine ⟨v, b', v1, v2, v3, v4, ((y3.r hRH hD).tr x2.r).tr v5, v6, v7, v8.trans hng, by rw [show c + 4 * (k + 1) = c + 4 + 4 * k by omega]; exact v9, ?_⟩
      rw [eK, e7, eX]
      exact (y5.tr v10).le (by omega) (by omega) (by omega) (by omega)
end AS
