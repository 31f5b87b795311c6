/-! ===== PURE: hops, widest, whoTells ===== -/
section TY
variable {n c B nm s j : Nat} {z w u : Wd} {b1 b2 : Be} {A1 A2 : Ta}
theorem Tc.le {k q k' q' : Nat} (h : Tc B z b2 A2 k q) (hk : k ≤ k') (hq : q ≤ q') : Tc B z b2 A2 k' q' := ⟨h.1, by have := h.2.1; omega, fun i hi => by have := h.2.2 i hi; omega⟩
theorem x_try (h : Nw B 2 nm s z w b1 A1 b2 A2) (h3 : 3 ≤ nm) (hI : Iv (B + 1) z c A1) (hj : j < nm) (hn : 200000 ≤ n) {k q : Nat} (hT : Tc B z b2 A2 k q) (hq : q ≤ 500000000) (h9 : tN A1 901 0 ≤ 200000) {to size tt v : Nat} (ht : to < 256) (hs : size ≤ 200) (ht1 : 1 ≤ tt) (ht2 : tt ≤ 40) (hv : v ≤ 1) :
    ∃ x y b' A', f_X10_begin n w (B + 138) (some (B + 77)) = some x ∧ wd_R x 1102 B = some (B + 138) ∧ f_X10_ask n x (B + 138) (Int32.ofNat j) (Int32.ofNat to) (Int32.ofNat size) (Int32.ofNat tt) (Int32.ofNat v) = some y ∧ Nw B 2 nm s z y b1 A1 b' A' ∧ (∃ nu, Rt (B + 138) y (akF (B + 1) z (tM A1) (tN A1 901 0) j to size tt v).2 nu) ∧ Tsq (akF (B + 1) z (tM A1) (tN A1 901 0) j to size tt v).2 ∧ Tc B z b' A' 300000 (q + 1500) ∧ (∀ a, Ot B a → ag w y a) := by
  obtain ⟨x, A', g1, g2, g3, g4, g5, g6⟩ := x_begin (n := n) h hI (by omega) hT
  obtain ⟨y, b', k1, k2, k3, k4, k5, k6⟩ := x_ask (n := n) g2 h3 hj hn g5 (by omega) hq g3 ht hs ht1 ht2 hv
  rw [g4] at k2 k3 k4 k5
  exact ⟨x, y, b', _, g1, g2.2.2.2.2.1.2.2.1, k1, k2, k3, k4, k5.le (by omega) (Nat.le_refl _), fun a ha => (g6 a ha).tr (k6 a ha)⟩
set_option maxRecDepth 8000 in
theorem x_hopsL (h3 : 3 ≤ nm) (hI : Iv (B + 1) z c A1) (hj : j < nm) (hn : 200000 ≤ n) (h9 : tN A1 901 0 ≤ 200000) {to : Nat} (ht : to < 256) : ∀ (k t m : Nat) (w : Wd) (b2 : Be) (A2 : Ta) (k0 q : Nat), t + k = 13 → 1 ≤ t → k < m → Nw B 2 nm s z w b1 A1 b2 A2 → Tc B z b2 A2 k0 q → k0 ≤ 400000 → q + 1500 * k ≤ 500000000 →
    ∃ r y b' A', wd_lp5 (f_X11_hops_l12 n) m B (Int32.ofNat j) (Int32.ofNat to) (Int32.ofNat t) w = some (r, y) ∧ Nw B 2 nm s z y b1 A1 b' A' ∧ (r = -1 ∨ ∃ t', 1 ≤ t' ∧ t' ≤ 12 ∧ r = Int32.ofNat t' ∧ (akF (B + 1) z (tM A1) (tN A1 901 0) j to 8 t' 0).2.1 ≠ 0) ∧ (1 ≤ k → (akF (B + 1) z (tM A1) (tN A1 901 0) j to 8 t 0).2.1 ≠ 0 → r = Int32.ofNat t) ∧ Tc B z b' A' 400000 (q + 1500 * k) ∧ (∀ a, Ot B a → ag w y a) := by
  intro k
  induction k with
  | zero =>
    intro t m w b2 A2 k0 q ht' h1 hm h hT hk0 hq
    obtain ⟨m, rfl⟩ : ∃ r, m = r + 1 := ⟨m - 1, by omega⟩
    refine ⟨-1, w, b2, A2, ?_, h, Or.inl rfl, fun q => by omega, hT.le hk0 (by omega), fun _ _ => ag.rf _ _⟩
    rw [wd_lp5, f_X11_hops_l12, if_pos (by rw [show (12 : Int32) = Int32.ofNat 12 from rfl, j_lx (by omega) (by omega)]; omega)]
  | succ k ih =>
    intro t m w b2 A2 k0 q ht' h1 hm h hT hk0 hq
    obtain ⟨m, rfl⟩ : ∃ r, m = r + 1 := ⟨m - 1, by omega⟩
    obtain ⟨x, y, b', A', g1, g2, g3, g4, ⟨nu, g5⟩, g6, g7, g8⟩ := x_try (n := n) h h3 hI hj hn hT (by omega) h9 (to := to) (size := 8) (tt := t) (v := 0) ht (by omega) h1 (by omega) (by omega)
    rw [wd_lp5, f_X11_hops_l12, if_neg (by rw [show (12 : Int32) = Int32.ofNat 12 from rfl, j_lx (by omega) (by omega)]; omega), h.2.2.2.2.1.2.2.1, Option.bind_some, h.2.2.2.2.1.2.1, g1, Option.bind_some, g2, Option.bind_some, show f_X10_ask n x (B + 138) (Int32.ofNat j) (Int32.ofNat to) 8 (Int32.ofNat t) 0 = some y from g3, Option.bind_some, g4.2.2.2.2.1.2.2.1, Option.bind_some, g5.1]
    by_cases e : (akF (B + 1) z (tM A1) (tN A1 901 0) j to 8 t 0).2.1 = 0
    · rw [if_pos e, wd_let, j_a1]
      obtain ⟨r, v, b3, A3, r1, r2, r3, r4, r5, r6⟩ := ih (t + 1) m y b' A' 300000 (q + 1500) (by omega) (by omega) (by omega) g4 g7 (by omega) (by omega)
      exact ⟨r, v, b3, A3, r1, r2, r3, fun _ x => absurd e x, r5.le (Nat.le_refl _) (by omega), fun a ha => (g8 a ha).tr (r6 a ha)⟩
    · rw [if_neg e]
      exact ⟨Int32.ofNat t, y, b', A', rfl, g4, Or.inr ⟨t, h1, by omega, rfl, e⟩, fun _ _ => rfl, g7.le (by omega) (by omega), g8⟩
set_option maxRecDepth 8000 in
theorem x_hops (h : Nw B 2 nm s z w b1 A1 b2 A2) (h3 : 3 ≤ nm) (hI : Iv (B + 1) z c A1) (hj : j < nm) (hn : 200000 ≤ n) (h9 : tN A1 901 0 ≤ 200000) {to k0 q : Nat} (ht : to < 256) (hT : Tc B z b2 A2 k0 q) (hk0 : k0 ≤ 400000) (hq : q + 18000 ≤ 500000000) :
    ∃ r y b' A', f_X11_hops n w B (Int32.ofNat j) (Int32.ofNat to) = some (r, y) ∧ Nw B 2 nm s z y b1 A1 b' A' ∧ (r = -1 ∨ ∃ t', 1 ≤ t' ∧ t' ≤ 12 ∧ r = Int32.ofNat t' ∧ (akF (B + 1) z (tM A1) (tN A1 901 0) j to 8 t' 0).2.1 ≠ 0) ∧ (owv (B + 1) z j (Int32.ofNat to) = true → r = 1) ∧ Tc B z b' A' 400000 (q + 18000) ∧ (∀ a, Ot B a → ag w y a) := by
  obtain ⟨r, y, b', A', g1, g2, g3, g4, g5, g6⟩ := x_hopsL (n := n) h3 hI hj hn h9 ht 12 1 n w b2 A2 k0 q (by omega) (by omega) (by omega) h hT hk0 (by omega)
  refine ⟨r, y, b', A', ?_, g2, g3, fun ho => ?_, g5, g6⟩
  · rw [f_X11_hops, x_hostOf h hj, wd_b2_s, x_addr to ht, Option.bind_some]
    exact g1
  · have := g4 (by omega) (by rw [own_ask (h.1.ps h3) (by have := h.mm.2; omega) hI.2.2.2.1.2.2.2.2.2.1 (by omega) ht (by omega) (by omega) (by omega) (by omega) ho]; exact (by decide : (1 : Int32) ≠ 0))
    rw [this]; rfl
theorem x_widL (h3 : 3 ≤ nm) (hj : j < nm) (hn : 200000 ≤ n) {to E F : Nat} (hE : 30000 ≤ E) (hF : 1500 ≤ F) (ht : to < 256) : ∀ (k t m : Nat) (w : Wd) (b2 : Be) (A2 : Ta) (k0 q sz : Nat), t + k = 6 → k < m → Nw B 2 nm s z w b1 A1 b2 A2 → Tc B z b2 A2 k0 q → k0 + k * E ≤ 500000000 → q + k * F ≤ 500000000 → 8 ≤ sz → sz ≤ 196 →
    ∃ r y b' A', wd_lp6 (f_X11_widest_l28 n) m B (Int32.ofNat j) (Int32.ofNat to) (Int32.ofNat sz) (Int32.ofNat t) w = some (r, y) ∧ Nw B 2 nm s z y b1 A1 b' A' ∧ (r = -1 ∨ ∃ g, 8 ≤ g ∧ g ≤ 196 ∧ r = Int32.ofNat g) ∧ (1 ≤ k → owv (B + 1) z j (Int32.ofNat to) = true → r = Int32.ofNat sz) ∧ Tc B z b' A' (k0 + k * E) (q + k * F) ∧ (∀ a, Ot B a → ag w y a) := by
  intro k
  induction k with
  | zero =>
    intro t m w b2 A2 k0 q sz ht' hm h hT hk0 hq h8 hs
    obtain ⟨m, rfl⟩ : ∃ r, m = r + 1 := ⟨m - 1, by omega⟩
    refine ⟨-1, w, b2, A2, ?_, h, Or.inl rfl, fun q => by omega, hT.le (by omega) (by omega), fun _ _ => ag.rf _ _⟩
    rw [wd_lp6, f_X11_widest_l28, if_pos (by rw [show (6 : Int32) = Int32.ofNat 6 from rfl, j_ll (by omega) (by omega)]; omega)]
  | succ k ih =>
    intro t m w b2 A2 k0 q sz ht' hm h hT hk0 hq h8 hs
    obtain ⟨m, rfl⟩ : ∃ r, m = r + 1 := ⟨m - 1, by omega⟩
    have eE : (k + 1) * E = E + k * E := by rw [Nat.succ_mul]; omega
    have eF : (k + 1) * F = F + k * F := by rw [Nat.succ_mul]; omega
    rw [eE] at hk0
    rw [eF] at hq
    rw [eE, eF]
    obtain ⟨y, b', g1, g2, ⟨nu, g3⟩, g4, g5, g6⟩ := x_ask (n := n) h h3 hj hn hT (by omega) (by omega) (M := tM A2) (fun _ _ _ _ => rfl) (to := to) (size := sz) (tt := 32) (v := 1) ht (by omega) (by omega) (by omega) (by omega)
    have hown : owv (B + 1) z j (Int32.ofNat to) = true → (akF (B + 1) z (tM A2) (tN A2 901 0) j to sz 32 1).2 = (1, 2, Int32.ofNat to, Int32.ofNat (tN A2 901 0)) := fun ho => own_ask (h.1.ps h3) (by have := h.mm.2; omega) hT.1 (by have := hT.2.1; omega) ht (by omega) (by omega) (by omega) (by omega) ho
    rw [wd_lp6, f_X11_widest_l28, if_neg (by rw [show (6 : Int32) = Int32.ofNat 6 from rfl, j_ll (by omega) (by omega)]; omega), h.2.2.2.2.1.2.2.1, Option.bind_some, show f_X10_ask n w (B + 138) (Int32.ofNat j) (Int32.ofNat to) (Int32.ofNat sz) 32 1 = some y from g1, Option.bind_some, g2.2.2.2.2.1.2.2.1, Option.bind_some, g3.2.1]
    generalize (akF (B + 1) z (tM A2) (tN A2 901 0) j to sz 32 1).1 = C at *
    generalize (akF (B + 1) z (tM A2) (tN A2 901 0) j to sz 32 1).2 = S at *
    by_cases e : S.2.1 = 2
    · rw [if_pos e]
      exact ⟨Int32.ofNat sz, y, b', _, rfl, g2, Or.inr ⟨sz, h8, hs, rfl⟩, fun _ _ => rfl, g5.le (by omega) (by omega), g6⟩
    rw [if_neg e, Option.bind_some, g3.2.1]
    have hno : owv (B + 1) z j (Int32.ofNat to) = true → False := fun ho => e (by rw [hown ho])
    by_cases e5 : S.2.1 = 5
    · rw [if_pos e5, Option.bind_some, wd_let, wd_let, j_a1, g3.2.2.2.1]
      rcases g4.2.1 with x | ⟨k', x', a', x1, x2, x3, x4⟩
      · rw [x] at e5; exact absurd e5 (by decide)
      · have ek : k' = 5 := by
          rw [x1] at e5
          have e5' : Int32.ofNat k' = Int32.ofNat 5 := e5
          rw [j_ee (by omega) (by omega)] at e5'; exact e5'
        obtain ⟨y1, y2⟩ := x4 ek
        have ea : S.2.2.2 - 4 = Int32.ofNat (a' - 4) := by rw [x1]; exact j_sb (k := 4) (by omega)
        rw [ea]
        obtain ⟨r, v, b3, A3, r1, r2, r3, -, r5, r6⟩ := ih (t + 1) m y b' _ (k0 + 30000) (q + 1500) (a' - 4) (by omega) (by omega) g2 g5 (by omega) (by omega) (by omega) (by omega)
        exact ⟨r, v, b3, A3, r1, r2, r3, fun _ ho => (hno ho).elim, r5.le (by omega) (by omega), fun a ha => (g6 a ha).tr (r6 a ha)⟩
    · rw [if_neg e5]
      exact ⟨-1, y, b', _, rfl, g2, Or.inl rfl, fun _ ho => (hno ho).elim, g5.le (by omega) (by omega), g6⟩
set_option maxRecDepth 8000 in
theorem x_widest (h : Nw B 2 nm s z w b1 A1 b2 A2) (h3 : 3 ≤ nm) (hI : Iv (B + 1) z c A1) (hj : j < nm) (hn : 200000 ≤ n) (h9 : tN A1 901 0 ≤ 200000) {to k0 q : Nat} (ht : to < 256) (hT : Tc B z b2 A2 k0 q) (hq : q + 9000 ≤ 500000000) :
    ∃ r y b' A', f_X11_widest n w B (Int32.ofNat j) (Int32.ofNat to) = some (r, y) ∧ Nw B 2 nm s z y b1 A1 b' A' ∧ (r = -1 ∨ ∃ g, 8 ≤ g ∧ g ≤ 196 ∧ r = Int32.ofNat g) ∧ (owv (B + 1) z j (Int32.ofNat to) = true → r = 196) ∧ Tc B z b' A' 400000 (q + 9000) ∧ (∀ a, Ot B a → ag w y a) := by
  obtain ⟨x, A', g1, g2, g3, g4, g5, g6⟩ := x_begin (n := n) h hI (by omega) hT
  obtain ⟨r, y, b', A3, r1, r2, r3, r4, r5, r6⟩ := x_widL (n := n) h3 hj hn (E := 30000) (F := 1500) (by omega) (by omega) ht 6 0 n x b2 A' (tN A1 901 0) q 196 (by omega) (by omega) g2 g5 (by omega) (by omega) (by omega) (by omega)
  refine ⟨r, y, b', A3, ?_, r2, r3, fun ho => r4 (by omega) ho, r5.le (by omega) (by omega), fun a ha => (g6 a ha).tr (r6 a ha)⟩
  rw [f_X11_widest, x_hostOf h hj, wd_b2_s, x_addr to ht, Option.bind_some, h.2.2.2.2.1.2.2.1, Option.bind_some, h.2.2.2.2.1.2.1, g1, Option.bind_some]
  exact r1
theorem x_whoTells (h : Nw B 2 nm s z w b1 A1 b2 A2) (h3 : 3 ≤ nm) (hI : Iv (B + 1) z c A1) (hj : j < nm) (hn : 200000 ≤ n) (h9 : tN A1 901 0 ≤ 200000) {to tt k0 q : Nat} (ht : to < 256) (ht1 : 1 ≤ tt) (ht2 : tt ≤ 40) (hT : Tc B z b2 A2 k0 q) (hq : q ≤ 500000000) :
    ∃ y b' A', f_X11_whoTells n w B (Int32.ofNat j) (Int32.ofNat to) (Int32.ofNat tt) = some ((akF (B + 1) z (tM A1) (tN A1 901 0) j to 8 tt 0).2.2.2.1, y) ∧ Nw B 2 nm s z y b1 A1 b' A' ∧ Tsq (akF (B + 1) z (tM A1) (tN A1 901 0) j to 8 tt 0).2 ∧ (owv (B + 1) z j (Int32.ofNat to) = true → (akF (B + 1) z (tM A1) (tN A1 901 0) j to 8 tt 0).2.2.2.1 = Int32.ofNat to) ∧ Tc B z b' A' 400000 (q + 1500) ∧ (∀ a, Ot B a → ag w y a) := by
  obtain ⟨x, y, b', A', g1, g2, g3, g4, ⟨nu, g5⟩, g6, g7, g8⟩ := x_try (n := n) h h3 hI hj hn hT hq h9 (to := to) (size := 8) (tt := tt) (v := 0) ht (by omega) ht1 ht2 (by omega)
  refine ⟨y, b', A', ?_, g4, g6, fun ho => ?_, g7.le (by omega) (Nat.le_refl _), g8⟩
  · rw [f_X11_whoTells, x_hostOf h hj, wd_b2_s, x_addr to ht, Option.bind_some, x_ttl tt ht1 ht2, Option.bind_some, h.2.2.2.2.1.2.2.1, Option.bind_some, h.2.2.2.2.1.2.1, g1, Option.bind_some, g2, Option.bind_some, show f_X10_ask n x (B + 138) (Int32.ofNat j) (Int32.ofNat to) 8 (Int32.ofNat tt) 0 = some y from g3, Option.bind_some, g4.2.2.2.2.1.2.2.1, Option.bind_some, g5.2.2.1]
  · rw [own_ask (h.1.ps h3) (by have := h.mm.2; omega) hI.2.2.2.1.2.2.2.2.2.1 (by omega) ht (by omega) ht1 ht2 (by omega) ho]
end TY
