/-! ===== PURE: the net's methods ===== -/
section MT
variable {P T X R i j n c B nm s : Nat} {z w u : Wd} {b b1 b2 : Be} {A A' A1 A2 : Ta}
theorem cpy_ok (f g : Nat → Int32) (x : Nat) (hx : x < 256) : va_cpy f g 0 0 256 x = f x := by
  unfold va_cpy
  rw [if_pos ⟨Nat.zero_le _, by omega⟩]
  congr 1
  omega
theorem Nw.mm (h : Nw B 2 nm s z w b1 A1 b2 A2) : wd_I w 503 (B + 1) = Int32.ofNat nm ∧ nm ≤ 8 := ⟨by rw [(pw_p0 h.2.1.1).1]; exact h.1.2.1.2.2.1, h.1.2.1.2.2.2.2⟩
theorem x_hostOf (h : Nw B 2 nm s z w b1 A1 b2 A2) (hj : j < nm) : f_X11_hostOf n w B (Int32.ofNat j) = some (some (hA (B + 77) j), w) := by
  have h8 := h.mm
  rw [f_X11_hostOf, h.2.2.2.2.1.1, Option.bind_some, h8.1, if_neg (by rw [j_ll (by omega) (by omega)]; omega), h.2.2.2.2.1.2.1, Option.bind_some, o_host h.2.1 (by omega), wd_b2_s]
  rfl
theorem x_addr (x : Nat) (hx : x < 256) : f_X11_needAddress n w (Int32.ofNat x) = some w := by
  rw [f_X11_needAddress, if_neg (j_n0 (by omega)), if_pos (by rw [show (256 : Int32) = Int32.ofNat 256 from rfl, j_lx (by omega) (by omega)]; exact hx)]
theorem x_ttl (x : Nat) (h1 : 1 ≤ x) (h2 : x ≤ 40) : f_X11_needTtl n w (Int32.ofNat x) = some w := by
  rw [f_X11_needTtl, if_neg (by rw [show (1 : Int32) = Int32.ofNat 1 from rfl, j_lx (by omega) (by omega)]; omega), if_pos (by rw [show (40 : Int32) = Int32.ofNat 40 from rfl, j_ll (by omega) (by omega)]; exact h2)]
theorem x_part (x k : Nat) (h : x < k) (hk : k < 100) : f_X11_needPart n w (Int32.ofNat x) (Int32.ofNat k) = some w := by
  rw [f_X11_needPart, if_neg (j_n0 (by omega)), if_pos (by rw [j_lx (by omega) (by omega)]; exact h)]
theorem x_cable (h : Nw B 2 nm s z w b1 A1 b2 A2) {x : Nat} (hx : x < 2) : f_X11_needCable n w B (Int32.ofNat x) = some w := by
  rw [f_X11_needCable, if_neg (j_n0 (by omega)), h.2.2.2.2.1.1, Option.bind_some, (pw_p0 h.2.1.1).1, h.1.2.1.1, if_pos (by rw [j_lx (by omega) (by omega)]; exact hx)]
/-- sent -/
theorem x_send (h : Nw B 2 nm s z w b1 A1 b2 A2) (h3 : 3 ≤ nm) (hI : Iv (B + 1) z c A1) (hj : j < nm) (hn : 200000 ≤ n) (hc : c + 12 ≤ 10000) {to size tt v : Nat} {k0 : Int32} (ht : to < 256) (hs : size ≤ c) (hs2 : size ≤ 400) (htt : 1 ≤ tt) (htt2 : tt ≤ 40) (hv : v ≤ 1) (hB : Bg 150000 b1 A1 ((c + 4) / 8 + 6) ((c + 4) / 8 + 6) 6) :
    ∃ r y b' A', f_X11_send n w B (Int32.ofNat j) (Int32.ofNat to) k0 (Int32.ofNat size) (Int32.ofNat tt) (Int32.ofNat v) = some (r, y) ∧ Nw B 2 nm s z y b' A' b2 A2 ∧ Iv (B + 1) z (c + 4) A' ∧ b_ng b' = b_ng b1 ∧ Cs A1 A' ((c + 4) / 8 + 6) ((c + 4) / 8 + 6) 6 ((c + 4) / 8 + 6) ∧ (∀ a, Ot B a → ag w y a) ∧ ((r = -1 ∧ A' = A1) ∨ (r = Int32.ofNat (tN A1 901 0) ∧ tN A1 901 0 + 1 ≤ tN A' 901 0)) := by
  have hz := h.1.ps h3
  have key : ∀ k : Nat, k ≤ 1 → ∃ r y b' A', (wd_b2 (f_X9_launch n w (B + 77) (some (hA (B + 77) j)) (Int32.ofNat k) (Int32.ofNat to) (Int32.ofNat size) (Int32.ofNat tt) (Int32.ofNat v)) fun r14 w12 => some (r14, w12)) = some (r, y) ∧ Nw B 2 nm s z y b' A' b2 A2 ∧ Iv (B + 1) z (c + 4) A' ∧ b_ng b' = b_ng b1 ∧ Cs A1 A' ((c + 4) / 8 + 6) ((c + 4) / 8 + 6) 6 ((c + 4) / 8 + 6) ∧ (∀ a, Ot B a → ag w y a) ∧ ((r = -1 ∧ A' = A1) ∨ (r = Int32.ofNat (tN A1 901 0) ∧ tN A1 901 0 + 1 ≤ tN A' 901 0)) := by
    intro k hk
    obtain ⟨y, b', g1, g2, g3, g4, g5, g6⟩ := o_launch (n := n) h.2.1 hI hz (j := j) (by have := h.mm.2; omega) (by omega) (by omega) hc hk ht hs htt htt2 hv hB
    obtain ⟨q1, q2⟩ := h.o1 g2 g4.1 g3
    exact ⟨_, y, b', _, by rw [g1, wd_b2_s], q1, g4, g3.ng, g5, fun a ha => q2 a (Or.inl ha), g6⟩
  rw [f_X11_send, x_hostOf h hj, wd_b2_s, x_addr to ht, Option.bind_some, if_neg (j_n0 (by omega)), if_pos (by rw [show (400 : Int32) = Int32.ofNat 400 from rfl, j_ll (by omega) (by omega)]; omega), x_ttl tt htt htt2, Option.bind_some, h.2.2.2.2.1.2.1]
  by_cases e : k0 = 0
  · rw [if_pos e, f_X11_send_j54, Option.bind_some]
    exact key 0 (by omega)
  · rw [if_neg e, f_X11_send_j54, Option.bind_some]
    exact key 1 (by omega)
theorem fl_len (hT : Tm P T X z w b A) : wd_I w 801 (T + 1) = Int32.ofNat (tF A).length := by
  obtain ⟨r1, r2, r3, r4, r5⟩ := hT.2.2.2.2.2.1
  rw [r4, ls_2len r5]
/-- steps made: d of them -/
def Cm (A A' : Ta) (d : Nat) : Prop := tN A' 902 0 = tN A 902 0 + d ∧ tN A' 907 0 + tN A' 907 1 = tN A 907 0 + tN A 907 1 + d ∧ tN A 903 0 ≤ tN A' 903 0 ∧ tN A' 903 0 ≤ tN A 903 0 + d
theorem x_stepL (h3 : 3 ≤ nm) (hn : 200000 ≤ n) {K : Nat} (hK : K ≤ 1000) : ∀ (k t m : Nat) (w : Wd) (b1 : Be) (A1 : Ta) (c N : Nat), t + k = N → N ≤ 60 → k < m → Nw B 2 nm s z w b1 A1 b2 A2 → Iv (B + 1) z c A1 → c + 4 * k + 12 ≤ 10000 → (c + 4 * k) / 8 + 7 ≤ K → Bg 150000 b1 A1 (k * K) (k * K) (k * 7) → (tF A1).length < 2147483648 →
    ∃ y b' A' d, wd_lp4 (f_X11_step_l23 n) m B (Int32.ofNat N) (Int32.ofNat t) w = some (Int32.ofNat (tF A').length, y) ∧ Nw B 2 nm s z y b' A' b2 A2 ∧ Iv (B + 1) z (c + 4 * k) A' ∧ b_ng b' = b_ng b1 ∧ Ct A1 A' (k * K) (k * K) (k * 7) (k * (450000 + K)) ∧ Cm A1 A' d ∧ d ≤ k ∧ (tF A' = [] ∨ d = k) ∧ (tF A').length < 2147483648 ∧ (∀ a, Ot B a → ag w y a) := by
  intro k
  induction k with
  | zero =>
    intro t m w b1 A1 c N ht hN hm h hI hc hK' hB hf
    obtain ⟨m, rfl⟩ : ∃ r, m = r + 1 := ⟨m - 1, by omega⟩
    refine ⟨w, b1, A1, 0, ?_, h, hI, rfl, (Ct.rf A1).le (by omega) (by omega) (by omega) (by omega), ⟨rfl, rfl, Nat.le_refl _, Nat.le_refl _⟩, Nat.le_refl _, Or.inr rfl, hf, fun _ _ => ag.rf _ _⟩
    rw [wd_lp4, f_X11_step_l23, if_pos (by rw [j_ll (by omega) (by omega)]; omega), f_X11_step_j55, h.2.2.2.2.1.2.1, Option.bind_some, h.2.1.2.2.1.1.1, Option.bind_some, fl_len h.2.1]
  | succ k ih =>
    intro t m w b1 A1 c N ht hN hm h hI hc hK' hB hf
    obtain ⟨m, rfl⟩ : ∃ r, m = r + 1 := ⟨m - 1, by omega⟩
    have hz := h.1.ps h3
    have eK : (k + 1) * K = K + k * K := by rw [Nat.succ_mul]; omega
    have eX : (k + 1) * (450000 + K) = (450000 + K) + k * (450000 + K) := by rw [Nat.succ_mul]; omega
    have e7 : (k + 1) * 7 = 7 + k * 7 := by omega
    rw [eK, e7] at hB
    have hK1 : (c + 4) / 8 ≤ (c + 4 * (k + 1)) / 8 := Nat.div_le_div_right (by omega)
    have hK2 : (c + 4 + 4 * k) / 8 + 7 ≤ K := by
      rw [show c + 4 + 4 * k = c + 4 * (k + 1) by omega]; exact hK'
    rw [wd_lp4, f_X11_step_l23, if_neg (by rw [j_ll (by omega) (by omega)]; omega), h.2.2.2.2.1.2.1, Option.bind_some, h.2.1.2.2.1.1.1, Option.bind_some, fl_len h.2.1]
    cases hF : tF A1 with
    | nil =>
      rw [if_pos (by decide)]
      refine ⟨w, b1, A1, 0, ?_, h, hI.le (by omega) (by omega), rfl, (Ct.rf A1).le (by omega) (by omega) (by omega) (by omega), ⟨rfl, rfl, Nat.le_refl _, Nat.le_refl _⟩, by omega, Or.inl hF, hf, fun _ _ => ag.rf _ _⟩
      rw [f_X11_step_j55, h.2.2.2.2.1.2.1, Option.bind_some, h.2.1.2.2.1.1.1, Option.bind_some, fl_len h.2.1]
    | cons f F =>
      rw [hF] at hf
      rw [if_neg (by rw [show (0 : Int32) = Int32.ofNat 0 from rfl, j_ll (by omega) (by omega), List.length_cons]; omega), Option.bind_some]
      obtain ⟨y, b', y1, y2, y3, y4, y5, y6⟩ := o_step (n := n) h.2.1 hI hz h.2.2.2.2.2.1.1 h.2.2.2.2.2.1.2.1 (by omega) (by omega) (by omega) hF (hB.le (by omega) (by omega) (by omega))
      obtain ⟨q1, q2⟩ := h.o1 y2 y4.1 y3
      have hB2 := (hB.le (a' := ((c + 4) / 8 + 7) + k * K) (f' := ((c + 4) / 8 + 7) + k * K) (g' := 7 + k * 7) (by omega) (by omega) (by omega)).ct y5 y3.ng
      have hf2 : (tF (dnF (B + 1) z A1 f F)).length < 2147483648 := by
        have g1 := y2.2.1.2.2.2.2.2.2.2.1.2.1
        have g2 := ls_2len y2.2.2.2.2.2.1.2.2.2.2
        rw [← g2]
        simp only [List.length_append] at g1
        omega
      generalize dnF (B + 1) z A1 f F = C at *
      obtain ⟨v, b3, A3, d, r1, r2, r3, r4, r5, r6, r7, r8, r9, r10⟩ := ih (t + 1) m y b' C (c + 4) N (by omega) hN (by omega) q1 y4 (by omega) hK2 hB2 hf2
      refine ⟨v, b3, A3, d + 1, ?_, r2, by rw [show c + 4 * (k + 1) = c + 4 + 4 * k by omega]; exact r3, r4.trans y3.ng, ?_, ?_, by omega, ?_, r9, fun a ha => (q2 a (Or.inl ha)).tr (r10 a ha)⟩
      · rw [y1, wd_b2_s, wd_let, j_a1]; exact r1
      · rw [eK, e7, eX]
        exact (y5.tr r5).le (by omega) (by omega) (by omega) (by omega)
      · obtain ⟨m1, m2, m3, m4⟩ := y6
        obtain ⟨l1, l2, l3, l4⟩ := r6
        exact ⟨by omega, by omega, by omega, by omega⟩
      · rcases r8 with e | e
        · exact Or.inl e
        · exact Or.inr (by omega)
theorem x_step (h : Nw B 2 nm s z w b1 A1 b2 A2) (h3 : 3 ≤ nm) (hn : 200000 ≤ n) {K N : Nat} (hK : K ≤ 1000) (hN1 : 1 ≤ N) (hN : N ≤ 60) (hI : Iv (B + 1) z c A1) (hc : c + 4 * N + 12 ≤ 10000) (hK' : (c + 4 * N) / 8 + 7 ≤ K) (hB : Bg 150000 b1 A1 (N * K) (N * K) (N * 7)) :
    ∃ y b' A' d, f_X11_step n w B (Int32.ofNat N) = some (Int32.ofNat (tF A').length, y) ∧ Nw B 2 nm s z y b' A' b2 A2 ∧ Iv (B + 1) z (c + 4 * N) A' ∧ b_ng b' = b_ng b1 ∧ Ct A1 A' (N * K) (N * K) (N * 7) (N * (450000 + K)) ∧ Cm A1 A' d ∧ d ≤ N ∧ (tF A' = [] ∨ d = N) ∧ (tF A').length < 2147483648 ∧ (∀ a, Ot B a → ag w y a) := by
  rw [f_X11_step, if_neg (by rw [show (1 : Int32) = Int32.ofNat 1 from rfl, j_lx (by omega) (by omega)]; omega), if_pos (by rw [show (60 : Int32) = Int32.ofNat 60 from rfl, j_ll (by omega) (by omega)]; exact hN)]
  refine x_stepL h3 hn hK N 0 n w b1 A1 c N (by omega) hN (by omega) h hI hc hK' hB ?_
  have g1 := h.2.1.2.1.2.2.2.2.2.2.2.1.2.1
  have g2 := ls_2len h.2.1.2.2.2.2.2.1.2.2.2.2
  rw [← g2]
  simp only [List.length_append] at g1
  omega
theorem cl_iv (h : Iv P z c A) (j : Nat) : Iv P z c (clA A j 256) := by
  obtain ⟨i1, i2, i3, i4, i5, i6⟩ := h
  obtain ⟨k1, k2, k3, k4, k5, k6, k7⟩ := i4
  refine ⟨i1, i2, fun r hr => (i3 r hr).mv (fun _ _ _ => rfl) rfl (Nat.le_refl _) (Nat.le_refl _) rfl rfl (fun q => q) (fun _ _ => rfl) (fun _ _ _ q => q), ⟨fun f hf => (k1 f hf).mv (Nat.le_refl _) (fun _ _ q => q), k2, k3, k4, k5, fun r y hr hy => ?_, fun r hr f hf => (k7 r hr f hf).mv (Nat.le_refl _)⟩, i5, i6⟩
  unfold clA
  rw [tM_uMf]
  by_cases d : r = j
  · rw [if_pos d, if_pos hy]; exact Or.inl rfl
  · rw [if_neg d]; exact k6 r y hr hy
theorem kcv_b (A : Ta) (j : Nat) : ∀ k s, kcv A j k s ≤ k := by
  intro k
  induction k with
  | zero => intro s; exact Nat.le_refl _
  | succ k ih =>
    intro s
    rw [kcv]
    have := ih (s + 1)
    split <;> omega
theorem kcv_0 (A : Ta) (j : Nat) (h : ∀ x, x < 256 → tM A j x < 0) : ∀ k s, s + k ≤ 256 → kcv A j k s = 0 := by
  intro k
  induction k with
  | zero => intro s _; rfl
  | succ k ih =>
    intro s hs
    rw [kcv, if_pos (h s (by omega)), ih (s + 1) (by omega)]
theorem cl_c (A : Ta) (j : Nat) : Ct A (clA A j 256) 0 0 0 0 ∧ Ce A (clA A j 256) ∧ tF (clA A j 256) = tF A := by
  unfold clA
  exact ⟨⟨by rw [tN_uMf]; omega, by rw [tN_uMf]; omega, by rw [tN_uMf]; omega, by rw [tN_uMf]; omega, by rw [tN_uMf]; omega, fun r => by rw [tO_uMf]; omega, fun r => by rw [tN_uMf]; omega⟩, ⟨by rw [tN_uMf], by rw [tN_uMf], fun x => by rw [tN_uMf]⟩, by rw [tF_uMf]⟩
theorem x_forget (h : Nw B 2 nm s z w b1 A1 b2 A2) (hI : Iv (B + 1) z c A1) (hj : j < nm) (hn : 257 ≤ n) :
    ∃ y, f_X11_forget n w B (Int32.ofNat j) = some (Int32.ofNat (kcv A1 j 256 0), y) ∧ Nw B 2 nm s z y b1 (clA A1 j 256) b2 A2 ∧ Iv (B + 1) z c (clA A1 j 256) ∧ (∀ a, Ot B a → ag w y a) := by
  obtain ⟨v, g1, g2, g3⟩ := o_clearKnown (n := n) h.2.1 (j := j) (by have := h.mm.2; omega) hn
  have hI2 := cl_iv hI j
  obtain ⟨q1, q2⟩ := h.o1 g2 hI2.1 g3
  exact ⟨v, by rw [f_X11_forget, x_hostOf h hj, wd_b2_s, Option.bind_some, g1, wd_b2_s], q1, hI2, fun a ha => q2 a (Or.inl ha)⟩
theorem x_giveUp (h : Nw B 2 nm s z w b1 A1 b2 A2) (h3 : 3 ≤ nm) (hI : Iv (B + 1) z c A1) (hj : j < nm) (hn : 200000 ≤ n) (hc : c + 36 ≤ 10000) {K : Nat} (hK : (c + 24) / 8 + 6 ≤ K) (hB : Bg 150000 b1 A1 (6 * K) (6 * K) 36) :
    ∃ y b' A', f_X11_giveUp n w B (Int32.ofNat j) = some (Int32.ofNat (tW A1 j).length, y) ∧ Nw B 2 nm s z y b' A' b2 A2 ∧ Iv (B + 1) z (c + 24) A' ∧ b_ng b' = b_ng b1 ∧ Ct A1 A' (6 * K) (6 * K) 36 (6 * K) ∧ Ce A1 A' ∧ (tW A' j).length ≤ (tW A1 j).length ∧ tN A1 204 j + (tW A1 j).length ≤ tN A' 204 j ∧ (∀ a, Ot B a → ag w y a) := by
  obtain ⟨y, b', g1, g2, g3, g4, g5, g6, g7, g8⟩ := o_giveUp (n := n) h.2.1 hI (h.1.ps h3) (j := j) (by have := h.mm.2; omega) h.2.2.2.2.2.1.2.1 (by omega) (by omega) hc hK hB
  obtain ⟨q1, q2⟩ := h.o1 g2 g4.1 g3
  exact ⟨y, b', _, by rw [f_X11_giveUp, x_hostOf h hj, wd_b2_s, h.2.2.2.2.1.2.1, Option.bind_some, g1, wd_b2_s], q1, g4, g3.ng, g5, g6, g7, g8, fun a ha => q2 a (Or.inl ha)⟩
/-- notes of the trial's, and numbers, so far -/
def Tc (B : Nat) (z : Wd) (b2 : Be) (A2 : Ta) (k q : Nat) : Prop := Mq (B + 1) z (tM A2) ∧ tN A2 901 0 ≤ k ∧ ∀ i, i < 8 → b_ng b2 203 i + (tO A2 i).length ≤ q
theorem x_ask (h : Nw B 2 nm s z w b1 A1 b2 A2) (h3 : 3 ≤ nm) (hj : j < nm) (hn : 200000 ≤ n) {k q : Nat} (hT : Tc B z b2 A2 k q) (hk : k ≤ 500000000) (hq : q ≤ 500000000) {M : Nat → Nat → Int32} (hM : ∀ i x, i < 8 → x < 256 → tM A2 i x = M i x) {to size tt v : Nat} (ht : to < 256) (hs : size ≤ 200) (ht1 : 1 ≤ tt) (ht2 : tt ≤ 40) (hv : v ≤ 1) :
    ∃ y b', f_X10_ask n w (B + 138) (Int32.ofNat j) (Int32.ofNat to) (Int32.ofNat size) (Int32.ofNat tt) (Int32.ofNat v) = some y ∧ Nw B 2 nm s z y b1 A1 b' (akF (B + 1) z M (tN A2 901 0) j to size tt v).1 ∧ (∃ nu, Rt (B + 138) y (akF (B + 1) z M (tN A2 901 0) j to size tt v).2 nu) ∧ Tsq (akF (B + 1) z M (tN A2 901 0) j to size tt v).2 ∧
      Tc B z b' (akF (B + 1) z M (tN A2 901 0) j to size tt v).1 (k + 30000) (q + 1500) ∧ (∀ a, Ot B a → ag w y a) := by
  have hMq : Mq (B + 1) z M := fun i x hi hx => by rw [← hM i x hi hx]; exact hT.1 i x hi hx
  obtain ⟨y, b', g1, g2, g3, g4, g5, g6, g7, g8, g9, g10, g11⟩ := o_ask (n := n) h.2.2.1 h.2.2.2.1.2 (h.1.ps h3) (j := j) (by have := h.mm.2; omega) h.rx h.2.2.2.2.1.2.2.2 (h.out (Or.inr rfl)).1 h.2.2.2.2.2.1.2.2.1 h.2.2.2.2.2.1.2.2.2 rfl (by omega) hM hMq (by have := hT.2.1; omega) (fun i hi => by have := hT.2.2 i hi; omega) ht hs ht1 ht2 hv
  obtain ⟨q1, q2⟩ := h.o2 g2 g9.1 g5 g6 g7
  exact ⟨y, b', g1, q1, g3, g4, ⟨g9.2.2.2.1.2.2.2.2.2.1, by have := hT.2.1; omega, fun i hi => by have := g11 i hi; have := hT.2.2 i hi; omega⟩, q2⟩
theorem x_begin (h : Nw B 2 nm s z w b1 A1 b2 A2) (hI : Iv (B + 1) z c A1) (hn : 9 ≤ n) {k q : Nat} (hT : Tc B z b2 A2 k q) :
    ∃ y A', f_X10_begin n w (B + 138) (some (B + 77)) = some y ∧ Nw B 2 nm s z y b1 A1 b2 A' ∧ (∀ i x, i < 8 → x < 256 → tM A' i x = tM A1 i x) ∧ tN A' 901 0 = tN A1 901 0 ∧ Tc B z b2 A' (tN A1 901 0) q ∧ (∀ a, Ot B a → ag w y a) := by
  have t1 := h.2.1
  have s1 := fun i (hi : i < 8) => t1.2.2.2.2.2.2 i hi
  have c1 := t1.2.2.1
  have h11 := h.2.2.2.2.2.2.2.2.2.2.1
  obtain ⟨y, g1, g2, g3⟩ := o_takeOver (n := n) h.2.2.1 hn (O := B + 77) (k := tN A1 901 0) (M := tM A1) (by omega) (by omega) c1.2.1 c1.1.2.2.2.1 c1.1.2.2.2.2.2.1 c1.1.2.2.2.2.2.2.2 (fun i hi => ⟨(s1 i hi).1.2.1, (s1 i hi).1.2.2.2.2.1⟩) (fun i x hi hx => (s1 i hi).2.1.1 x hx) cpy_ok
  obtain ⟨e1, e2, e3⟩ := tkA_o (tM A1) 8 0 (uN A2 901 0 (tN A1 901 0))
  have eM : ∀ i x, i < 8 → x < 256 → tM (tkA (tM A1) 8 0 (uN A2 901 0 (tN A1 901 0))) i x = tM A1 i x := fun i x hi _ => e3 i x (by omega)
  have e9 : tN (tkA (tM A1) 8 0 (uN A2 901 0 (tN A1 901 0))) 901 0 = tN A1 901 0 := by rw [e1, tN_uN, if_pos ⟨rfl, rfl⟩]
  have eX : Ix (tkA (tM A1) 8 0 (uN A2 901 0 (tN A1 901 0))) := by
    have hw : ∀ (k s : Nat) (C : Ta), tW (tkA (tM A1) k s C) = tW C ∧ tK (tkA (tM A1) k s C) = tK C := by
      intro k
      induction k with
      | zero => intro s C; exact ⟨rfl, rfl⟩
      | succ k ih => intro s C; exact ih (s + 1) _
    refine h.2.2.2.1.2.mv (hw 8 0 _).1 (hw 8 0 _).2 (by rw [e1, tN_uN, if_neg (by omega)]; omega) (fun i p _ _ _ => by rw [e1, tN_uN, if_neg (by omega)])
  obtain ⟨q1, q2⟩ := h.o2 g2 eX (g3.r (h.out (Or.inr rfl)).1 (h.2.2.1.nR h.rx)) h.2.2.2.2.2.1.2.2.1 h.2.2.2.2.2.1.2.2.2
  refine ⟨y, _, ?_, q1, eM, e9, ⟨fun i x hi hx => ?_, by rw [e9]; omega, fun i hi => ?_⟩, q2⟩
  · rw [f_X10_begin, h.2.2.2.2.1.2.2.2, Option.bind_some, g1, Option.bind_some]
  · rw [eM i x hi hx]; exact hI.2.2.2.1.2.2.2.2.2.1 i x hi hx
  · rw [e2]; exact hT.2.2 i hi
end MT
