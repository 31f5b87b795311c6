/-! ===== PURE: the net: plan, traffic, trial ===== -/
section NT1
variable {P T X R i j n c : Nat} {z w u : Wd} {b : Be} {A A' : Ta}
/-- where the plan's tables lie -/
def PA (P : Nat) (z : Wd) : Prop :=
  (wd_R z 500 P = some (P + 1) ∧ wd_R z 502 P = some (P + 2) ∧ wd_R z 504 P = some (P + 3) ∧ wd_N z (P + 1) = 8 ∧ wd_N z (P + 2) = 8 ∧ wd_N z (P + 3) = 256) ∧
  (∀ i, i < 8 → wd_Q z (P + 2) i = some (mA P i) ∧ wd_R z 302 (mA P i) = some (mA P i + 1) ∧ wd_R z 304 (mA P i) = some (mA P i + 2) ∧ wd_R z 305 (mA P i) = some (mA P i + 3) ∧ wd_R z 306 (mA P i) = some (mA P i + 4) ∧ wd_R z 308 (mA P i) = some (mA P i + 5) ∧ wd_R z 310 (mA P i) = some (mA P i + 6) ∧ wd_R z 311 (mA P i) = some (mA P i + 7) ∧ wd_R z 312 (mA P i) = some (mA P i + 8)) ∧
  (∀ i, i < 8 → wd_N z (mA P i + 1) = 4 ∧ wd_N z (mA P i + 2) = 6 ∧ wd_N z (mA P i + 3) = 6 ∧ wd_N z (mA P i + 4) = 6 ∧ wd_N z (mA P i + 5) = 2 ∧ wd_N z (mA P i + 6) = 256 ∧ wd_N z (mA P i + 7) = 256 ∧ wd_N z (mA P i + 8) = 256)
/-- nc cables, nm machines -/
def PB (P nc nm : Nat) (z : Wd) : Prop := wd_I z 501 P = Int32.ofNat nc ∧ (∀ c, c < nc → ∃ k, 12 ≤ k ∧ k ≤ 200 ∧ wd_A z (P + 1) c = Int32.ofNat k) ∧ wd_I z 503 P = Int32.ofNat nm ∧ nc ≤ 2 ∧ nm ≤ 8
/-- a machine's tunnels, ports, routes -/
def PC (P : Nat) (z : Wd) (i : Nat) : Prop :=
  wd_I z 300 (mA P i) = Int32.ofNat i ∧
  (∃ k, k ≤ 2 ∧ wd_I z 309 (mA P i) = Int32.ofNat k ∧ ∀ t, t < k → ∃ x, x < 256 ∧ wd_A z (mA P i + 5) t = Int32.ofNat x) ∧
  (∃ p, p ≤ 4 ∧ wd_I z 303 (mA P i) = Int32.ofNat p ∧ (∀ k, k < p → ∃ q l, wd_Q z (mA P i + 1) k = some q ∧ l ≤ 8 ∧ wd_I z 703 q = Int32.ofNat l) ∧ ∀ k, p ≤ k → k < 4 → wd_Q z (mA P i + 1) k = none) ∧
  ∃ r, r ≤ 6 ∧ wd_I z 307 (mA P i) = Int32.ofNat r ∧ ∀ t, t < r → (∃ l, l ≤ 8 ∧ wd_A z (mA P i + 3) t = Int32.ofNat l) ∧ ((∃ y, y < 256 ∧ wd_A z (mA P i + 4) t = Int32.ofNat y) ∨ (wd_A z (mA P i + 4) t < 0 ∧ ∃ t', t' < 2 ∧ (-1 : Int32) - wd_A z (mA P i + 4) t = Int32.ofNat t' ∧ Int32.ofNat t' < wd_I z 309 (mA P i)))
/-- ports and owners -/
def PD (P : Nat) (z : Wd) : Prop :=
  (∀ i k q, i < 8 → k < 4 → wd_Q z (mA P i + 1) k = some q → wd_I z 700 q = Int32.ofNat (4 * i + k) ∧ (wd_I z 701 q = 0 ∨ wd_I z 701 q = 1) ∧ ∃ x, x < 256 ∧ wd_I z 702 q = Int32.ofNat x ∧ wd_Q z (P + 3) x = some q) ∧
  (∀ x q, x < 256 → wd_Q z (P + 3) x = some q → ∃ i k, i < 8 ∧ k < 4 ∧ wd_Q z (mA P i + 1) k = some q ∧ wd_I z 702 q = Int32.ofNat x)
/-- the ways of a machine to x -/
def PE (P : Nat) (z : Wd) (i x : Nat) : Prop :=
  (wd_A z (mA P i + 6) x = -1 ∧ wd_A z (mA P i + 7) x = -1 ∧ wd_A z (mA P i + 8) x = -1) ∨
    (∃ k, k ≤ 8 ∧ wd_A z (mA P i + 8) x = Int32.ofNat k) ∧
      ((wd_A z (mA P i + 6) x = -2 ∧ ∃ t, wd_A z (mA P i + 7) x = Int32.ofNat t ∧ t < 2 ∧ wd_A z (mA P i + 7) x < wd_I z 309 (mA P i)) ∨
      (∃ k q y, k < 4 ∧ wd_A z (mA P i + 6) x = Int32.ofNat k ∧ wd_Q z (mA P i + 1) k = some q ∧ y < 256 ∧ wd_A z (mA P i + 7) x = Int32.ofNat y))
def PSs (P nc nm : Nat) (z : Wd) : Prop := PA P z ∧ PB P nc nm z ∧ (∀ i, i < 8 → PC P z i) ∧ PD P z ∧ ∀ i x, i < 8 → x < 256 → PE P z i x
theorem PSs.ps {nm : Nat} (h : PSs P 2 nm z) (h3 : 3 ≤ nm) : PS P z := by
  obtain ⟨⟨a1, a2, a3⟩, ⟨b1, b2, b3, b4, b5⟩, c1, ⟨d1, d2⟩, e1⟩ := h
  exact ⟨a1, a2, a3, ⟨b1, b2, nm, h3, b5, b3⟩, fun i hi => (c1 i hi).2.1, d1, d2, e1⟩
/-- a traffic stays where its own stays and the plan is another -/
theorem Tm.plan (hT : Tm P T X z w b A) (hI : Ix A) (hd : ∀ a, Dm T b a → ag w u a) (hpl : ∀ a, pl P u a → pl P z a ∨ wd_H w ≤ a) (hlt : ∀ a, pl P u a → a < wd_H u) (hH : wd_H w ≤ wd_H u) (hM : 2 * X + 1 ≤ wd_M u + cn b) (hS : 15 * (2 * X + 1) ≤ wd_S u + 15 * cn b) : Tm P T X u u b A := by
  obtain ⟨k2, k3, k4, k5, k6⟩ := tm_ag0 hT hI hd
  obtain ⟨d1, d2, d3, d4, d5, d6, d7, ⟨d8, d8b, -, -⟩, d9, d10⟩ := hT.2.1
  refine ⟨fun a _ => ag.rf _ _, ⟨d1, d2, d3, d4, d5, fun a ha => ⟨by have := (d6 a ha).1; omega, fun q => ?_⟩, hlt, ⟨d8, d8b, hM, hS⟩, d9, d10⟩, k2, k3, k4, k5, k6⟩
  rcases hpl a q with q | q
  · exact (d6 a ha).2 q
  · have := (d6 a ha).1; omega
theorem Iv.zz (h : Iv P z c A) (h1 : ∀ i k q, Pq P z i k q → Pq P u i k q ∧ wd_I u 700 q = wd_I z 700 q ∧ wd_I u 701 q = wd_I z 701 q ∧ wd_I u 702 q = wd_I z 702 q) (h2 : ∀ x q, x < 256 → wd_Q z (P + 3) x = some q → wd_Q u (P + 3) x = some q ∧ wd_I u 700 q = wd_I z 700 q) : Iv P u c A := by
  obtain ⟨i1, i2, i3, ⟨k1, k2, k3, k4, k5, k6, k7⟩, i5, i6⟩ := h
  have hMk : ∀ x, Mk P z x → Mk P u x := fun x hx => by
    obtain ⟨i, k, q, q1, q2⟩ := hx
    exact ⟨i, k, q, (h1 i k q q1).1, q2⟩
  refine ⟨i1, i2, i3, ⟨fun f hf => ?_, k2, fun i hi e he => ?_, k4, k5, fun i x hi hx => ?_, k7⟩, i5, i6⟩
  · obtain ⟨⟨i, k, q, q1, q2, q3, q4⟩, hs⟩ := k1 f hf
    obtain ⟨r1, r2, r3, r4⟩ := h1 i k q q1
    refine ⟨⟨i, k, q, r1, q2.trans r3.symm, q3.trans r2.symm, fun e => (q4 e).trans r4.symm⟩, ?_⟩
    rcases hs with s | s | s
    · exact Or.inl s
    · exact Or.inr (Or.inl ⟨s.1, hMk _ s.2.1, s.2.2⟩)
    · exact Or.inr (Or.inr ⟨s.1, hMk _ s.2.1, s.2.2⟩)
  · obtain ⟨k, hk⟩ := k3 i hi e he
    exact ⟨k, (h1 i k _ hk).1⟩
  · rcases k6 i x hi hx with q | ⟨q, q1, q2⟩
    · exact Or.inl q
    · exact Or.inr ⟨q, (h2 x q hx q1).1, q2.trans (h2 x q hx q1).2.symm⟩
/-- addresses of neither traffic, nor of the plan: the net, the law's table, and what lies below -/
def Ot (B a : Nat) : Prop := a ≤ B ∨ (B + 200 ≤ a ∧ a < B + 233)
/-- the net at B, with room for s things more -/
def Nw (B nc nm s : Nat) (z w : Wd) (b1 : Be) (A1 : Ta) (b2 : Be) (A2 : Ta) : Prop :=
  PSs (B + 1) nc nm z ∧ Tm (B + 1) (B + 77) 150000 z w b1 A1 ∧ Tm (B + 1) (B + 139) 30000 z w b2 A2 ∧ (Ix A1 ∧ Ix A2) ∧
  (wd_R w 1100 B = some (B + 1) ∧ wd_R w 1101 B = some (B + 77) ∧ wd_R w 1102 B = some (B + 138) ∧ wd_R w 1004 (B + 138) = some (B + 139)) ∧
  (b_fh b1 = [] ∧ b_ph b1 = [] ∧ b_fh b2 = [] ∧ b_ph b2 = []) ∧
  (∀ a, Dm (B + 77) b1 a → ¬ Dm (B + 139) b2 a) ∧ (∀ a, Dm (B + 77) b1 a → a < B + 138 ∨ B + 233 ≤ a) ∧ (∀ a, Dm (B + 139) b2 a → a < B + 200 ∨ B + 233 ≤ a) ∧ (∀ a, pl (B + 1) z a → (B + 1 ≤ a ∧ a < B + 77) ∨ B + 233 ≤ a) ∧
  B + 233 ≤ wd_H w ∧ 360002 + s ≤ wd_M w + cn b1 + cn b2 ∧ 5400030 + 6 * s ≤ wd_S w + 15 * cn b1 + 15 * cn b2
section NN
variable {B nc nm s : Nat} {b1 b2 : Be} {A1 A2 : Ta}
theorem Nw.out (h : Nw B nc nm s z w b1 A1 b2 A2) {a : Nat} (ha : Ot B a ∨ a = B + 138) : a < wd_H w ∧ ¬ Dm (B + 77) b1 a ∧ ¬ pl (B + 1) z a ∧ (Ot B a → ¬ Dm (B + 139) b2 a ∧ a ≠ B + 138) := by
  obtain ⟨-, h2, h3, -, -, -, -, h8, h9, h10, h11, -⟩ := h
  refine ⟨?_, fun q => ?_, fun q => ?_, fun ho => ⟨fun q => ?_, ?_⟩⟩
  · rcases ha with ha | ha
    · unfold Ot at ha; omega
    · omega
  · have g1 := h8 a q
    have g2 := h2.ge q
    rcases ha with ha | ha
    · unfold Ot at ha; omega
    · omega
  · have g1 := h10 a q
    rcases ha with ha | ha
    · unfold Ot at ha; omega
    · omega
  · have g1 := h9 a q
    have g2 := h3.ge q
    unfold Ot at ho; omega
  · unfold Ot at ho; omega
theorem Nw.rx (h : Nw B nc nm s z w b1 A1 b2 A2) : Rx (B + 1) (B + 139) (B + 138) z := ⟨by omega, (h.out (Or.inr rfl)).2.2.1⟩
/-- what the net's own traffic did -/
theorem Nw.o1 (h : Nw B nc nm s z w b1 A1 b2 A2) {v : Wd} {b' : Be} {A' : Ta} (hT : Tm (B + 1) (B + 77) 150000 z v b' A') (hI : Ix A') (hR : Rl (B + 77) w b1 v b') : Nw B nc nm s z v b' A' b2 A2 ∧ (∀ a, Ot B a ∨ a = B + 138 → ag w v a) := by
  have hout := fun a (ha : Ot B a ∨ a = B + 138) => h.out ha
  obtain ⟨h1, h2, h3, h4, h5, h6, h7, h8, h9, h10, h11, h12, h13⟩ := h
  obtain ⟨r1, r2, r3, r4, r5, r6, r7, r8, r9⟩ := hR.1.1
  have hag : ∀ a, Ot B a ∨ a = B + 138 → ag w v a := fun a ha => r5 a (hout a ha).1 (hout a ha).2.1
  have e0 := hag B (Or.inl (Or.inl (Nat.le_refl _)))
  have e1 := hag (B + 138) (Or.inr rfl)
  have c2 : cn b2 ≤ 60000 := by
    have := h3.2.1.2.2.2.2.2.2.2.1
    unfold cn
    omega
  have hd2 : ∀ a, Dm (B + 139) b2 a → ag w v a := fun a ha => r5 a (h3.2.1.2.2.2.2.2.1 a ha).1 (fun q => h7 a q ha)
  have hpl : ∀ a, pl (B + 1) z a → ag w v a := fun a ha => r5 a (h2.2.1.2.2.2.2.2.2.1 a ha) (fun q => (h2.2.1.2.2.2.2.2.1 a q).2 ha)
  refine ⟨⟨h1, hT, h3.out h4.2 hd2 hpl r4 ?_ ?_, ⟨hI, h4.2⟩, ⟨by rw [e0.2.1]; exact h5.1, by rw [e0.2.1]; exact h5.2.1, by rw [e0.2.1]; exact h5.2.2.1, by rw [e1.2.1]; exact h5.2.2.2⟩, ⟨hR.2.1.trans h6.1, hR.1.2.1.trans h6.2.1, h6.2.2⟩, fun a ha q => ?_, fun a ha => ?_, h9, h10, by omega, by omega, by omega⟩, hag⟩
  · have := hT.2.1.2.2.2.2.2.2.2.1
    have c1 : cn b' ≤ 300000 := by unfold cn; omega
    omega
  · have := hT.2.1.2.2.2.2.2.2.2.1
    have c1 : cn b' ≤ 300000 := by unfold cn; omega
    omega
  · rcases r6 a ha with x | x
    · exact h7 a x q
    · have := (h3.2.1.2.2.2.2.2.1 a q).1; omega
  · rcases r6 a ha with x | x
    · exact h8 a x
    · omega
/-- what the trial's did -/
theorem Nw.o2 (h : Nw B nc nm s z w b1 A1 b2 A2) {v : Wd} {b' : Be} {A' : Ta} (hT : Tm (B + 1) (B + 139) 30000 z v b' A') (hI : Ix A') (hR : Rr (B + 139) (B + 138) w b2 v b') (hfh : b_fh b' = []) (hph : b_ph b' = []) : Nw B nc nm s z v b1 A1 b' A' ∧ (∀ a, Ot B a → ag w v a) := by
  have hout := fun a (ha : Ot B a) => h.out (Or.inl ha)
  obtain ⟨h1, h2, h3, h4, h5, h6, h7, h8, h9, h10, h11, h12, h13⟩ := h
  obtain ⟨r4, r5, r6, r7, r8, r9, r10⟩ := hR
  have hag : ∀ a, Ot B a → ag w v a := fun a ha => r5 a (hout a ha).1 ((hout a ha).2.2.2 ha).1 ((hout a ha).2.2.2 ha).2
  have e0 := hag B (Or.inl (Nat.le_refl _))
  have c1 : cn b1 ≤ 300000 := by
    have := h2.2.1.2.2.2.2.2.2.2.1
    unfold cn
    omega
  have c2 : cn b' ≤ 60000 := by
    have := hT.2.1.2.2.2.2.2.2.2.1
    unfold cn
    omega
  have hd2 : ∀ a, Dm (B + 77) b1 a → ag w v a := fun a ha => r5 a (h2.2.1.2.2.2.2.2.1 a ha).1 (h7 a ha) (fun e => by have := h8 a ha; omega)
  have hpl : ∀ a, pl (B + 1) z a → ag w v a := fun a ha => r5 a (h3.2.1.2.2.2.2.2.2.1 a ha) (fun q => (h3.2.1.2.2.2.2.2.1 a q).2 ha) (fun e => by have := h10 a ha; omega)
  refine ⟨⟨h1, h2.out h4.1 hd2 hpl r4 (by omega) (by omega), hT, ⟨h4.1, hI⟩, ⟨by rw [e0.2.1]; exact h5.1, by rw [e0.2.1]; exact h5.2.1, by rw [e0.2.1]; exact h5.2.2.1, by rw [r10]; exact h5.2.2.2⟩, ⟨h6.1, h6.2.1, hfh, hph⟩, fun a ha q => ?_, h8, fun a ha => ?_, h10, by omega, by omega, by omega⟩, hag⟩
  · rcases r6 a q with x | x
    · exact h7 a ha x
    · have := (h2.2.1.2.2.2.2.2.1 a ha).1; omega
  · rcases r6 a ha with x | x
    · exact h9 a x
    · omega
/-- the plan changed, by one thing more at most -/
theorem Nw.op (h : Nw B nc nm (s + 1) z w b1 A1 b2 A2) {v : Wd} {mc mm : Nat} (hP : PSs (B + 1) mc mm v) (hag : ∀ a, a < wd_H w → ¬ pl (B + 1) z a → ag w v a) (hpl : ∀ a, pl (B + 1) v a → pl (B + 1) z a ∨ wd_H w ≤ a) (hlt : ∀ a, pl (B + 1) v a → a < wd_H v) (hH : wd_H w ≤ wd_H v) (hM : wd_M w ≤ wd_M v + 1) (hS : wd_S w ≤ wd_S v + 6) : Nw B mc mm s v v b1 A1 b2 A2 ∧ (∀ a, Ot B a → ag w v a) := by
  have hout := fun a (ha : Ot B a ∨ a = B + 138) => h.out ha
  obtain ⟨h1, h2, h3, h4, h5, h6, h7, h8, h9, h10, h11, h12, h13⟩ := h
  have hag2 : ∀ a, Ot B a ∨ a = B + 138 → ag w v a := fun a ha => hag a (hout a ha).1 (hout a ha).2.2.1
  have e0 := hag2 B (Or.inl (Or.inl (Nat.le_refl _)))
  have e1 := hag2 (B + 138) (Or.inr rfl)
  have c1 : cn b1 ≤ 300000 := by
    have := h2.2.1.2.2.2.2.2.2.2.1
    unfold cn
    omega
  have c2 : cn b2 ≤ 60000 := by
    have := h3.2.1.2.2.2.2.2.2.2.1
    unfold cn
    omega
  refine ⟨⟨hP, h2.plan h4.1 (fun a ha => hag a (h2.2.1.2.2.2.2.2.1 a ha).1 (h2.2.1.2.2.2.2.2.1 a ha).2) hpl hlt hH (by omega) (by omega), h3.plan h4.2 (fun a ha => hag a (h3.2.1.2.2.2.2.2.1 a ha).1 (h3.2.1.2.2.2.2.2.1 a ha).2) hpl hlt hH (by omega) (by omega), h4, ⟨by rw [e0.2.1]; exact h5.1, by rw [e0.2.1]; exact h5.2.1, by rw [e0.2.1]; exact h5.2.2.1, by rw [e1.2.1]; exact h5.2.2.2⟩, h6, h7, h8, h9, fun a ha => ?_, by omega, by omega, by omega⟩, fun a ha => hag2 a (Or.inl ha)⟩
  rcases hpl a ha with x | x
  · exact h10 a x
  · omega
/-- a thing thrown away -/
theorem Nw.bin (h : Nw B nc nm (s + 1) z w b1 A1 b2 A2) : ¬ (wd_M w = 0 ∨ wd_S w < 6) ∧ Nw B nc nm s z (wd_nw w 30 0 6) b1 A1 b2 A2 ∧ (∀ a, Ot B a → ag w (wd_nw w 30 0 6) a) := by
  have hout := fun a (ha : Ot B a ∨ a = B + 138) => h.out ha
  obtain ⟨h1, h2, h3, h4, h5, h6, h7, h8, h9, h10, h11, h12, h13⟩ := h
  have c1 : cn b1 ≤ 300000 := by
    have := h2.2.1.2.2.2.2.2.2.2.1
    unfold cn
    omega
  have c2 : cn b2 ≤ 60000 := by
    have := h3.2.1.2.2.2.2.2.2.2.1
    unfold cn
    omega
  have hag : ∀ a, a < wd_H w → ag w (wd_nw w 30 0 6) a := fun a ha => ag_nw w ha
  have e0 := hag B (by omega)
  have e1 := hag (B + 138) (by omega)
  have eH : wd_H (wd_nw w 30 0 6) = wd_H w + 1 := rfl
  have eM : wd_M (wd_nw w 30 0 6) = wd_M w - 1 := rfl
  have eS : wd_S (wd_nw w 30 0 6) = wd_S w - 6 := rfl
  refine ⟨by omega, ⟨h1, h2.out h4.1 (fun a ha => hag a (h2.2.1.2.2.2.2.2.1 a ha).1) (fun a ha => hag a (h2.2.1.2.2.2.2.2.2.1 a ha)) (by omega) (by omega) (by omega), h3.out h4.2 (fun a ha => hag a (h3.2.1.2.2.2.2.2.1 a ha).1) (fun a ha => hag a (h3.2.1.2.2.2.2.2.2.1 a ha)) (by omega) (by omega) (by omega), h4, ⟨by rw [e0.2.1]; exact h5.1, by rw [e0.2.1]; exact h5.2.1, by rw [e0.2.1]; exact h5.2.2.1, by rw [e1.2.1]; exact h5.2.2.2⟩, h6, h7, h8, h9, h10, by omega, by omega, by omega⟩, fun a ha => hag a (hout a (Or.inl ha)).1⟩
theorem Nw.le (h : Nw B nc nm s z w b1 A1 b2 A2) {t : Nat} (ht : t ≤ s) : Nw B nc nm t z w b1 A1 b2 A2 := by
  obtain ⟨h1, h2, h3, h4, h5, h6, h7, h8, h9, h10, h11, h12, h13⟩ := h
  exact ⟨h1, h2, h3, h4, h5, h6, h7, h8, h9, h10, h11, by omega, by omega⟩
end NN
end NT1
