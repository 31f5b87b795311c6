/-! ===== PURE: the plan changed ===== -/
section PL1
variable {P T X R i j n c B nc nm s : Nat} {z w u v : Wd} {b b1 b2 : Be} {A A' A1 A2 : Ta}
theorem PA.mv (h : PA P z) (hw : PW P z w) : PA P w := by
  obtain ⟨a1, a2, a3⟩ := h
  have e0 := pw_p0 hw
  have e : ∀ k, k < 76 → ag z w (P + k) := fun k hk => pw_p hw hk
  refine ⟨by rw [e0.2.1, e0.2.1, e0.2.1, (e 1 (by omega)).2.2.2.2, (e 2 (by omega)).2.2.2.2, (e 3 (by omega)).2.2.2.2]; exact a1, fun k hk => ?_, fun k hk => ?_⟩
  · rw [(e 2 (by omega)).2.2.2.1, (pw_m0 hw hk).2.1, (pw_m0 hw hk).2.1, (pw_m0 hw hk).2.1, (pw_m0 hw hk).2.1, (pw_m0 hw hk).2.1, (pw_m0 hw hk).2.1, (pw_m0 hw hk).2.1, (pw_m0 hw hk).2.1]; exact a2 k hk
  · have m : ∀ d, d < 9 → wd_N w (mA P k + d) = wd_N z (mA P k + d) := fun d hd => (pw_m hw hk hd).2.2.2.2
    rw [m 1 (by omega), m 2 (by omega), m 3 (by omega), m 4 (by omega), m 5 (by omega), m 6 (by omega), m 7 (by omega), m 8 (by omega)]; exact a3 k hk
theorem PC.cg (h : PC P z i) (h0 : wd_I v 300 (mA P i) = wd_I z 300 (mA P i)) (h3 : wd_I v 303 (mA P i) = wd_I z 303 (mA P i)) (h7 : wd_I v 307 (mA P i) = wd_I z 307 (mA P i)) (h9 : wd_I v 309 (mA P i) = wd_I z 309 (mA P i)) (hq : ∀ k q, k < 4 → wd_Q z (mA P i + 1) k = some q → wd_I v 703 q = wd_I z 703 q) (hQ : ∀ k, wd_Q v (mA P i + 1) k = wd_Q z (mA P i + 1) k) (hA : ∀ d x, 2 ≤ d → d ≤ 5 → wd_A v (mA P i + d) x = wd_A z (mA P i + d) x) : PC P v i := by
  obtain ⟨c1, ⟨k, k1, k2, k3⟩, ⟨p, p1, p2, p3, p4⟩, r, r1, r2, r3⟩ := h
  refine ⟨by rw [h0]; exact c1, ⟨k, k1, by rw [h9]; exact k2, fun t ht => by rw [hA 5 t (by omega) (by omega)]; exact k3 t ht⟩, ⟨p, p1, by rw [h3]; exact p2, fun t ht => ?_, fun t h1 h2 => by rw [hQ]; exact p4 t h1 h2⟩, r, r1, by rw [h7]; exact r2, fun t ht => ?_⟩
  · obtain ⟨q, l, q1, q2, q3⟩ := p3 t ht
    exact ⟨q, l, by rw [hQ]; exact q1, q2, by rw [hq t q (by omega) q1]; exact q3⟩
  · rw [hA 3 t (by omega) (by omega), hA 4 t (by omega) (by omega), h9]; exact r3 t ht
theorem PD.cg (h : PD P z) (hQ : ∀ i k, i < 8 → k < 4 → wd_Q v (mA P i + 1) k = wd_Q z (mA P i + 1) k) (hO : ∀ x, x < 256 → wd_Q v (P + 3) x = wd_Q z (P + 3) x) (hI : ∀ i k q, i < 8 → k < 4 → wd_Q z (mA P i + 1) k = some q → wd_I v 700 q = wd_I z 700 q ∧ wd_I v 701 q = wd_I z 701 q ∧ wd_I v 702 q = wd_I z 702 q) : PD P v := by
  obtain ⟨d1, d2⟩ := h
  refine ⟨fun i k q hi hk hq => ?_, fun x q hx hq => ?_⟩
  · rw [hQ i k hi hk] at hq
    obtain ⟨e1, e2, e3⟩ := hI i k q hi hk hq
    obtain ⟨g1, g2, x, g3, g4, g5⟩ := d1 i k q hi hk hq
    exact ⟨by rw [e1]; exact g1, by rw [e2]; exact g2, x, g3, by rw [e3]; exact g4, by rw [hO x g3]; exact g5⟩
  · rw [hO x hx] at hq
    obtain ⟨i, k, g1, g2, g3, g4⟩ := d2 x q hx hq
    exact ⟨i, k, g1, g2, by rw [hQ i k g1 g2]; exact g3, by rw [(hI i k q g1 g2 g3).2.2]; exact g4⟩
theorem PE.cg {x : Nat} (h : PE P z i x) (h9 : wd_I v 309 (mA P i) = wd_I z 309 (mA P i)) (hQ : ∀ k, k < 4 → wd_Q v (mA P i + 1) k = wd_Q z (mA P i + 1) k) (hA : ∀ d, 6 ≤ d → d ≤ 8 → wd_A v (mA P i + d) x = wd_A z (mA P i + d) x) : PE P v i x := by
  unfold PE
  rw [hA 6 (by omega) (by omega), hA 7 (by omega) (by omega), hA 8 (by omega) (by omega), h9]
  rcases h with h | ⟨h1, h2 | ⟨k, q, y, k1, k2, k3, k4⟩⟩
  · exact Or.inl h
  · exact Or.inr ⟨h1, Or.inl h2⟩
  · exact Or.inr ⟨h1, Or.inr ⟨k, q, y, k1, k2, by rw [hQ k k1]; exact k3, k4⟩⟩
theorem PSs.mv (h : PSs P nc nm z) (hw : PW P z w) : PSs P nc nm w ∧ ∀ a, pl P w a ↔ pl P z a := by
  obtain ⟨hA, ⟨p1, p2, p3, p4, p5⟩, hC, hD, hE⟩ := h
  have e0 := pw_p0 hw
  have hQ : ∀ i k, i < 8 → wd_Q w (mA P i + 1) k = wd_Q z (mA P i + 1) k := fun i k hi => (pw_m hw hi (by omega)).2.2.2.1 k
  have hq : ∀ i k q, i < 8 → k < 4 → wd_Q z (mA P i + 1) k = some q → ag z w q := fun i k q hi hk h => pw_q hw hi hk h
  refine ⟨⟨hA.mv hw, ⟨by rw [e0.1]; exact p1, fun c hc => by rw [(pw_p hw (j := 1) (by omega)).2.2.1]; exact p2 c hc, by rw [e0.1]; exact p3, p4, p5⟩, fun i hi => ?_, hD.cg (fun i k hi _ => hQ i k hi) (fun x _ => (pw_p hw (j := 3) (by omega)).2.2.2.1 x) (fun i k q hi hk h => ⟨(hq i k q hi hk h).1 700, (hq i k q hi hk h).1 701, (hq i k q hi hk h).1 702⟩), fun i x hi hx => ?_⟩, fun a => ?_⟩
  · exact (hC i hi).cg ((pw_m0 hw hi).1 300) ((pw_m0 hw hi).1 303) ((pw_m0 hw hi).1 307) ((pw_m0 hw hi).1 309) (fun k q hk h => (hq i k q hi hk h).1 703) (fun k => hQ i k hi) (fun d x h1 h2 => (pw_m hw hi (j := d) (by omega)).2.2.1 x)
  · exact (hE i x hi hx).cg ((pw_m0 hw hi).1 309) (fun k _ => hQ i k hi) (fun d h1 h2 => (pw_m hw hi (j := d) (by omega)).2.2.1 x)
  · have e : ∀ i k, i < 8 → wd_Q w (P + 5 + 9 * i) k = wd_Q z (P + 5 + 9 * i) k := fun i k hi => by
      have := hQ i k hi
      rw [show P + 5 + 9 * i = mA P i + 1 by unfold mA; omega]; exact this
    constructor
    · rintro (h | ⟨i, k, hi, hk, h⟩)
      · exact Or.inl h
      · exact Or.inr ⟨i, k, hi, hk, by rw [← e i k hi]; exact h⟩
    · rintro (h | ⟨i, k, hi, hk, h⟩)
      · exact Or.inl h
      · exact Or.inr ⟨i, k, hi, hk, by rw [e i k hi]; exact h⟩
/-- the net as it is now -/
theorem Nw.now (h : Nw B nc nm s z w b1 A1 b2 A2) : Nw B nc nm s w w b1 A1 b2 A2 := by
  obtain ⟨h1, h2, h3, h4, h5, h6, h7, h8, h9, h10, h11, h12, h13⟩ := h
  obtain ⟨m1, m2⟩ := h1.mv h2.1
  have hlt : ∀ a, pl (B + 1) w a → a < wd_H w := fun a ha => h2.2.1.2.2.2.2.2.2.1 a ((m2 a).mp ha)
  exact ⟨m1, h2.plan h4.1 (fun _ _ => ag.rf _ _) (fun a ha => Or.inl ((m2 a).mp ha)) hlt (Nat.le_refl _) h2.2.1.2.2.2.2.2.2.2.1.2.2.1 h2.2.1.2.2.2.2.2.2.2.1.2.2.2, h3.plan h4.2 (fun _ _ => ag.rf _ _) (fun a ha => Or.inl ((m2 a).mp ha)) hlt (Nat.le_refl _) h3.2.1.2.2.2.2.2.2.2.1.2.2.1 h3.2.1.2.2.2.2.2.2.2.1.2.2.2, h4, h5, h6, h7, h8, h9, fun a ha => h10 a ((m2 a).mp ha), h11, h12, h13⟩
/-- ports as they were -/
def Sq (P : Nat) (z v : Wd) : Prop := (∀ i k q, Pq P z i k q → Pq P v i k q ∧ wd_I v 700 q = wd_I z 700 q ∧ wd_I v 701 q = wd_I z 701 q ∧ wd_I v 702 q = wd_I z 702 q) ∧ (∀ x q, x < 256 → wd_Q z (P + 3) x = some q → wd_Q v (P + 3) x = some q ∧ wd_I v 700 q = wd_I z 700 q)
theorem Sq.tr (h : Sq P z w) (k : Sq P w v) : Sq P z v :=
  ⟨fun i t q hq => by
    obtain ⟨a1, a2, a3, a4⟩ := h.1 i t q hq
    obtain ⟨e1, e2, e3, e4⟩ := k.1 i t q a1
    exact ⟨e1, e2.trans a2, e3.trans a3, e4.trans a4⟩, fun x q hx hq => by
    obtain ⟨a1, a2⟩ := h.2 x q hx hq
    obtain ⟨e1, e2⟩ := k.2 x q hx a1
    exact ⟨e1, e2.trans a2⟩⟩
theorem Sq.now (hD : PD P z) (hw : PW P z w) : Sq P z w := by
  refine ⟨fun i k q hq => ?_, fun x q hx hq => ?_⟩
  · have e := pw_q hw hq.1 hq.2.1 hq.2.2
    exact ⟨⟨hq.1, hq.2.1, by rw [(pw_m hw hq.1 (j := 1) (by omega)).2.2.2.1]; exact hq.2.2⟩, e.1 700, e.1 701, e.1 702⟩
  · obtain ⟨i, k, h1, h2, h3, h4⟩ := hD.2 x q hx hq
    exact ⟨by rw [(pw_p hw (j := 3) (by omega)).2.2.2.1]; exact hq, (pw_q hw h1 h2 h3).1 700⟩
theorem pl_i {a : Nat} (h1 : P ≤ a) (h2 : a < P + 76) : pl P z a := Or.inl ⟨h1, h2⟩
theorem ag_pI {a0 g : Nat} {x : Int32} (h0 : P ≤ a0 ∧ a0 < P + 76) {a : Nat} (hn : ¬ pl P z a) (h : ag w u a) : ag w (wd_sI u g a0 x) a :=
  h.tr ⟨fun f => by rw [i_sI, if_neg]; exact fun q => hn (q.2 ▸ Or.inl h0), fun _ => rfl, fun _ => rfl, fun _ => rfl, rfl⟩
theorem ag_pA {a0 k : Nat} {x : Int32} (h0 : P ≤ a0 ∧ a0 < P + 76) {a : Nat} (hn : ¬ pl P z a) (h : ag w u a) : ag w (wd_sA u a0 k x) a :=
  h.tr ⟨fun _ => rfl, fun _ => rfl, fun y => by rw [a_sA, if_neg]; exact fun q => hn (q.1 ▸ Or.inl h0), fun _ => rfl, rfl⟩
theorem m_in (hi : i < 8) {d : Nat} (hd : d < 9) : P ≤ mA P i + d ∧ mA P i + d < P + 76 := ⟨by unfold mA; omega, by unfold mA; omega⟩
theorem m_in0 (hi : i < 8) : P ≤ mA P i ∧ mA P i < P + 76 := ⟨by unfold mA; omega, by unfold mA; omega⟩
theorem m_ne (hi : i < 8) (hj : j < 8) (hij : i ≠ j) {d e : Nat} (hd : d < 9) (he : e < 9) : mA P i + d ≠ mA P j + e := by unfold mA; omega
/-- a small change of the plan's tables: nothing new, references and lengths as they were -/
theorem Nw.op0 (h : Nw B nc nm (s + 1) w w b1 A1 b2 A2) {mc mm : Nat} (hP : PSs (B + 1) mc mm v) (hag : ∀ a, ¬ pl (B + 1) w a → ag w v a) (hQ : ∀ a k, wd_Q v a k = wd_Q w a k) (hH : wd_H v = wd_H w) (hM : wd_M v = wd_M w) (hS : wd_S v = wd_S w) : Nw B mc mm s v v b1 A1 b2 A2 ∧ ∀ a, Ot B a → ag w v a := by
  have hpl : ∀ a, pl (B + 1) v a → pl (B + 1) w a := fun a ha => by
    rcases ha with ha | ⟨i, k, hi, hk, ha⟩
    · exact Or.inl ha
    · exact Or.inr ⟨i, k, hi, hk, by rw [← hQ]; exact ha⟩
  exact h.op hP (fun a _ hn => hag a hn) (fun a ha => Or.inl (hpl a ha)) (fun a ha => by rw [hH]; exact h.2.1.2.1.2.2.2.2.2.2.1 a (hpl a ha)) (by omega) (by omega) (by omega)
theorem x_width (k : Nat) (h1 : 12 ≤ k) (h2 : k ≤ 200) : f_X11_needWidth n w (Int32.ofNat k) = some w := by
  rw [f_X11_needWidth, if_neg (by rw [show (12 : Int32) = Int32.ofNat 12 from rfl, j_lx (by omega) (by omega)]; omega), if_pos (by rw [show (200 : Int32) = Int32.ofNat 200 from rfl, j_ll (by omega) (by omega)]; exact h2)]
/-- a change of int fields of the plan's that ports and ways don't depend on -/
theorem PSs.cg (h : PSs P nc nm w) {mc mm : Nat} (hB : PB P mc mm v) (hR : ∀ g a, wd_R v g a = wd_R w g a) (hQ : ∀ a k, wd_Q v a k = wd_Q w a k) (hN : ∀ a, wd_N v a = wd_N w a) (hI : ∀ g a, g ≠ 301 → g ≠ 501 → g ≠ 503 → wd_I v g a = wd_I w g a) (hA : ∀ i d x, i < 8 → 2 ≤ d → d ≤ 8 → wd_A v (mA P i + d) x = wd_A w (mA P i + d) x) : PSs P mc mm v := by
  obtain ⟨⟨a1, a2, a3⟩, -, hC, hD, hE⟩ := h
  refine ⟨⟨by rw [hR, hR, hR, hN, hN, hN]; exact a1, fun k hk => by rw [hQ, hR, hR, hR, hR, hR, hR, hR, hR]; exact a2 k hk, fun k hk => by rw [hN, hN, hN, hN, hN, hN, hN, hN]; exact a3 k hk⟩, hB, fun i hi => (hC i hi).cg (hI _ _ (by omega) (by omega) (by omega)) (hI _ _ (by omega) (by omega) (by omega)) (hI _ _ (by omega) (by omega) (by omega)) (hI _ _ (by omega) (by omega) (by omega)) (fun _ q _ _ => hI 703 q (by omega) (by omega) (by omega)) (fun k => hQ _ k) (fun d x h1 h2 => hA i d x hi h1 (by omega)), hD.cg (fun i k _ _ => hQ _ k) (fun x _ => hQ _ x) (fun _ _ q _ _ _ => ⟨hI 700 q (by omega) (by omega) (by omega), hI 701 q (by omega) (by omega) (by omega), hI 702 q (by omega) (by omega) (by omega)⟩), fun i x hi hx => (hE i x hi hx).cg (hI _ _ (by omega) (by omega) (by omega)) (fun k _ => hQ _ k) (fun d h1 h2 => hA i d x hi (by omega) h2)⟩
theorem Sq.cg (hQ : ∀ a k, wd_Q v a k = wd_Q w a k) (hI : ∀ g a, 700 ≤ g → g ≤ 702 → wd_I v g a = wd_I w g a) : Sq P w v :=
  ⟨fun i k q hq => ⟨⟨hq.1, hq.2.1, by rw [hQ]; exact hq.2.2⟩, hI _ _ (by omega) (by omega), hI _ _ (by omega) (by omega), hI _ _ (by omega) (by omega)⟩, fun x q _ hq => ⟨by rw [hQ]; exact hq, hI _ _ (by omega) (by omega)⟩⟩
theorem x_addCable (h : Nw B nc nm (s + 1) w w b1 A1 b2 A2) (hc : nc < 2) {k : Nat} (h1 : 12 ≤ k) (h2 : k ≤ 200) :
    ∃ v, f_X11_addCable n w B (Int32.ofNat k) = some (Int32.ofNat nc, v) ∧ Nw B (nc + 1) nm s v v b1 A1 b2 A2 ∧ (∀ a, Ot B a → ag w v a) ∧ Sq (B + 1) w v ∧ (∀ i k, i < 8 → wd_Q v (mA (B + 1) i + 1) k = wd_Q w (mA (B + 1) i + 1) k) ∧ ∀ i, i < 8 → wd_I v 301 (mA (B + 1) i) = wd_I w 301 (mA (B + 1) i) := by
  obtain ⟨⟨a1, -, -⟩, ⟨p1, p2, p3, p4, p5⟩, -⟩ := id h.1
  have hag : ∀ a, ¬ pl (B + 1) w a → ag w (wd_sI (wd_sA w (B + 1 + 1) nc (Int32.ofNat k)) 501 (B + 1) (Int32.ofNat (nc + 1))) a := fun a ha => ag_pI (P := B + 1) (z := w) ⟨by omega, by omega⟩ ha (ag_pA (P := B + 1) (z := w) ⟨by omega, by omega⟩ ha (ag.rf _ _))
  have hB : PB (B + 1) (nc + 1) nm (wd_sI (wd_sA w (B + 1 + 1) nc (Int32.ofNat k)) 501 (B + 1) (Int32.ofNat (nc + 1))) := by
    refine ⟨by rw [i_sI, if_pos ⟨rfl, rfl⟩], fun c hc' => ?_, by rw [i_sI, if_neg (by omega), i_sA]; exact p3, by omega, p5⟩
    rw [a_sI, a_sA]
    by_cases e : c = nc
    · rw [if_pos ⟨rfl, e⟩]; exact ⟨k, h1, h2, rfl⟩
    · rw [if_neg (fun q => e q.2)]; exact p2 c (by omega)
  have hP : PSs (B + 1) (nc + 1) nm (wd_sI (wd_sA w (B + 1 + 1) nc (Int32.ofNat k)) 501 (B + 1) (Int32.ofNat (nc + 1))) := h.1.cg hB (fun _ _ => rfl) (fun _ _ => rfl) (fun _ => rfl) (fun g a _ hg _ => by rw [i_sI, if_neg (fun q => hg q.1), i_sA]) (fun i d x hi _ _ => by rw [a_sI, a_sA, if_neg (by unfold mA; omega)])
  obtain ⟨q1, q2⟩ := h.op0 hP hag (fun _ _ => rfl) rfl rfl rfl
  refine ⟨_, ?_, q1, q2, Sq.cg (fun _ _ => rfl) (fun g a h1 h2 => by rw [i_sI, if_neg (by omega), i_sA]), fun _ _ _ => rfl, fun i _ => by rw [i_sI, if_neg (by omega), i_sA]⟩
  rw [f_X11_addCable, x_width k h1 h2, Option.bind_some, h.2.2.2.2.1.1, Option.bind_some, f_X5_putCable, p1, if_pos (by rw [show (8 : Int32) = Int32.ofNat 8 from rfl, j_lx (by omega) (by omega)]; omega), a1.1, Option.bind_some, j_gd (by rw [a1.2.2.2.1]; exact j_in (by omega) (by omega)), wd_let, j_nn (by omega), wd_let, show wd_I (wd_sA w (B + 1 + 1) nc (Int32.ofNat k)) 501 (B + 1) = Int32.ofNat nc from p1, j_a1, i_sI, if_pos ⟨rfl, rfl⟩, j_s1 (by omega), Nat.add_sub_cancel, wd_b2_s, if_pos (by rw [show (0 : Int32) = Int32.ofNat 0 from rfl, j_ll (by omega) (by omega)]; omega)]
theorem x_setWidth (h : Nw B 2 nm (s + 1) w w b1 A1 b2 A2) {t k : Nat} (ht : t < 2) (h1 : 12 ≤ k) (h2 : k ≤ 200) :
    ∃ r v, f_X11_setWidth n w B (Int32.ofNat t) (Int32.ofNat k) = some (r, v) ∧ Nw B 2 nm s v v b1 A1 b2 A2 ∧ (∀ a, Ot B a → ag w v a) ∧ Sq (B + 1) w v ∧ (∀ i k, i < 8 → wd_Q v (mA (B + 1) i + 1) k = wd_Q w (mA (B + 1) i + 1) k) ∧ ∀ i, i < 8 → wd_I v 301 (mA (B + 1) i) = wd_I w 301 (mA (B + 1) i) := by
  obtain ⟨⟨a1, -, -⟩, ⟨p1, p2, p3, p4, p5⟩, -⟩ := id h.1
  have hag : ∀ a, ¬ pl (B + 1) w a → ag w (wd_sA w (B + 1 + 1) t (Int32.ofNat k)) a := fun a ha => ag_pA (P := B + 1) (z := w) ⟨by omega, by omega⟩ ha (ag.rf _ _)
  have hB : PB (B + 1) 2 nm (wd_sA w (B + 1 + 1) t (Int32.ofNat k)) := by
    refine ⟨p1, fun c hc' => ?_, p3, p4, p5⟩
    rw [a_sA]
    by_cases e : c = t
    · rw [if_pos ⟨rfl, e⟩]; exact ⟨k, h1, h2, rfl⟩
    · rw [if_neg (fun q => e q.2)]; exact p2 c hc'
  have hP : PSs (B + 1) 2 nm (wd_sA w (B + 1 + 1) t (Int32.ofNat k)) := h.1.cg hB (fun _ _ => rfl) (fun _ _ => rfl) (fun _ => rfl) (fun _ _ _ _ _ => rfl) (fun i d x hi _ _ => by rw [a_sA, if_neg (by unfold mA; omega)])
  obtain ⟨q1, q2⟩ := h.op0 hP hag (fun _ _ => rfl) rfl rfl rfl
  refine ⟨wd_A w (B + 1 + 1) t, _, ?_, q1, q2, Sq.cg (fun _ _ => rfl) (fun g a _ _ => rfl), fun _ _ _ => rfl, fun _ _ => rfl⟩
  have hlt : ¬ wd_I w 501 (B + 1) ≤ Int32.ofNat t := by rw [p1, j_ll (by omega) (by omega)]; omega
  have hw : f_X5_widthOf n w (B + 1) (Int32.ofNat t) = some (wd_A w (B + 1 + 1) t, w) := by
    unfold f_X5_widthOf
    simp only [if_neg (j_n0 (k := t) (by omega)), p1]
    rw [if_neg (by rw [j_ll (by omega) (by omega)]; omega), a1.1, Option.bind_some, j_gd (by rw [a1.2.2.2.1]; exact j_in (by omega) (by omega)), j_nn (by omega)]
  rw [f_X11_setWidth, x_cable h ht, Option.bind_some, x_width k h1 h2, Option.bind_some, h.2.2.2.2.1.1, Option.bind_some, f_X5_changeWidth, hw, wd_b2_s, if_neg (j_n0 (by omega)), if_neg hlt, a1.1, Option.bind_some, j_gd (by rw [a1.2.2.2.1]; exact j_in (by omega) (by omega)), wd_let, j_nn (by omega), f_X5_changeWidth_j25, wd_b2_s]
theorem x_addMachine (h : Nw B nc nm (s + 1) w w b1 A1 b2 A2) {p0 : Int32} (hp : p0 = 0 ∨ p0 = 1) :
    ∃ o v mm, f_X11_addMachine n w B p0 = some (o, v) ∧ Nw B nc mm s v v b1 A1 b2 A2 ∧ (∀ a, Ot B a → ag w v a) ∧ Sq (B + 1) w v ∧ (∀ i k, i < 8 → wd_Q v (mA (B + 1) i + 1) k = wd_Q w (mA (B + 1) i + 1) k) ∧ nm ≤ mm ∧ (o = none ∨ o = some (Int32.ofNat nm) ∧ mm = nm + 1) ∧ (nm < 8 → o = some (Int32.ofNat nm) ∧ mm = nm + 1) ∧ ∀ i, i < 8 → wd_I v 301 (mA (B + 1) i) = wd_I w 301 (mA (B + 1) i) ∨ wd_I v 301 (mA (B + 1) i) = p0 := by
  obtain ⟨⟨a1, a2, -⟩, ⟨p1, p2, p3, p4, p5⟩, -⟩ := id h.1
  rw [f_X11_addMachine, h.2.2.2.2.1.1, Option.bind_some, f_X5_putMachine, p3]
  by_cases c1 : nm < 8
  · have hag : ∀ a, ¬ pl (B + 1) w a → ag w (wd_sI (wd_sI w 301 (mA (B + 1) nm) p0) 503 (B + 1) (Int32.ofNat (nm + 1))) a := fun a ha => ag_pI (P := B + 1) (z := w) ⟨by omega, by omega⟩ ha (ag_pI (P := B + 1) (z := w) (m_in0 c1) ha (ag.rf _ _))
    have hB : PB (B + 1) nc (nm + 1) (wd_sI (wd_sI w 301 (mA (B + 1) nm) p0) 503 (B + 1) (Int32.ofNat (nm + 1))) := ⟨by rw [i_sI, if_neg (by omega), i_sI, if_neg (by omega)]; exact p1, p2, by rw [i_sI, if_pos ⟨rfl, rfl⟩], p4, by omega⟩
    have hP := h.1.cg hB (fun _ _ => rfl) (fun _ _ => rfl) (fun _ => rfl) (fun g a h1 _ h3 => by rw [i_sI, if_neg (fun q => h3 q.1), i_sI, if_neg (fun q => h1 q.1)]) (fun i d x hi _ _ => rfl)
    obtain ⟨q1, q2⟩ := h.op0 hP hag (fun _ _ => rfl) rfl rfl rfl
    have e301 : ∀ i, i < 8 → wd_I (wd_sI (wd_sI w 301 (mA (B + 1) nm) p0) 503 (B + 1) (Int32.ofNat (nm + 1))) 301 (mA (B + 1) i) = wd_I w 301 (mA (B + 1) i) ∨ wd_I (wd_sI (wd_sI w 301 (mA (B + 1) nm) p0) 503 (B + 1) (Int32.ofNat (nm + 1))) 301 (mA (B + 1) i) = p0 := fun i _ => by
      rw [i_sI, if_neg (by omega), i_sI]
      split
      · exact Or.inr rfl
      · exact Or.inl rfl
    refine ⟨some (Int32.ofNat nm), _, nm + 1, ?_, q1, q2, Sq.cg (fun _ _ => rfl) (fun g a h1 h2 => by rw [i_sI, if_neg (by omega), i_sI, if_neg (by omega)]), fun _ _ _ => rfl, by omega, Or.inr ⟨rfl, rfl⟩, fun _ => ⟨rfl, rfl⟩, e301⟩
    rw [if_pos (by rw [show (8 : Int32) = Int32.ofNat 8 from rfl, j_lx (by omega) (by omega)]; exact c1), a1.2.1, Option.bind_some, j_gd (by rw [a1.2.2.2.2.1]; exact j_in (by omega) (by omega)), j_nn (by omega), (a2 nm c1).1, Option.bind_some, j_gd (fun q => q hp), wd_let, wd_let, show wd_I (wd_sI w 301 (mA (B + 1) nm) p0) 503 (B + 1) = Int32.ofNat nm by rw [i_sI, if_neg (by omega)]; exact p3, j_a1, i_sI, if_pos ⟨rfl, rfl⟩, j_s1 (by omega), Nat.add_sub_cancel, wd_b2_s, if_pos (by rw [show (0 : Int32) = Int32.ofNat 0 from rfl, j_ll (by omega) (by omega)]; omega)]
  · obtain ⟨q0, q1, q2⟩ := h.bin
    have hN := q1.now
    refine ⟨none, wd_nw w 30 0 6, nm, ?_, hN, q2, Sq.now h.1.2.2.2.1 q1.2.1.1, fun i k hi => ?_, by omega, Or.inl rfl, fun q => absurd q c1, fun i hi => Or.inl (by have h11 := h.2.2.2.2.2.2.2.2.2.2.1; rw [i_nw, if_neg (by unfold mA; omega)])⟩
    · rw [if_neg (by rw [show (8 : Int32) = Int32.ofNat 8 from rfl, j_lx (by omega) (by omega)]; omega), wd_b2_s, if_neg (by decide), j_gd q0]
    · have h11 := h.2.2.2.2.2.2.2.2.2.2.1
      rw [q_nw, if_neg (by unfold mA; omega)]
end PL1
