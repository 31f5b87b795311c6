/-! ===== PURE: the invariant ===== -/
/-- what is right of packet i: number, kind, ranges; tables by number: 6 the live one with place 0, 7 the kind, 8 what is wrapped in -/
def Hq (A : Ta) (c i : Nat) : Prop :=
  (∀ g, 400 ≤ g → g ≤ 409 → tI A g i = Int32.ofNat (hv A g i)) ∧
  (hv A 405 i < tN A 901 0 ∧ hv A 400 i ≤ 6 ∧ tN A 7 (hv A 405 i) = hv A 400 i ∧ hv A 401 i < 256 ∧ hv A 402 i < 256 ∧ hv A 407 i + hv A 403 i ≤ c ∧ hv A 408 i ≤ 1 ∧ hv A 409 i ≤ 1 ∧ hv A 404 i ≤ 40) ∧
  (3 ≤ hv A 400 i → hv A 400 i ≤ 5 → hv A 403 i = 0 ∧ hv A 407 i = 0 ∧ hv A 409 i = 0) ∧
  (hv A 400 i = 5 → 12 ≤ hv A 406 i ∧ hv A 406 i ≤ 200) ∧
  (tN A 5 i ≠ 0 → 1 ≤ hv A 404 i) ∧
  (tN A 5 i ≠ 0 → hv A 407 i = 0 → tN A 6 (hv A 405 i) = i) ∧
  (hv A 400 i = 6 → ∃ d, tR A 410 i = some d ∧ d < i ∧ tN A 8 (hv A 405 i) = d) ∧
  (hv A 400 i = 6 → tN A 5 i ≠ 0 → hv A 407 i = 0 → tN A 5 (tN A 8 (hv A 405 i)) = 100 + hv A 405 i)
theorem hv_c {A A' : Ta} {g i : Nat} (h : tI A' g i = tI A g i) : hv A' g i = hv A g i := by unfold hv; rw [h]
theorem Hq.mv {A A' : Ta} {c c' i : Nat} (h : Hq A c i) (hI : ∀ g, 400 ≤ g → g ≤ 409 → tI A' g i = tI A g i) (hR : tR A' 410 i = tR A 410 i) (h9 : tN A 901 0 ≤ tN A' 901 0) (hc : c ≤ c')
    (h7 : tN A' 7 (hv A 405 i) = tN A 7 (hv A 405 i)) (h8 : tN A' 8 (hv A 405 i) = tN A 8 (hv A 405 i)) (ht : tN A' 5 i ≠ 0 → tN A 5 i ≠ 0)
    (h6 : tN A' 5 i ≠ 0 → hv A 407 i = 0 → tN A' 6 (hv A 405 i) = tN A 6 (hv A 405 i))
    (h5 : hv A 400 i = 6 → tN A' 5 i ≠ 0 → hv A 407 i = 0 → tN A 5 (tN A 8 (hv A 405 i)) = 100 + hv A 405 i → tN A' 5 (tN A 8 (hv A 405 i)) = 100 + hv A 405 i) : Hq A' c' i := by
  obtain ⟨a1, ⟨b1, b2, b3, b4, b5, b6, b7, b8, b9⟩, a3, a4, a5, a6, a7, a8⟩ := h
  have e : ∀ g, 400 ≤ g → g ≤ 409 → hv A' g i = hv A g i := fun g g1 g2 => hv_c (hI g g1 g2)
  have e0 := e 400 (by omega) (by omega)
  have e1 := e 401 (by omega) (by omega)
  have e2 := e 402 (by omega) (by omega)
  have e3 := e 403 (by omega) (by omega)
  have e4 := e 404 (by omega) (by omega)
  have e5 := e 405 (by omega) (by omega)
  have e6 := e 406 (by omega) (by omega)
  have e7 := e 407 (by omega) (by omega)
  have e8 := e 408 (by omega) (by omega)
  have e9 := e 409 (by omega) (by omega)
  unfold Hq
  rw [e0, e1, e2, e3, e4, e5, e6, e7, e8, e9, h7, h8, hR]
  exact ⟨fun g g1 g2 => by rw [hI g g1 g2, e g g1 g2]; exact a1 g g1 g2, ⟨by omega, b2, b3, b4, b5, by omega, b7, b8, b9⟩, a3, a4, fun q => a5 (ht q), fun q r => by rw [h6 q r]; exact a6 (ht q) r, a7, fun q r s => h5 q r s (a8 q (ht r) s)⟩
section IV
variable {P T X i j n c : Nat} {z w u : Wd} {b : Be} {A A' : Ta}
/-- q is the port k of machine i -/
def Pq (P : Nat) (z : Wd) (i k q : Nat) : Prop := i < 8 ∧ k < 4 ∧ wd_Q z (mA P i + 1) k = some q
/-- x is the mark of a port -/
def Mk (P : Nat) (z : Wd) (x : Int32) : Prop := ∃ i k q, Pq P z i k q ∧ x = Int32.ofNat (4 * i + k)
/-- what is right of a frame -/
def Fq (P : Nat) (z : Wd) (A : Ta) (f : (Nat → Int32) × Option Nat) : Prop :=
  (∃ i k q, Pq P z i k q ∧ f.1 0 = wd_I z 701 q ∧ f.1 1 = wd_I z 700 q ∧ (f.1 3 = 2 → f.1 4 = wd_I z 702 q)) ∧
  ((f.1 3 = 1 ∧ f.1 2 = -1 ∧ f.2 = none) ∨ (f.1 3 = 2 ∧ Mk P z (f.1 2) ∧ f.2 = none) ∨ (f.1 3 = 0 ∧ Mk P z (f.1 2) ∧ ∃ p, f.2 = some p ∧ p < tN A 1 0 ∧ tN A 5 p = 1))
/-- what is right of a note -/
def Nq (A : Ta) (f : Nat → Int32) : Prop :=
  ∃ k x s t m a : Nat, f 0 = Int32.ofNat k ∧ f 1 = Int32.ofNat x ∧ f 2 = Int32.ofNat s ∧ f 3 = Int32.ofNat t ∧ f 4 = Int32.ofNat m ∧ f 5 = Int32.ofNat a ∧
    k ≠ 1 ∧ k ≤ 5 ∧ x < 256 ∧ 1 ≤ t ∧ t ≤ 40 ∧ m < tN A 901 0 ∧ (3 ≤ k → s = 0) ∧ (k = 5 → 12 ≤ a ∧ a ≤ 200)
/-- what is right of the lists -/
def Lq (P : Nat) (z : Wd) (A : Ta) : Prop :=
  (∀ f, f ∈ tF A → Fq P z A f) ∧ ((tF A).filterMap fun f => f.2).Nodup ∧
  (∀ i, i < 8 → ∀ e, e ∈ tW A i → ∃ k, Pq P z i k e.2.2) ∧
  (∀ i, i < 8 → ∀ e, e ∈ tK A i → ∀ p, p ∈ e.2.2 → tI A 401 p = e.1 ∧ tI A 405 p = e.2.1) ∧
  (∀ i, i < 8 → Kd (tK A i) ∧ (tK A i).length ≤ 3) ∧
  (∀ i x, i < 8 → x < 256 → tM A i x = -1 ∨ ∃ q, wd_Q z (P + 3) x = some q ∧ tM A i x = wd_I z 700 q) ∧
  (∀ i, i < 8 → ∀ f, f ∈ tO A i → Nq A f)
def Iv (P : Nat) (z : Wd) (c : Nat) (A : Ta) : Prop := Ix A ∧ Iy A ∧ (∀ i, i < tN A 1 0 → Hq A c i) ∧ Lq P z A ∧ c ≤ 10000 ∧ tN A 901 0 ≤ 1000000000
theorem Nq.mv {f : Nat → Int32} (h : Nq A f) (h9 : tN A 901 0 ≤ tN A' 901 0) : Nq A' f := by
  obtain ⟨k, x, s, t, m, a, h1, h2, h3, h4, h5, h6, h7, h8, h10, h11, h12, h13, h14, h15⟩ := h
  exact ⟨k, x, s, t, m, a, h1, h2, h3, h4, h5, h6, h7, h8, h10, h11, h12, by omega, h14, h15⟩
theorem Fq.mv {f : (Nat → Int32) × Option Nat} (h : Fq P z A f) (hN : tN A 1 0 ≤ tN A' 1 0) (ht : ∀ p, f.2 = some p → tN A 5 p = 1 → tN A' 5 p = 1) : Fq P z A' f := by
  refine ⟨h.1, ?_⟩
  rcases h.2 with q | q | ⟨q1, q2, p, q3, q4, q5⟩
  · exact Or.inl q
  · exact Or.inr (Or.inl q)
  · exact Or.inr (Or.inr ⟨q1, q2, p, q3, by omega, ht p q3 q5⟩)
/-- the lists as they were, tags as they were of what is in them -/
theorem Lq.mv (h : Lq P z A) (hx : Ix A) (hF : tF A' = tF A) (hW : tW A' = tW A) (hK : tK A' = tK A) (hM : tM A' = tM A) (hO : tO A' = tO A) (hN : tN A 1 0 ≤ tN A' 1 0) (h9 : tN A 901 0 ≤ tN A' 901 0)
    (h5 : ∀ p, p < tN A 1 0 → tN A 5 p = 1 → tN A' 5 p = 1) (hI : ∀ i p, i < 8 → p < tN A 1 0 → tN A 5 p = 20 + i → tI A' 401 p = tI A 401 p ∧ tI A' 405 p = tI A 405 p) : Lq P z A' := by
  obtain ⟨a1, a2, a3, a4, a5, a6, a7⟩ := h
  unfold Lq
  rw [hF, hW, hK, hM, hO]
  refine ⟨fun f hf => (a1 f hf).mv hN (fun p hp hp1 => h5 p ?_ hp1), a2, a3, fun i hi e he p hp => ?_, a5, a6, fun i hi f hf => (a7 i hi f hf).mv h9⟩
  · rcases (a1 f hf).2 with q | q | ⟨q1, q2, r, q3, q4, q5⟩
    · rw [q.2.2] at hp; cases hp
    · rw [q.2.2] at hp; cases hp
    · rw [q3] at hp; rw [← Option.some.inj hp]; exact q4
  · have g := (hx.2 i hi e he).1 p hp
    have := hI i p hi g.1 g.2
    rw [this.1, this.2]; exact a4 i hi e he p hp
/-- only tags, and the tables, changed -/
theorem Iv.tg (h : Iv P z c A) (hE : tI A' = tI A ∧ tR A' = tR A ∧ tW A' = tW A ∧ tK A' = tK A ∧ tM A' = tM A ∧ tO A' = tO A ∧ tF A' = tF A ∧ tN A' 1 0 = tN A 1 0 ∧ tN A' 901 0 = tN A 901 0 ∧ (∀ x, tN A' 6 x = tN A 6 x) ∧ (∀ x, tN A' 7 x = tN A 7 x) ∧ ∀ x, tN A' 8 x = tN A 8 x)
    (h5 : ∀ p, (tN A 5 p = 1 ∨ 10 ≤ tN A 5 p) → tN A' 5 p = tN A 5 p) (h0 : ∀ p, tN A 5 p = 0 → tN A' 5 p = 0) : Iv P z c A' := by
  obtain ⟨a1, a2, a3, a4, a5, a6⟩ := h
  obtain ⟨e1, e2, e3, e4, e5, e6, e7, e8, e9, e10, e11, e12⟩ := hE
  refine ⟨a1.mv e3 e4 (by omega) (fun i p hi _ hp => h5 p (by omega)), a2.mv e7 (by omega) (fun i _ => by rw [e2]) (fun i h1 h2 => by omega), fun i hi => ?_, a4.mv a1 e7 e3 e4 e5 e6 (by omega) (by omega) (fun p _ hp => by rw [h5 p (Or.inl hp)]; exact hp) (fun i p _ _ _ => by rw [e1]; exact ⟨rfl, rfl⟩), a5, by omega⟩
  rw [e8] at hi
  refine (a3 i hi).mv (fun g _ _ => by rw [e1]) (by rw [e2]) (by omega) (Nat.le_refl _) (e11 _) (e12 _) (fun q r => q (h0 _ r)) (fun _ _ => e10 _) (fun _ _ _ q => ?_)
  rw [h5 _ (Or.inr (by omega))]; exact q
theorem Iv.tag (h : Iv P z c A) {p v : Nat} (hp : tN A 5 p = 3) : Iv P z c (uN A 5 p v) := by
  have e : ∀ x, x ≠ p → tN (uN A 5 p v) 5 x = tN A 5 x := fun x hx => by rw [tN_uN, if_neg (fun q => hx q.2)]
  refine h.tg ⟨rfl, rfl, rfl, rfl, rfl, rfl, rfl, rfl, rfl, fun _ => rfl, fun _ => rfl, fun _ => rfl⟩ (fun x hx => e x fun q => ?_) (fun x hx => ?_)
  · rw [q] at hx; omega
  · rw [e x (fun q => by rw [q] at hx; omega)]; exact hx
theorem Iv.gone (h : Iv P z c A) (j v : Nat) : Iv P z c (uN A 204 j v) := h.tg ⟨rfl, rfl, rfl, rfl, rfl, rfl, rfl, rfl, rfl, fun _ => rfl, fun _ => rfl, fun _ => rfl⟩ (fun _ _ => rfl) (fun _ h => h)
theorem Iv.le (h : Iv P z c A) {d : Nat} (hd : c ≤ d) (hd2 : d ≤ 10000) : Iv P z d A :=
  ⟨h.1, h.2.1, fun i hi => (h.2.2.1 i hi).mv (fun _ _ _ => rfl) rfl (Nat.le_refl _) hd rfl rfl (fun q => q) (fun _ _ => rfl) (fun _ _ _ q => q), h.2.2.2.1, hd2, h.2.2.2.2.2⟩
/-- a new packet -/
theorem Iv.new (h : Iv P z c A) {c' : Nat} (hc : c ≤ c') (hc2 : c' ≤ 10000) (hN : tN A' 1 0 = tN A 1 0 + 1) (h9 : tN A 901 0 ≤ tN A' 901 0) (h99 : tN A' 901 0 ≤ 1000000000)
    (hI : ∀ g i, i < tN A 1 0 → tI A' g i = tI A g i) (hR : ∀ i, i < tN A 1 0 → tR A' 410 i = tR A 410 i)
    (hE : tW A' = tW A ∧ tK A' = tK A ∧ tM A' = tM A ∧ tO A' = tO A ∧ tF A' = tF A)
    (h5 : ∀ i, i < tN A 1 0 → tN A 5 i ≠ 3 → tN A' 5 i = tN A 5 i) (h7 : ∀ m, m < tN A 901 0 → tN A' 7 m = tN A 7 m ∧ tN A' 8 m = tN A 8 m) (h51 : ∀ i, i < tN A 1 0 → tN A 5 i = 0 → tN A' 5 i = 0)
    (h6 : ∀ i, i < tN A 1 0 → tN A 5 i ≠ 0 → tN A 6 (hv A 405 i) = i → tN A' 6 (hv A 405 i) = i) (hR2 : ∀ d, tR A' 410 (tN A 1 0) = some d → d < tN A 1 0) (hq : Hq A' c' (tN A 1 0)) : Iv P z c' A' := by
  obtain ⟨a1, a2, a3, a4, a5, a6⟩ := h
  obtain ⟨e1, e2, e3, e4, e5⟩ := hE
  refine ⟨a1.mv e1 e2 (by omega) (fun i p hi hp hp1 => h5 p hp (by omega)), a2.mv e5 (by omega) hR (fun i i1 i2 d hd => ?_), fun i hi => ?_, a4.mv a1 e5 e1 e2 e3 e4 (by omega) h9 (fun p hp hp1 => by rw [h5 p hp (by omega)]; exact hp1) (fun i p _ hp _ => ⟨hI _ p hp, hI _ p hp⟩), hc2, h99⟩
  · rw [show i = tN A 1 0 by omega] at hd
    have := hR2 d hd
    omega
  · by_cases e : i < tN A 1 0
    · have hh := a3 i e
      refine hh.mv (fun g _ _ => hI g i e) (hR i e) h9 hc (h7 _ hh.2.1.1).1 (h7 _ hh.2.1.1).2 (fun q r => q (h51 i e r)) (fun q r => ?_) (fun q r s t => ?_)
      · have h0 : tN A 5 i ≠ 0 := fun x => q (h51 i e x)
        have := hh.2.2.2.2.2.1 h0 r
        rw [h6 i e h0 this]; exact this.symm
      · obtain ⟨d, d1, d2, d3⟩ := hh.2.2.2.2.2.2.1 q
        rw [h5 _ (by rw [d3]; omega) (by omega)]; exact t
    · have : i = tN A 1 0 := by omega
      rw [this]; exact hq
end IV
