/-! ===== PURE: where what lies ===== -/
/-- two worlds agree at an address -/
def ag (w w' : Wd) (a : Nat) : Prop := (∀ g, wd_I w' g a = wd_I w g a) ∧ (∀ g, wd_R w' g a = wd_R w g a) ∧ (∀ i, wd_A w' a i = wd_A w a i) ∧ (∀ i, wd_Q w' a i = wd_Q w a i) ∧ wd_N w' a = wd_N w a
theorem ag.rf (w : Wd) (a : Nat) : ag w w a := ⟨fun _ => rfl, fun _ => rfl, fun _ => rfl, fun _ => rfl, rfl⟩
theorem ag.tr {w u v : Wd} {a : Nat} (h : ag w u a) (k : ag u v a) : ag w v a :=
  ⟨fun g => (k.1 g).trans (h.1 g), fun g => (k.2.1 g).trans (h.2.1 g), fun g => (k.2.2.1 g).trans (h.2.2.1 g), fun g => (k.2.2.2.1 g).trans (h.2.2.2.1 g), k.2.2.2.2.trans h.2.2.2.2⟩
/-- the addresses of the plan at P: its tables, and the ports in them (of the world z) -/
def pl (P : Nat) (z : Wd) (a : Nat) : Prop := (P ≤ a ∧ a < P + 76) ∨ ∃ i k, i < 8 ∧ k < 4 ∧ wd_Q z (P + 5 + 9 * i) k = some a
/-- the plan of w is that of z -/
def PW (P : Nat) (z w : Wd) : Prop := ∀ a, pl P z a → ag z w a
abbrev mA (P i : Nat) : Nat := P + 4 + 9 * i
abbrev hA (T i : Nat) : Nat := T + 5 + 7 * i
/-- the plan at P is right -/
def PS (P : Nat) (z : Wd) : Prop :=
  (wd_R z 500 P = some (P + 1) ∧ wd_R z 502 P = some (P + 2) ∧ wd_R z 504 P = some (P + 3) ∧ wd_N z (P + 1) = 8 ∧ wd_N z (P + 2) = 8 ∧ wd_N z (P + 3) = 256) ∧
  (∀ i, i < 8 → wd_Q z (P + 2) i = some (mA P i) ∧ wd_R z 302 (mA P i) = some (mA P i + 1) ∧ wd_R z 304 (mA P i) = some (mA P i + 2) ∧ wd_R z 305 (mA P i) = some (mA P i + 3) ∧ wd_R z 306 (mA P i) = some (mA P i + 4) ∧ wd_R z 308 (mA P i) = some (mA P i + 5) ∧ wd_R z 310 (mA P i) = some (mA P i + 6) ∧ wd_R z 311 (mA P i) = some (mA P i + 7) ∧ wd_R z 312 (mA P i) = some (mA P i + 8)) ∧
  (∀ i, i < 8 → wd_N z (mA P i + 1) = 4 ∧ wd_N z (mA P i + 2) = 6 ∧ wd_N z (mA P i + 3) = 6 ∧ wd_N z (mA P i + 4) = 6 ∧ wd_N z (mA P i + 5) = 2 ∧ wd_N z (mA P i + 6) = 256 ∧ wd_N z (mA P i + 7) = 256 ∧ wd_N z (mA P i + 8) = 256) ∧
  (wd_I z 501 P = 2 ∧ (∀ c, c < 2 → ∃ k, 12 ≤ k ∧ k ≤ 200 ∧ wd_A z (P + 1) c = Int32.ofNat k) ∧ ∃ k, 3 ≤ k ∧ k ≤ 8 ∧ wd_I z 503 P = Int32.ofNat k) ∧
  (∀ i, i < 8 → ∃ k, k ≤ 2 ∧ wd_I z 309 (mA P i) = Int32.ofNat k ∧ ∀ t, t < k → ∃ x, x < 256 ∧ wd_A z (mA P i + 5) t = Int32.ofNat x) ∧
  (∀ i k q, i < 8 → k < 4 → wd_Q z (mA P i + 1) k = some q → wd_I z 700 q = Int32.ofNat (4 * i + k) ∧ (wd_I z 701 q = 0 ∨ wd_I z 701 q = 1) ∧ ∃ x, x < 256 ∧ wd_I z 702 q = Int32.ofNat x ∧ wd_Q z (P + 3) x = some q) ∧
  (∀ x q, x < 256 → wd_Q z (P + 3) x = some q → ∃ i k, i < 8 ∧ k < 4 ∧ wd_Q z (mA P i + 1) k = some q ∧ wd_I z 702 q = Int32.ofNat x) ∧
  (∀ i x, i < 8 → x < 256 →
    (wd_A z (mA P i + 6) x = -1 ∧ wd_A z (mA P i + 7) x = -1 ∧ wd_A z (mA P i + 8) x = -1) ∨
    (∃ k, k ≤ 8 ∧ wd_A z (mA P i + 8) x = Int32.ofNat k) ∧
      ((wd_A z (mA P i + 6) x = -2 ∧ ∃ t, wd_A z (mA P i + 7) x = Int32.ofNat t ∧ t < 2 ∧ wd_A z (mA P i + 7) x < wd_I z 309 (mA P i)) ∨
      (∃ k q y, k < 4 ∧ wd_A z (mA P i + 6) x = Int32.ofNat k ∧ wd_Q z (mA P i + 1) k = some q ∧ y < 256 ∧ wd_A z (mA P i + 7) x = Int32.ofNat y)))
/-- the packets -/
def Sk (w : Wd) (b : Be) (A : Ta) : Prop :=
  ∀ i, i < tN A 1 0 → (∀ g, 400 ≤ g → g ≤ 409 → wd_I w g (b_pa b i) = tI A g i) ∧ wd_R w 410 (b_pa b i) = (tR A 410 i).map (b_pa b)
/-- the pool at p -/
def Sp (w : Wd) (p : Nat) (b : Be) (A : Ta) : Prop :=
  tN A 1 0 ≤ b_pn b ∧ wd_R w 600 p = (if b_pn b = 0 then none else some (b_pa b 0)) ∧ wd_R w 601 p = (if tN A 1 0 = 0 then none else some (b_pa b (tN A 1 0 - 1))) ∧
  (∀ i, i < b_pn b → wd_R w 414 (b_pa b i) = if i + 1 = b_pn b then none else some (b_pa b (i + 1)))
/-- the row at r -/
def Sr (w : Wd) (r : Nat) (b : Be) (A : Ta) : Prop :=
  ls_c (wd_R w 6) (wd_R w 800 r) (b_fl b) ∧ wd_R w 802 r = (b_fl b).getLast? ∧ ls_c (wd_R w 6) (wd_R w 803 r) (b_fs b) ∧ wd_I w 801 r = Int32.ofNat (b_fl b).length ∧
  ls_2 (fun a f => (∀ g, g < 5 → wd_I w g a = f.1 g) ∧ wd_R w 5 a = f.2.map (b_pa b)) (b_fl b) (tF A)
/-- what waits at the host h, the i'th -/
def Sw (w : Wd) (h i : Nat) (b : Be) (A : Ta) : Prop :=
  wd_I w 201 h = Int32.ofNat (tW A i).length ∧ ls_c (wd_R w 413) (wd_R w 206 h) ((tW A i).map fun e => b_pa b e.1) ∧ wd_R w 207 h = ((tW A i).map fun e => b_pa b e.1).getLast? ∧
  ∀ e, e ∈ tW A i → wd_I w 411 (b_pa b e.1) = e.2.1 ∧ wd_R w 412 (b_pa b e.1) = some e.2.2
/-- the heaps kept there -/
def Sh (w : Wd) (h i : Nat) (b : Be) (A : Ta) : Prop :=
  wd_I w 202 h = Int32.ofNat (tK A i).length ∧ (tK A i).length ≤ 3 ∧
  (∀ j, j < 3 → wd_Q w (h + 2) j = some (b_kh b i j) ∧ h + 4 ≤ b_kh b i j ∧ b_kh b i j < h + 7) ∧ (∀ j k, j < 3 → k < 3 → b_kh b i j = b_kh b i k → j = k) ∧
  ∀ j e, (tK A i)[j]? = some e → wd_I w 100 (b_kh b i j) = e.1 ∧ wd_I w 101 (b_kh b i j) = e.2.1 ∧ ls_c (wd_R w 413) (wd_R w 102 (b_kh b i j)) (e.2.2.map (b_pa b))
/-- the notes there: newest first -/
def So (w : Wd) (h i : Nat) (b : Be) (A : Ta) : Prop :=
  wd_I w 203 h = Int32.ofNat (b_ng b 203 i + (tO A i).length) ∧ b_ng b 203 i + (tO A i).length < 1073741824 ∧
  ∀ k f, k < 10 → (tO A i)[k]? = some f → ∀ x, x < 6 → wd_A w (h + 3) ((b_ng b 203 i + (tO A i).length - 1 - k) % 10 * 6 + x) = f x
/-- the host h, the i'th, of the plan at P -/
def Sj (w : Wd) (P h i : Nat) : Prop :=
  wd_R w 200 h = some (mA P i) ∧ wd_R w 205 h = some (h + 1) ∧ wd_R w 208 h = some (h + 2) ∧ wd_R w 209 h = some (h + 3) ∧ wd_N w (h + 1) = 256 ∧ wd_N w (h + 2) = 3 ∧ wd_N w (h + 3) = 60
/-- marks, and what is counted there -/
def Sm (w : Wd) (h i : Nat) (b : Be) (A : Ta) : Prop :=
  (∀ x, x < 256 → wd_A w (h + 1) x = tM A i x) ∧ wd_I w 204 h = Int32.ofNat (b_ng b 204 i + tN A 204 i)
/-- what is counted in all -/
def Sc (w : Wd) (T P : Nat) (b : Be) (A : Ta) : Prop :=
  (wd_R w 900 T = some (T + 1) ∧ wd_R w 904 T = some P ∧ wd_R w 905 T = some (T + 2) ∧ wd_R w 906 T = some (T + 3) ∧ wd_R w 907 T = some (T + 4) ∧ wd_N w (T + 3) = 8 ∧ wd_N w (T + 4) = 8 ∧ ∀ i, i < 8 → wd_Q w (T + 3) i = some (hA T i)) ∧
  wd_I w 901 T = Int32.ofNat (tN A 901 0) ∧ wd_I w 902 T = Int32.ofNat (b_ng b 902 0 + tN A 902 0) ∧ wd_I w 903 T = Int32.ofNat (b_ng b 903 0 + tN A 903 0) ∧
  ∀ c, c < 8 → wd_A w (T + 4) c = Int32.ofNat (b_ng b 907 c + tN A 907 c)
/-- the addresses of the traffic at T -/
def Dm (T : Nat) (b : Be) (a : Nat) : Prop := (T ≤ a ∧ a < T + 61) ∨ (∃ i, i < b_pn b ∧ a = b_pa b i) ∨ a ∈ b_fl b ++ (b_fh b ++ b_fs b)
/-- how many cells it has made -/
def cn (b : Be) : Nat := b_pn b + (b_fl b ++ (b_fh b ++ b_fs b)).length
/-- addresses are apart; there is room (X packets, X frames in all) -/
def Sd (w : Wd) (P T X : Nat) (z : Wd) (b : Be) (A : Ta) : Prop :=
  P + 76 ≤ T ∧ (∀ i, i < b_pn b → T + 61 ≤ b_pa b i) ∧ (∀ a, a ∈ b_fl b ++ (b_fh b ++ b_fs b) → T + 61 ≤ a) ∧ (∀ i j, i < b_pn b → j < b_pn b → b_pa b i = b_pa b j → i = j) ∧ (b_fl b ++ (b_fh b ++ b_fs b)).Nodup ∧
  (∀ a, Dm T b a → a < wd_H w ∧ ¬ pl P z a) ∧ (∀ a, pl P z a → a < wd_H w) ∧
  (b_pn b ≤ X ∧ (b_fl b ++ (b_fh b ++ b_fs b)).length ≤ X ∧ 2 * X + 1 ≤ wd_M w + cn b ∧ 15 * (2 * X + 1) ≤ wd_S w + 15 * cn b) ∧
  (∀ a, a ∈ b_ph b → ∃ r, r < tN A 1 0 ∧ a = b_pa b r ∧ tN A 5 r = 4) ∧
  (b_fl b).length + (b_fh b).length ≤ tN A 3 0
/-- the traffic at T is A -/
def Tm (P T X : Nat) (z w : Wd) (b : Be) (A : Ta) : Prop :=
  PW P z w ∧ Sd w P T X z b A ∧ Sc w T P b A ∧ Sk w b A ∧ Sp w (T + 2) b A ∧ Sr w (T + 1) b A ∧ ∀ i, i < 8 → Sj w P (hA T i) i ∧ Sm w (hA T i) i b A ∧ Sw w (hA T i) i b A ∧ Sh w (hA T i) i b A ∧ So w (hA T i) i b A
/-- what a run leaves as it was: but the frames in the hand -/
def Rn (T : Nat) (w : Wd) (b : Be) (w' : Wd) (b' : Be) : Prop :=
  (∀ i, i < b_pn b → b_pa b' i = b_pa b i) ∧ b_pn b ≤ b_pn b' ∧ b_ng b' = b_ng b ∧ wd_H w ≤ wd_H w' ∧ (∀ a, a < wd_H w → ¬ Dm T b a → ag w w' a) ∧ (∀ a, Dm T b' a → Dm T b a ∨ wd_H w ≤ a) ∧
  wd_M w' + wd_H w' = wd_M w + wd_H w ∧ wd_H w' + cn b = wd_H w + cn b' ∧ wd_S w + 15 * cn b ≤ wd_S w' + 15 * cn b'
/-- what is held stays -/
def Rp (l : List Nat) (w w' : Wd) : Prop := ∀ a, a ∈ l → wd_I w' 411 a = wd_I w 411 a ∧ wd_R w' 412 a = wd_R w 412 a ∧ wd_R w' 413 a = wd_R w 413 a
/-- frames stay -/
def Rg (l : List Nat) (w w' : Wd) : Prop := ∀ a, a ∈ l → (∀ g, g < 5 → wd_I w' g a = wd_I w g a) ∧ wd_R w' 5 a = wd_R w 5 a
def Rk (T : Nat) (w : Wd) (b : Be) (w' : Wd) (b' : Be) : Prop := Rn T w b w' b' ∧ b_ph b' = b_ph b ∧ Rp (b_ph b) w w'
/-- what a run leaves as it was -/
def Rl (T : Nat) (w : Wd) (b : Be) (w' : Wd) (b' : Be) : Prop := Rk T w b w' b' ∧ b_fh b' = b_fh b ∧ Rg (b_fh b) w w'
theorem Rp.rf (l : List Nat) (w : Wd) : Rp l w w := fun _ _ => ⟨rfl, rfl, rfl⟩
theorem Rg.rf (l : List Nat) (w : Wd) : Rg l w w := fun _ _ => ⟨fun _ _ => rfl, rfl⟩
theorem Rp.tr {l : List Nat} {w u v : Wd} (h : Rp l w u) (k : Rp l u v) : Rp l w v := fun a ha => ⟨(k a ha).1.trans (h a ha).1, (k a ha).2.1.trans (h a ha).2.1, (k a ha).2.2.trans (h a ha).2.2⟩
theorem Rg.tr {l : List Nat} {w u v : Wd} (h : Rg l w u) (k : Rg l u v) : Rg l w v := fun a ha => ⟨fun g hg => ((k a ha).1 g hg).trans ((h a ha).1 g hg), (k a ha).2.trans (h a ha).2⟩
theorem Rn.rf (T : Nat) (w : Wd) (b : Be) : Rn T w b w b := ⟨fun _ _ => rfl, Nat.le_refl _, rfl, Nat.le_refl _, fun _ _ _ => ag.rf _ _, fun _ h => Or.inl h, rfl, rfl, Nat.le_refl _⟩
theorem Rn.tr {T : Nat} {w u v : Wd} {b c d : Be} (h : Rn T w b u c) (k : Rn T u c v d) : Rn T w b v d := by
  obtain ⟨h1, h2, h3, h4, h5, h6, h7, h8, h9⟩ := h
  obtain ⟨k1, k2, k3, k4, k5, k6, k7, k8, k9⟩ := k
  refine ⟨fun i hi => (k1 i (by omega)).trans (h1 i hi), by omega, k3.trans h3, by omega, fun a ha hn => (h5 a ha hn).tr (k5 a (by omega) fun q => ?_), fun a ha => ?_, by omega, by omega, by omega⟩
  · rcases h6 a q with q | q
    · exact hn q
    · omega
  · rcases k6 a ha with q | q
    · exact h6 a q
    · exact Or.inr (by omega)
theorem Rk.rf (T : Nat) (w : Wd) (b : Be) : Rk T w b w b := ⟨Rn.rf _ _ _, rfl, Rp.rf _ _⟩
theorem Rl.rf (T : Nat) (w : Wd) (b : Be) : Rl T w b w b := ⟨Rk.rf _ _ _, rfl, Rg.rf _ _⟩
theorem Rk.tr {T : Nat} {w u v : Wd} {b c d : Be} (h : Rk T w b u c) (k : Rk T u c v d) : Rk T w b v d := ⟨h.1.tr k.1, k.2.1.trans h.2.1, h.2.2.tr (h.2.1 ▸ k.2.2)⟩
theorem Rl.tr {T : Nat} {w u v : Wd} {b c d : Be} (h : Rl T w b u c) (k : Rl T u c v d) : Rl T w b v d := ⟨h.1.tr k.1, k.2.1.trans h.2.1, h.2.2.tr (h.2.1 ▸ k.2.2)⟩
theorem Rl.pa {T : Nat} {w w' : Wd} {b b' : Be} (h : Rl T w b w' b') {i : Nat} (hi : i < b_pn b) : b_pa b' i = b_pa b i := h.1.1.1 i hi
/-- where tags are changed of what is not held -/
theorem Tm.tag {P T X : Nat} {z w : Wd} {b : Be} {A : Ta} (h : Tm P T X z w b A) {p v : Nat} (hp : tN A 5 p ≠ 4) : Tm P T X z w b (uN A 5 p v) := by
  obtain ⟨h1, ⟨d1, d2, d3, d4, d5, d6, d7, d8, d9, d10⟩, h3⟩ := h
  refine ⟨h1, ⟨d1, d2, d3, d4, d5, d6, d7, d8, fun a ha => ?_, d10⟩, h3⟩
  obtain ⟨r, r1, r2, r3⟩ := d9 a ha
  refine ⟨r, r1, r2, ?_⟩
  have hne : ¬ (5 = 5 ∧ r = p) := by
    intro q
    rw [q.2] at r3
    exact hp r3
  rw [tN_uN, if_neg hne]; exact r3
theorem Tm.tagf {P T X : Nat} {z w : Wd} {b : Be} {A : Ta} (h : Tm P T X z w b A) {f : Nat → Nat} (hf : ∀ r, tN A 5 r = 4 → f r = 4) : Tm P T X z w b (uNf A 5 f) := by
  obtain ⟨h1, ⟨d1, d2, d3, d4, d5, d6, d7, d8, d9, d10⟩, h3⟩ := h
  refine ⟨h1, ⟨d1, d2, d3, d4, d5, d6, d7, d8, fun a ha => ?_, d10⟩, h3⟩
  obtain ⟨r, r1, r2, r3⟩ := d9 a ha
  refine ⟨r, r1, r2, ?_⟩
  rw [tN_uNf, if_pos rfl]; exact hf r r3
theorem Tm.g6 {P T X : Nat} {z w : Wd} {b : Be} {A : Ta} (h : Tm P T X z w b A) (i v : Nat) : Tm P T X z w b (uN A 6 i v) := h
theorem Tm.g7 {P T X : Nat} {z w : Wd} {b : Be} {A : Ta} (h : Tm P T X z w b A) (i v : Nat) : Tm P T X z w b (uN A 7 i v) := h
theorem Tm.g8 {P T X : Nat} {z w : Wd} {b : Be} {A : Ta} (h : Tm P T X z w b A) (i v : Nat) : Tm P T X z w b (uN A 8 i v) := h
/-- a header's field, as a number -/
def hv (A : Ta) (g i : Nat) : Nat := (tI A g i).toNatClampNeg
