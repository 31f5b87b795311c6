/-! ===== PURE: complained, wrapped, and the invariant ===== -/
section CO
variable {P T X i j n c : Nat} {z w u : Wd} {b : Be} {A A' : Ta}
theorem pov_P {x : Int32} {q : Nat} (hi : i < 8) (h : pov P z i x = some q) : ∃ k, Pq P z i k q ∧ x = Int32.ofNat k := by
  obtain ⟨k, h1, h2, h3⟩ := pov_q h
  exact ⟨k, ⟨hi, h1, h3⟩, h2⟩
theorem Pq.ad (hz : PS P z) {k q : Nat} (h : Pq P z i k q) : ∃ x, x < 256 ∧ wd_I z 702 q = Int32.ofNat x ∧ wd_Q z (P + 3) x = some q := by
  obtain ⟨-, -, x, x1, x2, x3⟩ := hz.2.2.2.2.2.1 i k q h.1 h.2.1 h.2.2
  exact ⟨x, x1, x2, x3⟩
theorem Pq.mk (hz : PS P z) {k q : Nat} (h : Pq P z i k q) : wd_I z 700 q = Int32.ofNat (4 * i + k) := (hz.2.2.2.2.2.1 i k q h.1 h.2.1 h.2.2).1
theorem Pq.pl {k q : Nat} (h : Pq P z i k q) : pl P z q := pl_q h.1 h.2.1 h.2.2
theorem soV_ok (hz : PS P z) (hi : i < 8) {x : Nat} (hx : x < 256) (h : 0 ≤ soV P z i (Int32.ofNat x)) : ∃ y, y < 256 ∧ soV P z i (Int32.ofNat x) = Int32.ofNat y := by
  unfold soV at *
  by_cases c1 : owv P z i (Int32.ofNat x) = true
  · rw [if_pos c1]; exact ⟨x, hx, rfl⟩
  · rw [if_neg c1] at h ⊢
    cases hs : soP P z i (Int32.ofNat x) with
    | none => rw [hs] at h; exact absurd (show (0 : Int32) ≤ -1 from h) (by decide)
    | some q =>
      unfold soP at hs
      obtain ⟨k, k1, -⟩ := pov_P hi hs
      obtain ⟨y, y1, y2, -⟩ := k1.ad hz
      exact ⟨y, y1, y2⟩
theorem co_ok (h : Iv P z c A) (hz : PS P z) (hj : j < 8) {p k a : Nat} (hp : p < tN A 1 0) (hk3 : 3 ≤ k) (hk5 : k ≤ 5) (ha : a ≤ 200) (ha5 : k = 5 → 12 ≤ a) (h9 : tN A 901 0 + 1 ≤ 1000000000) :
    Iv P z c (coF P z A j p (Int32.ofNat k) (Int32.ofNat a)).2 ∧ Cs A (coF P z A j p (Int32.ofNat k) (Int32.ofNat a)).2 1 0 0 1 ∧ tN A 204 j + 1 ≤ tN (coF P z A j p (Int32.ofNat k) (Int32.ofNat a)).2 204 j ∧ tW (coF P z A j p (Int32.ofNat k) (Int32.ofNat a)).2 = tW A ∧ tO (coF P z A j p (Int32.ofNat k) (Int32.ofNat a)).2 = tO A ∧
    (∀ x, x < tN A 1 0 → tN (coF P z A j p (Int32.ofNat k) (Int32.ofNat a)).2 5 x = tN A 5 x) ∧
    (∀ q, (coF P z A j p (Int32.ofNat k) (Int32.ofNat a)).1 = some q → isC (tI A 400 p) = false ∧ q = tN A 1 0 ∧ q < tN (coF P z A j p (Int32.ofNat k) (Int32.ofNat a)).2 1 0 ∧ tN (coF P z A j p (Int32.ofNat k) (Int32.ofNat a)).2 5 q = 3 ∧ tI (coF P z A j p (Int32.ofNat k) (Int32.ofNat a)).2 400 q = Int32.ofNat k ∧ tI (coF P z A j p (Int32.ofNat k) (Int32.ofNat a)).2 403 q = 0) := by
  unfold coF
  have hG := h.gone j (tN A 204 j + 1)
  have cG := Cs.gone (A := A) j
  have g1 : tN A 204 j + 1 ≤ tN (uN A 204 j (tN A 204 j + 1)) 204 j := by rw [tN_uN, if_pos ⟨rfl, rfl⟩]; omega
  have g2 : tW (uN A 204 j (tN A 204 j + 1)) = tW A := tW_uN _ _ _ _
  have g3 : tO (uN A 204 j (tN A 204 j + 1)) = tO A := tO_uN _ _ _ _
  have g4 : ∀ g, g ≠ 204 → ∀ x, tN (uN A 204 j (tN A 204 j + 1)) g x = tN A g x := fun g hg x => by rw [tN_uN, if_neg (fun q => hg q.1)]
  have g5 : tI (uN A 204 j (tN A 204 j + 1)) = tI A := tI_uN _ _ _ _
  rw [← g5, ← g4 1 (by omega) 0]
  have hp' : p < tN (uN A 204 j (tN A 204 j + 1)) 1 0 := by rw [g4 1 (by omega) 0]; exact hp
  have h9' : tN (uN A 204 j (tN A 204 j + 1)) 901 0 + 1 ≤ 1000000000 := by rw [g4 901 (by omega) 0]; exact h9
  have g6 : ∀ x, tN (uN A 204 j (tN A 204 j + 1)) 5 x = tN A 5 x := fun x => g4 5 (by omega) x
  generalize uN A 204 j (tN A 204 j + 1) = B at *
  obtain ⟨a1, ⟨-, -, -, a5, -⟩, -⟩ := hG.2.2.1 p hp'
  unfold coG
  by_cases c1 : isC (tI B 400 p) = true ∨ tI B 407 p ≠ 0
  · rw [if_pos c1]
    exact ⟨hG, cG.le (by omega) (by omega) (by omega) (by omega), g1, g2, g3, fun x _ => g6 x, fun q hq => by cases hq⟩
  rw [if_neg c1]
  by_cases c2 : 0 ≤ soV P z j (tI B 401 p)
  · rw [if_pos c2]
    have c2' := c2
    rw [a1 401 (by omega) (by omega)] at c2'
    obtain ⟨y, y1, y2⟩ := soV_ok hz hj a5 c2'
    rw [← a1 401 (by omega) (by omega)] at y2
    dsimp only
    unfold cmA
    have eI : ∀ g, g ≠ 406 → g ≠ 408 → tI (uI (uI (brA B (Int32.ofNat k) (soV P z j (tI B 401 p)) (tI B 401 p) 0) 408 (tN B 1 0) 1) 406 (tN B 1 0) (Int32.ofNat a)) g (tN B 1 0) = hdB (Int32.ofNat k) (soV P z j (tI B 401 p)) (tI B 401 p) 0 (Int32.ofNat (tN B 901 0)) g := fun g hg hg2 => by
      rw [tI_uI, if_neg (fun q => hg q.1), tI_uI, if_neg (fun q => hg2 q.1), br_I, if_pos rfl]
    obtain ⟨l1, l2, l3, l4, l5⟩ := br_L (A := B) (k := Int32.ofNat k) (f := soV P z j (tI B 401 p)) (t := tI B 401 p) (s := 0)
    have eNN : tN (uI (uI (brA B (Int32.ofNat k) (soV P z j (tI B 401 p)) (tI B 401 p) 0) 408 (tN B 1 0) 1) 406 (tN B 1 0) (Int32.ofNat a)) = tN (brA B (Int32.ofNat k) (soV P z j (tI B 401 p)) (tI B 401 p) 0) := by rw [tN_uI, tN_uI]
    have eN : ∀ g x, tN (uI (uI (brA B (Int32.ofNat k) (soV P z j (tI B 401 p)) (tI B 401 p) 0) 408 (tN B 1 0) 1) 406 (tN B 1 0) (Int32.ofNat a)) g x = _ := fun g x => (congrFun (congrFun eNN g) x).trans br_N
    refine ⟨?_, (cG.tr (Cs.br eNN (by rw [tO_uI, tO_uI]; exact l4) (by rw [tM_uI, tM_uI]; exact l3))).le (by omega) (by omega) (by omega) (by omega), ?_, ?_, ?_, fun x hx => ?_, fun q hq => ?_⟩
    · refine hG.born (k := k) (f := y) (t := hv B 401 p) (s := 0) (tt := 32) (a := a) (v := 1) ⟨_, rfl, eNN, by rw [tR_uI, tR_uI], by rw [tW_uI, tW_uI], by rw [tK_uI, tK_uI], by rw [tM_uI, tM_uI], by rw [tO_uI, tO_uI], by rw [tF_uI, tF_uI], fun g x hx => by rw [tI_uI, if_neg (fun q => hx q.2), tI_uI, if_neg (fun q => hx q.2)]⟩ h9' ?_ ?_ ?_ ?_ ?_ ?_ ?_ ?_ ?_ ?_ hk5 y1 a5 (by omega) (by omega) (by omega) (by omega) (by omega) (fun _ _ => rfl) (fun q => ⟨ha5 q, ha⟩)
      · rw [eI _ (by omega) (by omega)]; rfl
      · rw [eI _ (by omega) (by omega)]; exact y2
      · rw [eI _ (by omega) (by omega)]; exact a1 401 (by omega) (by omega)
      · rw [eI _ (by omega) (by omega)]; rfl
      · rw [eI _ (by omega) (by omega)]; rfl
      · rw [eI _ (by omega) (by omega)]; rfl
      · rw [tI_uI, if_pos ⟨rfl, rfl⟩]
      · rw [eI _ (by omega) (by omega)]; rfl
      · rw [tI_uI, if_neg (by omega), tI_uI, if_pos ⟨rfl, rfl⟩]; rfl
      · rw [eI _ (by omega) (by omega)]; rfl
    · rw [eN, if_neg (by omega), if_neg (by omega), if_neg (by omega), if_neg (by omega), if_neg (by omega)]; exact g1
    · rw [tW_uI, tW_uI]; exact l1.trans g2
    · rw [tO_uI, tO_uI]; exact l4.trans g3
    · rw [eN, if_neg (by omega), if_neg (by omega), if_neg (by omega), if_neg (by omega), if_neg (by omega)]; exact g6 x
    · have hq' : tN B 1 0 = q := Option.some.inj hq
      subst hq'
      refine ⟨by cases e : isC (tI B 400 p) with | true => exact absurd (Or.inl e) c1 | false => rfl, rfl, ?_, ?_, ?_, ?_⟩
      · rw [eN, if_neg (by omega), if_neg (by omega), if_neg (by omega), if_neg (by omega), if_pos ⟨rfl, rfl⟩]; omega
      · rw [eN, if_neg (by omega), if_neg (by omega), if_neg (by omega), if_pos ⟨rfl, rfl⟩]
      · rw [eI _ (by omega) (by omega)]; rfl
      · rw [eI _ (by omega) (by omega)]; rfl
  · rw [if_neg c2]
    exact ⟨hG, cG.le (by omega) (by omega) (by omega) (by omega), g1, g2, g3, fun x _ => g6 x, fun q hq => by cases hq⟩
theorem ptv_r {x : Int32} {v : Int32} (h : ptv P z i x = v) (hv : v ≠ -1) : ∃ y, y < 256 ∧ x = Int32.ofNat y ∧ wd_A z (mA P i + 6) y = v := by
  unfold ptv tb at h
  by_cases c1 : x < 0
  · rw [if_pos c1] at h; exact absurd h.symm hv
  rw [if_neg c1] at h
  by_cases c2 : Int32.ofNat 256 ≤ x
  · rw [if_pos c2] at h; exact absurd h.symm hv
  rw [if_neg c2] at h
  obtain ⟨k, hk, rfl⟩ := j_up (N := 256) c1 (by omega) c2
  rw [j_nn (by omega)] at h
  exact ⟨k, hk, rfl, h⟩
/-- the far of a way by a tunnel -/
theorem far_ok (hz : PS P z) (hi : i < 8) {x : Int32} (h : ptv P z i x = -2) : ∃ y, y < 256 ∧ fav P z i (hpv P z i x) = Int32.ofNat y := by
  obtain ⟨y, y1, rfl, y3⟩ := ptv_r h (by decide)
  have hp : hpv P z i (Int32.ofNat y) = wd_A z (mA P i + 7) y := tb_of y1 (by omega)
  rw [hp]
  obtain ⟨k, k1, k2, k3⟩ := hz.2.2.2.2.1 i hi
  rcases hz.2.2.2.2.2.2.2 i y hi y1 with q | ⟨-, q | q⟩
  · rw [q.1] at y3; exact absurd y3 (by decide)
  · obtain ⟨-, t, t1, t2, t3⟩ := q
    rw [t1]
    rw [t1, k2, j_lx (by omega) (by omega)] at t3
    unfold fav
    rw [if_neg (j_n0 (by omega)), if_neg (by rw [k2, j_ll (by omega) (by omega)]; omega), j_nn (by omega)]
    exact k3 t t3
  · obtain ⟨k, -, -, q1, q2, -⟩ := q
    rw [q2] at y3
    have : Int32.ofNat k = -2 := y3
    have h0 := j_n0 (k := k) (by omega)
    rw [this] at h0
    exact absurd (by decide) h0
theorem wr_ok (h : Iv P z c A) (hz : PS P z) (hi : i < 8) {p : Nat} (hp : p < tN A 1 0) (hp3 : tN A 5 p = 3) (hpt : ptv P z i (tI A 402 p) = -2) (hcw : cwP P z i (tI A 402 p) = true) (hc : c + 4 ≤ 10000) (h9 : tN A 901 0 + 1 ≤ 1000000000) :
    Iv P z (c + 4) (wrF P z A i p) ∧ Cs A (wrF P z A i p) 1 0 0 0 ∧ tN A 1 0 < tN (wrF P z A i p) 1 0 ∧ tN (wrF P z A i p) 5 (tN A 1 0) = 3 ∧ tI (wrF P z A i p) 400 (tN A 1 0) = 6 ∧ tI (wrF P z A i p) 408 (tN A 1 0) = 0 ∧ tI (wrF P z A i p) 403 (tN A 1 0) = tI A 403 p + 4 ∧
    owv P z i (tI (wrF P z A i p) 402 (tN A 1 0)) = false ∧ (pov P z i (ptv P z i (tI (wrF P z A i p) 402 (tN A 1 0)))).isSome = true ∧ tW (wrF P z A i p) = tW A ∧ tO (wrF P z A i p) = tO A := by
  obtain ⟨y, y1, y2⟩ := far_ok hz hi hpt
  have hcw2 : owv P z i (Int32.ofNat y) = false ∧ (pov P z i (ptv P z i (Int32.ofNat y))).isSome = true := by
    unfold cwP at hcw
    rw [y2] at hcw
    simpa using hcw
  have hso : ∃ x, x < 256 ∧ soV P z i (Int32.ofNat y) = Int32.ofNat x := by
    unfold soV
    rw [if_neg (by rw [hcw2.1]; decide)]
    obtain ⟨q, hq⟩ := Option.isSome_iff_exists.mp hcw2.2
    have hne : ptv P z i (Int32.ofNat y) ≠ -2 := fun e => by rw [e] at hq; cases hq
    have : soP P z i (Int32.ofNat y) = some q := by
      unfold soP
      rw [if_neg hne]; exact hq
    rw [this]
    obtain ⟨k, k1, -⟩ := pov_P hi hq
    obtain ⟨x, x1, x2, -⟩ := k1.ad hz
    exact ⟨x, x1, x2⟩
  obtain ⟨x, x1, x2⟩ := hso
  have hh := h.2.2.1 p hp
  obtain ⟨a1, ⟨a2, a3, a4, a5, a6, a7, a8, a9, a10⟩, a11, a12, a13, a14, a15, a16⟩ := hh
  unfold wrF
  rw [y2, x2]
  have e403 : tI A 403 p + 4 = Int32.ofNat (hv A 403 p + 4) := by rw [a1 403 (by omega) (by omega)]; exact j_ad _ 4
  obtain ⟨l1, l2, l3, l4, l5⟩ := br_L (A := A) (k := 6) (f := Int32.ofNat x) (t := Int32.ofNat y) (s := tI A 403 p + 4)
  have eI : ∀ g r, tI (uN (uN (uR (brA A 6 (Int32.ofNat x) (Int32.ofNat y) (tI A 403 p + 4)) 410 (tN A 1 0) (some p)) 8 (tN A 901 0) p) 5 p (100 + tN A 901 0)) g r = if r = tN A 1 0 then hdB 6 (Int32.ofNat x) (Int32.ofNat y) (tI A 403 p + 4) (Int32.ofNat (tN A 901 0)) g else tI A g r := fun g r => by rw [tI_uN, tI_uN, tI_uR, br_I]
  have eR : ∀ r, tR (uN (uN (uR (brA A 6 (Int32.ofNat x) (Int32.ofNat y) (tI A 403 p + 4)) 410 (tN A 1 0) (some p)) 8 (tN A 901 0) p) 5 p (100 + tN A 901 0)) 410 r = if r = tN A 1 0 then some p else tR A 410 r := fun r => by
    rw [tR_uN, tR_uN, tR_uR, br_R]
    by_cases e : r = tN A 1 0
    · rw [if_pos ⟨rfl, e⟩, if_pos e]
    · rw [if_neg (fun q => e q.2), if_neg e, if_neg e]
  have eN : ∀ g r, tN (uN (uN (uR (brA A 6 (Int32.ofNat x) (Int32.ofNat y) (tI A 403 p + 4)) 410 (tN A 1 0) (some p)) 8 (tN A 901 0) p) 5 p (100 + tN A 901 0)) g r = if g = 5 ∧ r = p then 100 + tN A 901 0 else if g = 8 ∧ r = tN A 901 0 then p else if g = 901 ∧ r = 0 then tN A 901 0 + 1 else if g = 7 ∧ r = tN A 901 0 then 6 else if g = 6 ∧ r = tN A 901 0 then tN A 1 0 else if g = 5 ∧ r = tN A 1 0 then 3 else if g = 1 ∧ r = 0 then tN A 1 0 + 1 else tN A g r := fun g r => by rw [tN_uN, tN_uN, tN_uR, br_N]; rfl
  have eL : tW (uN (uN (uR (brA A 6 (Int32.ofNat x) (Int32.ofNat y) (tI A 403 p + 4)) 410 (tN A 1 0) (some p)) 8 (tN A 901 0) p) 5 p (100 + tN A 901 0)) = tW A ∧ tK (uN (uN (uR (brA A 6 (Int32.ofNat x) (Int32.ofNat y) (tI A 403 p + 4)) 410 (tN A 1 0) (some p)) 8 (tN A 901 0) p) 5 p (100 + tN A 901 0)) = tK A ∧ tM (uN (uN (uR (brA A 6 (Int32.ofNat x) (Int32.ofNat y) (tI A 403 p + 4)) 410 (tN A 1 0) (some p)) 8 (tN A 901 0) p) 5 p (100 + tN A 901 0)) = tM A ∧ tO (uN (uN (uR (brA A 6 (Int32.ofNat x) (Int32.ofNat y) (tI A 403 p + 4)) 410 (tN A 1 0) (some p)) 8 (tN A 901 0) p) 5 p (100 + tN A 901 0)) = tO A ∧ tF (uN (uN (uR (brA A 6 (Int32.ofNat x) (Int32.ofNat y) (tI A 403 p + 4)) 410 (tN A 1 0) (some p)) 8 (tN A 901 0) p) 5 p (100 + tN A 901 0)) = tF A :=
    ⟨by rw [tW_uN, tW_uN, tW_uR]; exact l1, by rw [tK_uN, tK_uN, tK_uR]; exact l2, by rw [tM_uN, tM_uN, tM_uR]; exact l3, by rw [tO_uN, tO_uN, tO_uR]; exact l4, by rw [tF_uN, tF_uN, tF_uR]; exact l5⟩
  generalize uN (uN (uR (brA A 6 (Int32.ofNat x) (Int32.ofNat y) (tI A 403 p + 4)) 410 (tN A 1 0) (some p)) 8 (tN A 901 0) p) 5 p (100 + tN A 901 0) = B at *
  have hN1 : tN B 1 0 = tN A 1 0 + 1 := by rw [eN, if_neg (by omega), if_neg (by omega), if_neg (by omega), if_neg (by omega), if_neg (by omega), if_neg (by omega), if_pos ⟨rfl, rfl⟩]
  have hN9 : tN B 901 0 = tN A 901 0 + 1 := by rw [eN, if_neg (by omega), if_neg (by omega), if_pos ⟨rfl, rfl⟩]
  have hO : ∀ g, g ≠ 5 → g ≠ 8 → g ≠ 901 → g ≠ 7 → g ≠ 6 → g ≠ 1 → ∀ r, tN B g r = tN A g r := fun g h1 h2 h3 h4 h5 h6 r => by rw [eN, if_neg (by omega), if_neg (by omega), if_neg (by omega), if_neg (by omega), if_neg (by omega), if_neg (by omega), if_neg (by omega)]
  have h5N : tN B 5 (tN A 1 0) = 3 := by rw [eN, if_neg (by omega), if_neg (by omega), if_neg (by omega), if_neg (by omega), if_neg (by omega), if_pos ⟨rfl, rfl⟩]
  have h5o : ∀ r, r < tN A 1 0 → r ≠ p → tN B 5 r = tN A 5 r := fun r h1 h2 => by rw [eN, if_neg (by omega), if_neg (by omega), if_neg (by omega), if_neg (by omega), if_neg (by omega), if_neg (by omega), if_neg (by omega)]
  have h5p : tN B 5 p = 100 + tN A 901 0 := by rw [eN, if_pos ⟨rfl, rfl⟩]
  have hL : ∀ g m, (g = 6 ∨ g = 7 ∨ g = 8) → m < tN A 901 0 → tN B g m = tN A g m := fun g m hg hm => by rw [eN, if_neg (by omega), if_neg (by omega), if_neg (by omega), if_neg (by omega), if_neg (by omega), if_neg (by omega), if_neg (by omega)]
  have eH : ∀ g, tI B g (tN A 1 0) = hdB 6 (Int32.ofNat x) (Int32.ofNat y) (tI A 403 p + 4) (Int32.ofNat (tN A 901 0)) g := fun g => by rw [eI, if_pos rfl]
  refine ⟨?_, ⟨by omega, by omega, by rw [hO 3 (by omega) (by omega) (by omega) (by omega) (by omega) (by omega)]; omega, by omega, by omega, fun r => by rw [eL.2.2.2.1]; omega, fun r => by rw [hO 204 (by omega) (by omega) (by omega) (by omega) (by omega) (by omega)]; omega, ⟨hO 902 (by omega) (by omega) (by omega) (by omega) (by omega) (by omega) 0, hO 903 (by omega) (by omega) (by omega) (by omega) (by omega) (by omega) 0, hO 907 (by omega) (by omega) (by omega) (by omega) (by omega) (by omega)⟩, eL.2.2.1⟩, by omega, h5N, ?_, ?_, ?_, ?_, ?_, eL.1, eL.2.2.2.1⟩
  · refine h.new (by omega) hc hN1 (by omega) (by omega) (fun g r hr => by rw [eI, if_neg (by omega)]) (fun r hr => by rw [eR, if_neg (by omega)]) eL (fun r hr h3 => h5o r hr (fun e => h3 (by rw [e]; exact hp3))) (fun m hm => ⟨hL 7 m (by omega) hm, hL 8 m (by omega) hm⟩) (fun r hr h0 => by rw [h5o r hr (fun e => by rw [e] at h0; omega)]; exact h0) (fun r hr _ h6 => by rw [hL 6 _ (by omega) (h.2.2.1 r hr).2.1.1]; exact h6) (fun d hd => ?_) ?_
    · rw [eR, if_pos rfl] at hd; rw [← Option.some.inj hd]; exact hp
    · refine Hq.mk (k := 6) (f := x) (t := y) (s := hv A 403 p + 4) (tt := 32) (m := tN A 901 0) (a := 0) (l := 0) (v := 0) (o := 0) (eH 400) (eH 401) (eH 402) ((eH 403).trans e403) (eH 404) (eH 405) (eH 406) (eH 407) (eH 408) (eH 409) (by omega) (by omega) (by omega) ?_ x1 y1 (by omega) hc (by omega) (by omega) (by omega) (by omega) (fun q => by omega) (fun q => by omega) (fun _ => by omega) (fun _ _ => ?_) (fun _ => ⟨p, by rw [eR, if_pos rfl], hp, ?_⟩) (fun _ _ _ => ?_)
      · rw [eN, if_neg (by omega), if_neg (by omega), if_neg (by omega), if_pos ⟨rfl, rfl⟩]
      · rw [eN, if_neg (by omega), if_neg (by omega), if_neg (by omega), if_neg (by omega), if_pos ⟨rfl, rfl⟩]
      · rw [eN, if_neg (by omega), if_pos ⟨rfl, rfl⟩]
      · have : tN B 8 (tN A 901 0) = p := by rw [eN, if_neg (by omega), if_pos ⟨rfl, rfl⟩]
        rw [this]; exact h5p
  · exact eH 400
  · exact eH 408
  · exact eH 403
  · rw [eH 402]; exact hcw2.1
  · rw [eH 402]; exact hcw2.2
end CO
