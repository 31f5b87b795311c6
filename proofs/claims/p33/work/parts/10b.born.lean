/-! ===== PURE: packets born, and the invariant ===== -/
section BO
variable {P T X i j n c : Nat} {z w u : Wd} {b : Be} {A A' : Ta}
theorem hv_lt (A : Ta) (g i : Nat) : hv A g i < 2147483648 := by
  unfold hv
  rw [j_tn]
  have := Int32.toInt_lt (tI A g i)
  omega
theorem Hq.mk {k f t s tt m a l v o : Nat} (e0 : tI A 400 i = Int32.ofNat k) (e1 : tI A 401 i = Int32.ofNat f) (e2 : tI A 402 i = Int32.ofNat t) (e3 : tI A 403 i = Int32.ofNat s) (e4 : tI A 404 i = Int32.ofNat tt) (e5 : tI A 405 i = Int32.ofNat m) (e6 : tI A 406 i = Int32.ofNat a) (e7 : tI A 407 i = Int32.ofNat l) (e8 : tI A 408 i = Int32.ofNat v) (e9 : tI A 409 i = Int32.ofNat o)
    (hm : m < tN A 901 0) (h9 : tN A 901 0 ≤ 1000000000) (hk : k ≤ 6) (h7 : tN A 7 m = k) (hf : f < 256) (ht : t < 256) (hls : l + s ≤ c) (hc : c ≤ 10000) (hw : v ≤ 1) (ho : o ≤ 1) (htt : tt ≤ 40) (ha : a < 2147483648)
    (hcp : 3 ≤ k → k ≤ 5 → s = 0 ∧ l = 0 ∧ o = 0) (h5 : k = 5 → 12 ≤ a ∧ a ≤ 200) (htl : tN A 5 i ≠ 0 → 1 ≤ tt) (h6 : tN A 5 i ≠ 0 → l = 0 → tN A 6 m = i) (hin : k = 6 → ∃ d, tR A 410 i = some d ∧ d < i ∧ tN A 8 m = d) (htg : k = 6 → tN A 5 i ≠ 0 → l = 0 → tN A 5 (tN A 8 m) = 100 + m) : Hq A c i := by
  have v0 : hv A 400 i = k := by unfold hv; rw [e0, j_nn (by omega)]
  have v1 : hv A 401 i = f := by unfold hv; rw [e1, j_nn (by omega)]
  have v2 : hv A 402 i = t := by unfold hv; rw [e2, j_nn (by omega)]
  have v3 : hv A 403 i = s := by unfold hv; rw [e3, j_nn (by omega)]
  have v4 : hv A 404 i = tt := by unfold hv; rw [e4, j_nn (by omega)]
  have v5 : hv A 405 i = m := by unfold hv; rw [e5, j_nn (by omega)]
  have v6 : hv A 406 i = a := by unfold hv; rw [e6, j_nn (by omega)]
  have v7 : hv A 407 i = l := by unfold hv; rw [e7, j_nn (by omega)]
  have v8 : hv A 408 i = v := by unfold hv; rw [e8, j_nn (by omega)]
  have v9 : hv A 409 i = o := by unfold hv; rw [e9, j_nn (by omega)]
  refine ⟨fun g g1 g2 => ?_, ?_⟩
  · have : g = 400 ∨ g = 401 ∨ g = 402 ∨ g = 403 ∨ g = 404 ∨ g = 405 ∨ g = 406 ∨ g = 407 ∨ g = 408 ∨ g = 409 := by omega
    rcases this with rfl | rfl | rfl | rfl | rfl | rfl | rfl | rfl | rfl | rfl
    · rw [v0]; exact e0
    · rw [v1]; exact e1
    · rw [v2]; exact e2
    · rw [v3]; exact e3
    · rw [v4]; exact e4
    · rw [v5]; exact e5
    · rw [v6]; exact e6
    · rw [v7]; exact e7
    · rw [v8]; exact e8
    · rw [v9]; exact e9
  · rw [v0, v1, v2, v3, v4, v5, v6, v7, v8, v9]
    exact ⟨⟨hm, hk, h7, hf, ht, hls, hw, ho, htt⟩, hcp, h5, htl, h6, hin, htg⟩
theorem br_I {k f t s : Int32} {g x : Nat} : tI (brA A k f t s) g x = if x = tN A 1 0 then hdB k f t s (Int32.ofNat (tN A 901 0)) g else tI A g x := by
  unfold brA
  rw [tI_uN, tI_uN, tI_uN, tI_uN]
  rfl
theorem br_R {k f t s : Int32} {x : Nat} : tR (brA A k f t s) 410 x = if x = tN A 1 0 then none else tR A 410 x := by
  unfold brA
  rw [tR_uN, tR_uN, tR_uN, tR_uN]
  rfl
theorem br_N {k f t s : Int32} {g x : Nat} : tN (brA A k f t s) g x = if g = 901 ∧ x = 0 then tN A 901 0 + 1 else if g = 7 ∧ x = tN A 901 0 then k.toNatClampNeg else if g = 6 ∧ x = tN A 901 0 then tN A 1 0 else if g = 5 ∧ x = tN A 1 0 then 3 else if g = 1 ∧ x = 0 then tN A 1 0 + 1 else tN A g x := by
  unfold brA
  rw [tN_uN, tN_uN, tN_uN, tN_uN, nw_N]
theorem br_L {k f t s : Int32} : tW (brA A k f t s) = tW A ∧ tK (brA A k f t s) = tK A ∧ tM (brA A k f t s) = tM A ∧ tO (brA A k f t s) = tO A ∧ tF (brA A k f t s) = tF A := by
  unfold brA
  refine ⟨?_, ?_, ?_, ?_, ?_⟩
  · rw [tW_uN, tW_uN, tW_uN, tW_uN]; rfl
  · rw [tK_uN, tK_uN, tK_uN, tK_uN]; rfl
  · rw [tM_uN, tM_uN, tM_uN, tM_uN]; rfl
  · rw [tO_uN, tO_uN, tO_uN, tO_uN]; rfl
  · rw [tF_uN, tF_uN, tF_uN, tF_uN]; rfl
/-- born, its header written: neither a kind 5 without its number nor wrapped -/
theorem Iv.born (h : Iv P z c A) {B : Ta} {k f t s tt a v : Nat} {f0 t0 s0 : Int32} (hB : ∃ D, D = brA A (Int32.ofNat k) f0 t0 s0 ∧ tN B = tN D ∧ tR B = tR D ∧ tW B = tW D ∧ tK B = tK D ∧ tM B = tM D ∧ tO B = tO D ∧ tF B = tF D ∧ ∀ g x, x ≠ tN A 1 0 → tI B g x = tI D g x)
    (h9 : tN A 901 0 + 1 ≤ 1000000000) (e0 : tI B 400 (tN A 1 0) = Int32.ofNat k) (e1 : tI B 401 (tN A 1 0) = Int32.ofNat f) (e2 : tI B 402 (tN A 1 0) = Int32.ofNat t) (e3 : tI B 403 (tN A 1 0) = Int32.ofNat s) (e4 : tI B 404 (tN A 1 0) = Int32.ofNat tt) (e5 : tI B 405 (tN A 1 0) = Int32.ofNat (tN A 901 0)) (e6 : tI B 406 (tN A 1 0) = Int32.ofNat a) (e7 : tI B 407 (tN A 1 0) = 0) (e8 : tI B 408 (tN A 1 0) = Int32.ofNat v) (e9 : tI B 409 (tN A 1 0) = 0)
    (hk : k ≤ 5) (hf : f < 256) (ht : t < 256) (hs : s ≤ c) (hw : v ≤ 1) (htt : tt ≤ 40) (htt1 : 1 ≤ tt) (ha : a < 2147483648) (hcp : 3 ≤ k → k ≤ 5 → s = 0) (h5 : k = 5 → 12 ≤ a ∧ a ≤ 200) : Iv P z c B := by
  obtain ⟨D, hD, b1, b2, b3, b4, b5, b6, b7, b8⟩ := hB
  subst hD
  obtain ⟨l1, l2, l3, l4, l5⟩ := br_L (A := A) (k := Int32.ofNat k) (f := f0) (t := t0) (s := s0)
  have hN1 : tN B 1 0 = tN A 1 0 + 1 := by rw [b1, br_N, if_neg (by omega), if_neg (by omega), if_neg (by omega), if_neg (by omega), if_pos ⟨rfl, rfl⟩]
  have hN9 : tN B 901 0 = tN A 901 0 + 1 := by rw [b1, br_N, if_pos ⟨rfl, rfl⟩]
  refine h.new (Nat.le_refl _) h.2.2.2.2.1 hN1 (by omega) (by omega) (fun g i hi => ?_) (fun i hi => ?_) ⟨b3.trans l1, b4.trans l2, b5.trans l3, b6.trans l4, b7.trans l5⟩ (fun i hi _ => ?_) (fun m hm => ⟨?_, ?_⟩) (fun i hi h0 => ?_) (fun i hi h0 h6 => ?_) (fun d hd => ?_) ?_
  · rw [b8 g i (by omega), br_I, if_neg (by omega)]
  · rw [b2, br_R, if_neg (by omega)]
  · rw [b1, br_N, if_neg (by omega), if_neg (by omega), if_neg (by omega), if_neg (by omega), if_neg (by omega)]
  · rw [b1, br_N, if_neg (by omega), if_neg (by omega), if_neg (by omega), if_neg (by omega), if_neg (by omega)]
  · rw [b1, br_N, if_neg (by omega), if_neg (by omega), if_neg (by omega), if_neg (by omega), if_neg (by omega)]
  · rw [b1, br_N, if_neg (by omega), if_neg (by omega), if_neg (by omega), if_neg (by omega), if_neg (by omega)]; exact h0
  · have := (h.2.2.1 i hi).2.1.1
    rw [b1, br_N, if_neg (by omega), if_neg (by omega), if_neg (by omega), if_neg (by omega), if_neg (by omega)]; exact h6
  · rw [b2, br_R, if_pos rfl] at hd; cases hd
  · refine Hq.mk e0 e1 e2 e3 e4 e5 e6 (l := 0) e7 e8 (o := 0) e9 (by omega) (by omega) (by omega) ?_ hf ht (by omega) h.2.2.2.2.1 hw (by omega) htt ha (fun q r => ⟨hcp q r, rfl, rfl⟩) h5 (fun _ => htt1) (fun _ _ => ?_) (fun q => by omega) (fun q => by omega)
    · rw [b1, br_N, if_neg (by omega), if_pos ⟨rfl, rfl⟩, j_nn (by omega)]
    · rw [b1, br_N, if_neg (by omega), if_neg (by omega), if_pos ⟨rfl, rfl⟩]
/-- what is counted: at most a packets and numbers more, f frames, g noted and d gone at each host; the rest stays -/
def Cs (A A' : Ta) (a f g d : Nat) : Prop :=
  tN A 1 0 ≤ tN A' 1 0 ∧ tN A' 1 0 ≤ tN A 1 0 + a ∧ tN A' 3 0 ≤ tN A 3 0 + f ∧ tN A 901 0 ≤ tN A' 901 0 ∧ tN A' 901 0 ≤ tN A 901 0 + a ∧ (∀ j, (tO A j).length ≤ (tO A' j).length ∧ (tO A' j).length ≤ (tO A j).length + g) ∧ (∀ j, tN A 204 j ≤ tN A' 204 j ∧ tN A' 204 j ≤ tN A 204 j + d) ∧
  (tN A' 902 0 = tN A 902 0 ∧ tN A' 903 0 = tN A 903 0 ∧ ∀ x, tN A' 907 x = tN A 907 x) ∧ tM A' = tM A
theorem Cs.rf (A : Ta) : Cs A A 0 0 0 0 := ⟨Nat.le_refl _, Nat.le_refl _, Nat.le_refl _, Nat.le_refl _, Nat.le_refl _, fun _ => ⟨Nat.le_refl _, Nat.le_refl _⟩, fun _ => ⟨Nat.le_refl _, Nat.le_refl _⟩, ⟨rfl, rfl, fun _ => rfl⟩, rfl⟩
theorem Cs.tr {A B D : Ta} {a f g d a' f' g' d' : Nat} (h : Cs A B a f g d) (k : Cs B D a' f' g' d') : Cs A D (a + a') (f + f') (g + g') (d + d') := by
  obtain ⟨h1, h2, h3, h4, h5, h6, h7, h8, h9⟩ := h
  obtain ⟨k1, k2, k3, k4, k5, k6, k7, k8, k9⟩ := k
  exact ⟨by omega, by omega, by omega, by omega, by omega, fun j => by have := h6 j; have := k6 j; omega, fun j => by have := h7 j; have := k7 j; omega, ⟨k8.1.trans h8.1, k8.2.1.trans h8.2.1, fun x => (k8.2.2 x).trans (h8.2.2 x)⟩, k9.trans h9⟩
theorem Cs.le {a f g d a' f' g' d' : Nat} (h : Cs A A' a f g d) (ha : a ≤ a') (hf : f ≤ f') (hg : g ≤ g') (hd : d ≤ d') : Cs A A' a' f' g' d' := by
  obtain ⟨h1, h2, h3, h4, h5, h6, h7, h8, h9⟩ := h
  exact ⟨h1, by omega, by omega, h4, by omega, fun j => by have := h6 j; omega, fun j => by have := h7 j; omega, h8, h9⟩
theorem Cs.br {k f t s : Int32} {B : Ta} (hN : tN B = tN (brA A k f t s)) (hO : tO B = tO A) (hM : tM B = tM A) : Cs A B 1 0 0 0 := by
  have e : ∀ g x, tN B g x = _ := fun g x => (congrFun (congrFun hN g) x).trans br_N
  refine ⟨?_, ?_, ?_, ?_, ?_, fun j => by rw [hO]; omega, fun j => ?_, ⟨?_, ?_, fun x => ?_⟩, hM⟩
  · rw [e, if_neg (by omega), if_neg (by omega), if_neg (by omega), if_neg (by omega), if_pos ⟨rfl, rfl⟩]; omega
  · rw [e, if_neg (by omega), if_neg (by omega), if_neg (by omega), if_neg (by omega), if_pos ⟨rfl, rfl⟩]; omega
  · rw [e, if_neg (by omega), if_neg (by omega), if_neg (by omega), if_neg (by omega), if_neg (by omega)]; omega
  · rw [e, if_pos ⟨rfl, rfl⟩]; omega
  · rw [e, if_pos ⟨rfl, rfl⟩]; omega
  · rw [e, if_neg (by omega), if_neg (by omega), if_neg (by omega), if_neg (by omega), if_neg (by omega)]; omega
  · rw [e, if_neg (by omega), if_neg (by omega), if_neg (by omega), if_neg (by omega), if_neg (by omega)]
  · rw [e, if_neg (by omega), if_neg (by omega), if_neg (by omega), if_neg (by omega), if_neg (by omega)]
  · rw [e, if_neg (by omega), if_neg (by omega), if_neg (by omega), if_neg (by omega), if_neg (by omega)]
theorem Cs.gone (j : Nat) : Cs A (uN A 204 j (tN A 204 j + 1)) 0 0 0 1 := by
  refine ⟨by rw [tN_uN, if_neg (by omega)]; omega, by rw [tN_uN, if_neg (by omega)]; omega, by rw [tN_uN, if_neg (by omega)]; omega, by rw [tN_uN, if_neg (by omega)]; omega, by rw [tN_uN, if_neg (by omega)]; omega, fun i => by rw [tO_uN]; omega, fun i => ?_, ⟨by rw [tN_uN, if_neg (by omega)], by rw [tN_uN, if_neg (by omega)], fun x => by rw [tN_uN, if_neg (by omega)]⟩, rfl⟩
  rw [tN_uN]
  by_cases e : i = j
  · rw [if_pos ⟨rfl, e⟩, e]; omega
  · rw [if_neg (fun q => e q.2)]; omega
theorem Cs.tag (p v : Nat) : Cs A (uN A 5 p v) 0 0 0 0 := by
  refine ⟨by rw [tN_uN, if_neg (by omega)]; omega, by rw [tN_uN, if_neg (by omega)]; omega, by rw [tN_uN, if_neg (by omega)]; omega, by rw [tN_uN, if_neg (by omega)]; omega, by rw [tN_uN, if_neg (by omega)]; omega, fun i => by rw [tO_uN]; omega, fun i => by rw [tN_uN, if_neg (by omega)]; omega, ⟨by rw [tN_uN, if_neg (by omega)], by rw [tN_uN, if_neg (by omega)], fun x => by rw [tN_uN, if_neg (by omega)]⟩, rfl⟩
/-- accepted -/
theorem ac_ok (h : Iv P z c A) (hj : j < 8) {p : Nat} (hp : p < tN A 1 0) (hp0 : tN A 5 p ≠ 0) (hk6 : hv A 400 p ≠ 6) (h9 : tN A 901 0 + 1 ≤ 1000000000) :
    Iv P z c (acF A j p).2 ∧ Cs A (acF A j p).2 1 0 1 0 ∧ (∀ q, (acF A j p).1 = some q → tI A 400 p = 1 ∧ q = tN A 1 0 ∧ q < tN (acF A j p).2 1 0 ∧ tN (acF A j p).2 5 q = 3 ∧ tI (acF A j p).2 400 q = 2 ∧ tI (acF A j p).2 402 q = tI A 401 p ∧ tI (acF A j p).2 401 q = tI A 402 p ∧ tI (acF A j p).2 405 q = Int32.ofNat (tN A 901 0) ∧ tI (acF A j p).2 406 q = tI A 405 p) ∧
    (tI A 400 p = 1 → (acF A j p).1 ≠ none) ∧ tW (acF A j p).2 = tW A ∧ (tI A 400 p ≠ 1 → (acF A j p).2 = uO A j (nt A p :: tO A j)) ∧ (tI A 400 p = 1 → tO (acF A j p).2 = tO A) ∧ (∀ x, x < tN A 1 0 → tN (acF A j p).2 5 x = tN A 5 x) := by
  have hh := h.2.2.1 p hp
  obtain ⟨a1, ⟨a2, a3, a4, a5, a6, a7, a8, a9, a10⟩, a11, a12, a13, a14, a15, a16⟩ := hh
  unfold acF
  by_cases q : tI A 400 p = 1
  · rw [if_pos q]
    dsimp only
    have eI : ∀ g, g ≠ 406 → tI (uI (brA A 2 (tI A 402 p) (tI A 401 p) (tI A 403 p)) 406 (tN A 1 0) (tI A 405 p)) g (tN A 1 0) = hdB 2 (tI A 402 p) (tI A 401 p) (tI A 403 p) (Int32.ofNat (tN A 901 0)) g := fun g hg => by
      rw [tI_uI, if_neg (fun q => hg q.1), br_I, if_pos rfl]
    have e406 : tI (uI (brA A 2 (tI A 402 p) (tI A 401 p) (tI A 403 p)) 406 (tN A 1 0) (tI A 405 p)) 406 (tN A 1 0) = tI A 405 p := by rw [tI_uI, if_pos ⟨rfl, rfl⟩]
    obtain ⟨l1, l2, l3, l4, l5⟩ := br_L (A := A) (k := 2) (f := tI A 402 p) (t := tI A 401 p) (s := tI A 403 p)
    have eN : ∀ g x, tN (uI (brA A 2 (tI A 402 p) (tI A 401 p) (tI A 403 p)) 406 (tN A 1 0) (tI A 405 p)) g x = _ := fun g x => (congrFun (congrFun (tN_uI _ _ _ _) g) x).trans br_N
    refine ⟨?_, (Cs.br (tN_uI _ _ _ _) (by rw [tO_uI]; exact l4) (by rw [tM_uI]; exact l3)).le (Nat.le_refl _) (Nat.le_refl _) (by omega) (by omega), fun r hr => ?_, fun _ => (by intro q; cases q), (tW_uI _ _ _ _).trans l1, fun q' => absurd q q', fun _ => (tO_uI _ _ _ _).trans l4, fun x hx => ?_⟩
    · refine h.born (k := 2) (f := hv A 402 p) (t := hv A 401 p) (s := hv A 403 p) (tt := 32) (a := hv A 405 p) (v := 0) ⟨_, rfl, tN_uI _ _ _ _, tR_uI _ _ _ _, tW_uI _ _ _ _, tK_uI _ _ _ _, tM_uI _ _ _ _, tO_uI _ _ _ _, tF_uI _ _ _ _, fun g x hx => by rw [tI_uI, if_neg (fun q => hx q.2)]; rfl⟩ h9 ?_ ?_ ?_ ?_ ?_ ?_ ?_ ?_ ?_ ?_ (by omega) a6 a5 (by omega) (by omega) (by omega) (by omega) (by omega) (fun q => by omega) (fun q => by omega)
      · rw [eI _ (by omega)]; rfl
      · rw [eI _ (by omega)]; exact a1 402 (by omega) (by omega)
      · rw [eI _ (by omega)]; exact a1 401 (by omega) (by omega)
      · rw [eI _ (by omega)]; exact a1 403 (by omega) (by omega)
      · rw [eI _ (by omega)]; rfl
      · rw [eI _ (by omega)]; rfl
      · rw [e406]; exact a1 405 (by omega) (by omega)
      · rw [eI _ (by omega)]; rfl
      · rw [eI _ (by omega)]; rfl
      · rw [eI _ (by omega)]; rfl
    · have hr' : tN A 1 0 = r := Option.some.inj hr
      subst hr'
      refine ⟨q, rfl, ?_, ?_, ?_, ?_, ?_, ?_, e406⟩
      · rw [eN, if_neg (by omega), if_neg (by omega), if_neg (by omega), if_neg (by omega), if_pos ⟨rfl, rfl⟩]; omega
      · rw [eN, if_neg (by omega), if_neg (by omega), if_neg (by omega), if_pos ⟨rfl, rfl⟩]
      · rw [eI _ (by omega)]; rfl
      · rw [eI _ (by omega)]; rfl
      · rw [eI _ (by omega)]; rfl
      · rw [eI _ (by omega)]; rfl
    · rw [eN, if_neg (by omega), if_neg (by omega), if_neg (by omega), if_neg (by omega), if_neg (by omega)]
  · rw [if_neg q]
    dsimp only
    have hk1 : hv A 400 p ≠ 1 := fun r => q (by rw [a1 400 (by omega) (by omega), r]; rfl)
    have hk5 : hv A 400 p ≤ 5 := by clear a15 a16; omega
    have hn : Nq A (nt A p) := ⟨hv A 400 p, hv A 401 p, hv A 403 p, hv A 404 p, hv A 405 p, hv A 406 p, a1 400 (by omega) (by omega), a1 401 (by omega) (by omega), a1 403 (by omega) (by omega), a1 404 (by omega) (by omega), a1 405 (by omega) (by omega), a1 406 (by omega) (by omega), hk1, hk5, a5, a13 hp0, a10, a2, fun r => (a11 r hk5).1, a12⟩
    obtain ⟨i1, i2, i3, i4, i5, i6⟩ := h
    obtain ⟨k1, k2, k3, k4, k5, k6, k7⟩ := i4
    refine ⟨⟨i1, i2, fun i hi => (i3 i hi).mv (fun _ _ _ => rfl) rfl (Nat.le_refl _) (Nat.le_refl _) rfl rfl (fun q => q) (fun _ _ => rfl) (fun _ _ _ q => q), ⟨fun f hf => (k1 f hf).mv (Nat.le_refl _) (fun _ _ q => q), k2, k3, k4, k5, k6, fun i hi f hf => ?_⟩, i5, i6⟩, ⟨Nat.le_refl _, by rw [tN_uO]; omega, by rw [tN_uO]; omega, Nat.le_refl _, by rw [tN_uO]; omega, fun i => ?_, fun i => ⟨Nat.le_refl _, by rw [tN_uO]; omega⟩, ⟨rfl, rfl, fun _ => rfl⟩, rfl⟩, fun _ r => (by cases r), fun r => absurd r q, rfl, fun _ => rfl, fun r => absurd r q, fun _ _ => rfl⟩
    · have hf' : f ∈ (if i = j then nt A p :: tO A j else tO A i) := hf
      have : Nq A f := by
        by_cases e : i = j
        · rw [if_pos e] at hf'
          rcases List.mem_cons.mp hf' with r | r
          · rw [r]; exact hn
          · exact k7 j hj f r
        · rw [if_neg e] at hf'; exact k7 i hi f hf'
      exact this.mv (Nat.le_refl _)
    · rw [tO_uO]
      by_cases e : i = j
      · rw [if_pos e, e, List.length_cons]; omega
      · rw [if_neg e]; omega
end BO
