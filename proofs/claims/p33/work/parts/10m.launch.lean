/-! ===== PURE: sent; what waits given up ===== -/
section LA
variable {P T X i j n c : Nat} {z w u : Wd} {b : Be} {A A' : Ta}
def laA (A : Ta) (k f t s tt v : Int32) : Ta := uI (uI (brA A k f t s) 404 (tN A 1 0) tt) 408 (tN A 1 0) v
def laF (P : Nat) (z : Wd) (A : Ta) (j : Nat) (k t s tt v : Int32) : Int32 × Ta :=
  if 0 ≤ soV P z j t then (Int32.ofNat (tN A 901 0), goF P z j 4 (some (tN A 1 0)) (laA A k (soV P z j t) t s tt v)) else (-1, A)
theorem la_iv (h : Iv P z c A) {k f t s tt v : Nat} (hk : k ≤ 1) (hf : f < 256) (ht : t < 256) (hs : s ≤ c) (htt : 1 ≤ tt) (htt2 : tt ≤ 40) (hvv : v ≤ 1) (h9 : tN A 901 0 + 1 ≤ 1000000000) :
    Iv P z c (laA A (Int32.ofNat k) (Int32.ofNat f) (Int32.ofNat t) (Int32.ofNat s) (Int32.ofNat tt) (Int32.ofNat v)) ∧ Cs A (laA A (Int32.ofNat k) (Int32.ofNat f) (Int32.ofNat t) (Int32.ofNat s) (Int32.ofNat tt) (Int32.ofNat v)) 1 0 0 0 ∧ Gp P z (laA A (Int32.ofNat k) (Int32.ofNat f) (Int32.ofNat t) (Int32.ofNat s) (Int32.ofNat tt) (Int32.ofNat v)) j (tN A 1 0) ∧
    tN (laA A (Int32.ofNat k) (Int32.ofNat f) (Int32.ofNat t) (Int32.ofNat s) (Int32.ofNat tt) (Int32.ofNat v)) 901 0 = tN A 901 0 + 1 := by
  unfold laA
  have eI : ∀ g, g ≠ 404 → g ≠ 408 → tI (uI (uI (brA A (Int32.ofNat k) (Int32.ofNat f) (Int32.ofNat t) (Int32.ofNat s)) 404 (tN A 1 0) (Int32.ofNat tt)) 408 (tN A 1 0) (Int32.ofNat v)) g (tN A 1 0) = hdB (Int32.ofNat k) (Int32.ofNat f) (Int32.ofNat t) (Int32.ofNat s) (Int32.ofNat (tN A 901 0)) g := fun g hg hg2 => by
    rw [tI_uI, if_neg (fun q => hg2 q.1), tI_uI, if_neg (fun q => hg q.1), br_I, if_pos rfl]
  obtain ⟨l1, l2, l3, l4, l5⟩ := br_L (A := A) (k := Int32.ofNat k) (f := Int32.ofNat f) (t := Int32.ofNat t) (s := Int32.ofNat s)
  have eNN : tN (uI (uI (brA A (Int32.ofNat k) (Int32.ofNat f) (Int32.ofNat t) (Int32.ofNat s)) 404 (tN A 1 0) (Int32.ofNat tt)) 408 (tN A 1 0) (Int32.ofNat v)) = tN (brA A (Int32.ofNat k) (Int32.ofNat f) (Int32.ofNat t) (Int32.ofNat s)) := by rw [tN_uI, tN_uI]
  have eN : ∀ g x, tN (uI (uI (brA A (Int32.ofNat k) (Int32.ofNat f) (Int32.ofNat t) (Int32.ofNat s)) 404 (tN A 1 0) (Int32.ofNat tt)) 408 (tN A 1 0) (Int32.ofNat v)) g x = _ := fun g x => (congrFun (congrFun eNN g) x).trans br_N
  refine ⟨?_, Cs.br eNN (by rw [tO_uI, tO_uI]; exact l4) (by rw [tM_uI, tM_uI]; exact l3), ⟨?_, ?_, fun _ => ?_⟩, ?_⟩
  · refine h.born (k := k) (f := f) (t := t) (s := s) (tt := tt) (a := 0) (v := v) ⟨_, rfl, eNN, by rw [tR_uI, tR_uI], by rw [tW_uI, tW_uI], by rw [tK_uI, tK_uI], by rw [tM_uI, tM_uI], by rw [tO_uI, tO_uI], by rw [tF_uI, tF_uI], fun g x hx => by rw [tI_uI, if_neg (fun q => hx q.2), tI_uI, if_neg (fun q => hx q.2)]⟩ h9 ?_ ?_ ?_ ?_ ?_ ?_ ?_ ?_ ?_ ?_ (by omega) hf ht hs hvv htt2 htt (by omega) (fun q => by omega) (fun q => by omega)
    · rw [eI _ (by omega) (by omega)]; rfl
    · rw [eI _ (by omega) (by omega)]; rfl
    · rw [eI _ (by omega) (by omega)]; rfl
    · rw [eI _ (by omega) (by omega)]; rfl
    · rw [tI_uI, if_neg (by omega), tI_uI, if_pos ⟨rfl, rfl⟩]
    · rw [eI _ (by omega) (by omega)]; rfl
    · rw [eI _ (by omega) (by omega)]; rfl
    · rw [eI _ (by omega) (by omega)]; rfl
    · rw [tI_uI, if_pos ⟨rfl, rfl⟩]
    · rw [eI _ (by omega) (by omega)]; rfl
  · rw [eN, if_neg (by omega), if_neg (by omega), if_neg (by omega), if_neg (by omega), if_pos ⟨rfl, rfl⟩]; omega
  · rw [eN, if_neg (by omega), if_neg (by omega), if_neg (by omega), if_pos ⟨rfl, rfl⟩]
  · unfold hv
    rw [eI _ (by omega) (by omega)]
    show (Int32.ofNat k).toNatClampNeg ≠ 6
    rw [j_nn (by omega)]; omega
  · rw [eN, if_pos ⟨rfl, rfl⟩]
theorem o_launch (hT : Tm P T X z w b A) (h : Iv P z c A) (hz : PS P z) (hj : j < 8) (hn : X + 10 ≤ n) (hn2 : 10 ≤ n) (hc : c + 12 ≤ 10000) {k t s tt v : Nat} (hk : k ≤ 1) (ht : t < 256) (hs : s ≤ c) (htt : 1 ≤ tt) (htt2 : tt ≤ 40) (hv : v ≤ 1) (hB : Bg X b A ((c + 4) / 8 + 6) ((c + 4) / 8 + 6) 6) :
    ∃ y b', f_X9_launch n w T (some (hA T j)) (Int32.ofNat k) (Int32.ofNat t) (Int32.ofNat s) (Int32.ofNat tt) (Int32.ofNat v) = some ((laF P z A j (Int32.ofNat k) (Int32.ofNat t) (Int32.ofNat s) (Int32.ofNat tt) (Int32.ofNat v)).1, y) ∧
      Tm P T X z y b' (laF P z A j (Int32.ofNat k) (Int32.ofNat t) (Int32.ofNat s) (Int32.ofNat tt) (Int32.ofNat v)).2 ∧ Rl T w b y b' ∧ Iv P z (c + 4) (laF P z A j (Int32.ofNat k) (Int32.ofNat t) (Int32.ofNat s) (Int32.ofNat tt) (Int32.ofNat v)).2 ∧ Cs A (laF P z A j (Int32.ofNat k) (Int32.ofNat t) (Int32.ofNat s) (Int32.ofNat tt) (Int32.ofNat v)).2 ((c + 4) / 8 + 6) ((c + 4) / 8 + 6) 6 ((c + 4) / 8 + 6) ∧
      (((laF P z A j (Int32.ofNat k) (Int32.ofNat t) (Int32.ofNat s) (Int32.ofNat tt) (Int32.ofNat v)).1 = -1 ∧ (laF P z A j (Int32.ofNat k) (Int32.ofNat t) (Int32.ofNat s) (Int32.ofNat tt) (Int32.ofNat v)).2 = A) ∨
        ((laF P z A j (Int32.ofNat k) (Int32.ofNat t) (Int32.ofNat s) (Int32.ofNat tt) (Int32.ofNat v)).1 = Int32.ofNat (tN A 901 0) ∧ tN A 901 0 + 1 ≤ tN (laF P z A j (Int32.ofNat k) (Int32.ofNat t) (Int32.ofNat s) (Int32.ofNat tt) (Int32.ofNat v)).2 901 0)) := by
  have s1 := (hT.2.2.2.2.2.2 j hj).1
  unfold f_X9_launch laF
  rw [Option.bind_some, s1.1, p_sourceFor hz hT.1 hj (by omega), wd_b2_s]
  by_cases c1 : 0 ≤ soV P z j (Int32.ofNat t)
  · rw [if_pos c1, if_pos c1]
    obtain ⟨f, f1, f2⟩ := soV_ok hz hj ht c1
    rw [f2]
    dsimp only
    obtain ⟨y, b', h1, h2, h3⟩ := o_bear (n := n) hT h.1 h.2.1 (by have := hB.1; omega) (Int32.ofNat k) (Int32.ofNat f) (Int32.ofNat t) (Int32.ofNat s)
    have hb := br_np (A := A) (k := Int32.ofNat k) (f := Int32.ofNat f) (t := Int32.ofNat t) (s := Int32.ofNat s)
    have h5 : tI (brA A (Int32.ofNat k) (Int32.ofNat f) (Int32.ofNat t) (Int32.ofNat s)) 405 (tN A 1 0) = Int32.ofNat (tN A 901 0) := by rw [br_I, if_pos rfl]; rfl
    obtain ⟨i1, i2, i3, i4⟩ := la_iv (j := j) h hk f1 ht hs htt htt2 hv (by have := hB.2.2.1; omega)
    unfold laA at i1 i2 i3 i4 ⊢
    generalize brA A (Int32.ofNat k) (Int32.ofNat f) (Int32.ofNat t) (Int32.ofNat s) = B at *
    obtain ⟨k1, k2⟩ := o_head h2 (g := 404) hb (by omega) (by omega) (Int32.ofNat tt)
    have hb1 : tN A 1 0 < tN (uI B 404 (tN A 1 0) (Int32.ofNat tt)) 1 0 := by rw [tN_uI]; exact hb
    obtain ⟨k3, k4⟩ := o_head k1 (g := 408) (p := tN A 1 0) hb1 (by omega) (by omega) (Int32.ofNat v)
    have hb2 : tN A 1 0 < tN (uI (uI B 404 (tN A 1 0) (Int32.ofNat tt)) 408 (tN A 1 0) (Int32.ofNat v)) 1 0 := by rw [tN_uI]; exact hb1
    have e405 : wd_I (wd_sI (wd_sI y 404 (b_pa b' (tN A 1 0)) (Int32.ofNat tt)) 408 (b_pa b' (tN A 1 0)) (Int32.ofNat v)) 405 (b_pa b' (tN A 1 0)) = Int32.ofNat (tN A 901 0) := by
      rw [i_sI, if_neg (by omega), i_sI, if_neg (by omega), (h2.2.2.2.1 (tN A 1 0) hb).1 405 (by omega) (by omega)]; exact h5
    have hR := (h3.tr k2).tr k4
    generalize hC : uI (uI B 404 (tN A 1 0) (Int32.ofNat tt)) 408 (tN A 1 0) (Int32.ofNat v) = C at *
    generalize hY : wd_sI (wd_sI y 404 (b_pa b' (tN A 1 0)) (Int32.ofNat tt)) 408 (b_pa b' (tN A 1 0)) (Int32.ofNat v) = y2 at *
    obtain ⟨x, b2, x1, x2, x3, x4, x5⟩ := o_goOut (n := n) k3 i1 hz hj hn hn2 hc (o := some (tN A 1 0)) (fun p hp => by rw [← Option.some.inj hp]; exact i3) ((hB.le (a' := 1 + ((c + 4) / 8 + 5)) (f' := 0 + ((c + 4) / 8 + 5)) (g' := 0 + 5) (by omega) (by omega) (by omega)).cs i2 hR.ng)
    refine ⟨x, b2, ?_, x2, hR.tr x3, x4, (i2.tr x5).le (by omega) (by omega) (by omega) (by omega), Or.inr ⟨rfl, by have := x5.2.2.2.1; omega⟩⟩
    have hvv : v = 0 ∨ v = 1 := by omega
    rw [h1, wd_b2_s, Option.bind_some, wd_let, j_gd (by
      rcases hvv with e | e
      · rw [e]; exact fun q => q (Or.inl rfl)
      · rw [e]; exact fun q => q (Or.inr rfl)), wd_let, wd_let, hY, e405, show f_X9_goOut n y2 T (some (hA T j)) (some (b_pa b' (tN A 1 0))) = some x from x1, Option.bind_some]
  · rw [if_neg c1, if_neg c1]
    exact ⟨w, b, rfl, hT, Rl.rf _ _ _, h.le (by omega) (by omega), (Cs.rf A).le (by omega) (by omega) (by omega) (by omega), Or.inl ⟨rfl, rfl⟩⟩
theorem gs_rk1 (hj : j < 8) {p : Nat} (h : rk1 P z A j p) : ∃ q k, Pq P z j k q ∧ goS P z A j p = (none, gbF P z A j p q) := by
  obtain ⟨h1, h2, h3⟩ := h
  obtain ⟨q, hq⟩ := Option.isSome_iff_exists.mp h2
  obtain ⟨k, k1, -⟩ := pov_P hj hq
  refine ⟨q, k, k1, ?_⟩
  unfold goS
  rw [if_neg (by rw [h1]; decide), if_neg (fun e => by rw [e.1] at hq; cases hq), hq]
  dsimp only
  rw [if_pos (Or.inl h3)]
/-- a complaint that GOES OUT makes one wait more, at most -/
theorem go_w (h : Iv P z c A) (hz : PS P z) (hj : j < 8) {p : Nat} (hp : Gp P z A j p) (hcp : isC (tI A 400 p) = true) (hs : hv A 403 p = 0) (hc : c + 8 ≤ 10000) (h9 : tN A 901 0 + 4 ≤ 1000000000) (k : Nat) : (tW (goF P z j k (some p) A) j).length ≤ (tW A j).length + 1 := by
  cases k with
  | zero => show (tW A j).length ≤ _; omega
  | succ k =>
    obtain ⟨hp1, hp3, hp6⟩ := hp
    rw [goF]
    have k1 : tI A 400 p ≠ 1 := fun e => by rw [e] at hcp; exact absurd hcp (by decide)
    unfold goS
    by_cases c1 : owv P z j (tI A 402 p) = true
    · rw [if_pos c1]
      obtain ⟨-, -, g3, -, g5, -⟩ := ac_ok h hj hp1 (by omega) (hp6 c1) (by omega)
      cases hr : (acF A j p).1 with
      | none => rw [goF_n, g5]; omega
      | some q => exact absurd (g3 q hr).1 k1
    rw [if_neg c1]
    have cmp : ∀ (x a : Nat), 3 ≤ x → x ≤ 5 → a ≤ 200 → (x = 5 → 12 ≤ a) → (tW (goF P z j k (coF P z A j p (Int32.ofNat x) (Int32.ofNat a)).1 (coF P z A j p (Int32.ofNat x) (Int32.ofNat a)).2) j).length ≤ (tW A j).length + 1 := by
      intro x a x3 x5 ha ha5
      obtain ⟨-, -, -, g4, -, -, g7⟩ := co_ok h hz hj (p := p) hp1 x3 x5 ha ha5 (by omega)
      cases hr : (coF P z A j p (Int32.ofNat x) (Int32.ofNat a)).1 with
      | none => rw [goF_n, g4]; omega
      | some q =>
        have := (g7 q hr).1
        rw [hcp] at this; cases this
    by_cases c2 : ptv P z j (tI A 402 p) = -2 ∧ cwP P z j (tI A 402 p) = true
    · rw [if_pos c2]
      dsimp only
      obtain ⟨g1, g2, g3, g4, g5, g6, g7, g8, g9, g10, -⟩ := wr_ok h hz hj hp1 hp3 c2.1 c2.2 (by omega) (by omega)
      have hr : rk1 P z (wrF P z A j p) j (tN A 1 0) := ⟨g8, g9, g6⟩
      have e4 : hv (wrF P z A j p) 403 (tN A 1 0) = 4 := by
        have a3 := (h.2.2.1 p hp1).1 403 (by omega) (by omega)
        rw [hs] at a3
        unfold hv
        rw [g7, a3]; rfl
      rw [← g10]
      generalize wrF P z A j p = B at *
      cases k with
      | zero => show (tW B j).length ≤ _; omega
      | succ k =>
        obtain ⟨q, k0, q1, q2⟩ := gs_rk1 hj hr
        rw [goF, q2]
        dsimp only
        rw [goF_n]
        exact ((gb_iv g1 hz hj g3 g4 q1).2.2 (by omega)).1
    rw [if_neg c2]
    cases hq : pov P z j (ptv P z j (tI A 402 p)) with
    | none => exact cmp 4 0 (by omega) (by omega) (by omega) (by omega)
    | some q =>
      dsimp only
      obtain ⟨k0, q1, -⟩ := pov_P hj hq
      by_cases c3 : tI A 408 p = 0 ∨ tI A 403 p + 4 ≤ wiv P z (wd_I z 701 q)
      · rw [if_pos c3]
        dsimp only
        rw [goF_n]
        exact ((gb_iv h hz hj hp1 hp3 q1).2.2 (by omega)).1
      · rw [if_neg c3]
        obtain ⟨a, ha1, ha2, ha⟩ := wiv_ok hz (wd_I z 701 q)
        rw [ha]
        exact cmp 5 a (by omega) (by omega) ha2 (fun _ => ha1)
/-- a complaint of each that waited -/
def wlF (P : Nat) (z : Wd) (j : Nat) : List (Nat × Int32 × Nat) → Ta → Ta
  | [], A => A
  | e :: l, A => wlF P z j l (goF P z j 4 (coF P z (uN A 5 e.1 3) j e.1 4 1).1 (coF P z (uN A 5 e.1 3) j e.1 4 1).2)
theorem o_giveL (hz : PS P z) (hj : j < 8) (hn : X + 10 ≤ n) (hn2 : 10 ≤ n) {K : Nat} : ∀ (l : List (Nat × Int32 × Nat)) (w : Wd) (b : Be) (A : Ta) (o : Option Nat) (m c : Nat) (v : Int32), Tm P T X z w b A → Iv P z c A → (b_ph b = l.map fun e => b_pa b e.1) → (l.map fun e => e.1).Nodup → (∀ e, e ∈ l → e.1 < tN A 1 0 ∧ tN A 5 e.1 = 4) →
    ls_c (wd_R w 413) o (l.map fun e => b_pa b e.1) → l.length < m → c + 4 * l.length + 12 ≤ 10000 → (c + 4 * l.length) / 8 + 6 ≤ K → Bg X b A (l.length * K) (l.length * K) (l.length * 6) →
    ∃ y b', wd_lp5 (f_X9_complainOfWaiting_l10 n) m T (some (hA T j)) v o w = some (v, y) ∧ Tm P T X z y b' (wlF P z j l A) ∧ Rm T w b y b' ∧ b_ph b' = [] ∧ Iv P z (c + 4 * l.length) (wlF P z j l A) ∧ Ct A (wlF P z j l A) (l.length * K) (l.length * K) (l.length * 6) (l.length * K) ∧ Ce A (wlF P z j l A) ∧ tM (wlF P z j l A) = tM A ∧
      (tW (wlF P z j l A) j).length ≤ (tW A j).length + l.length ∧ tN A 204 j + l.length ≤ tN (wlF P z j l A) 204 j := by
  intro l
  induction l with
  | nil =>
    intro w b A o m c v hT h hph _ _ ho hm hc _ _
    obtain ⟨m, rfl⟩ : ∃ r, m = r + 1 := ⟨m - 1, by simp at hm; omega⟩
    have ho' : o = none := ho
    refine ⟨w, b, ?_, hT, Rm.rf _ _ _, hph, h, (Ct.rf A).le (by omega) (by omega) (by omega) (by omega), Ce.rf A, rfl, Nat.le_refl _, Nat.le_refl _⟩
    rw [ho', wd_lp5, f_X9_complainOfWaiting_l10, wd_on_N]
  | cons e l ih =>
    intro w b A o m c v hT h hph hnd ht ho hm hc hK hB
    obtain ⟨m, rfl⟩ : ∃ r, m = r + 1 := ⟨m - 1, by simp at hm; omega⟩
    rw [List.length_cons] at hm hc hK hB
    have eK : (l.length + 1) * K = K + l.length * K := by rw [Nat.succ_mul]; omega
    have e6 : (l.length + 1) * 6 = 6 + l.length * 6 := by omega
    rw [eK, e6] at hB
    have hK1 : (c + 4) / 8 ≤ (c + 4 * (l.length + 1)) / 8 := Nat.div_le_div_right (by omega)
    have hK2 : (c + 4 + 4 * l.length) / 8 + 6 ≤ K := by
      rw [show c + 4 + 4 * l.length = c + 4 * (l.length + 1) by omega]; exact hK
    have ho1 : o = some (b_pa b e.1) := ho.1
    have ho2 := ho.2
    obtain ⟨e1, e2⟩ := ht e (List.mem_cons_self ..)
    rw [List.map_cons, List.nodup_cons] at hnd
    have hnl : b_pa b e.1 ∉ l.map fun e => b_pa b e.1 := fun q => by
      obtain ⟨d, d1, d2⟩ := List.mem_map.mp q
      have hd := ht d (List.mem_cons_of_mem _ d1)
      have hne : d.1 ≠ e.1 := fun x => hnd.1 (List.mem_map.mpr ⟨d, d1, x⟩)
      exact hT.inj hd.1 e1 hne d2
    have hT2 := o_free hT e1 hph hnl
    have hI2 := h.free e2
    have cs := Cs.tag (A := A) e.1 3
    have hW2 : tW (uN A 5 e.1 3) = tW A := tW_uN _ _ _ _
    have hB2 : Bg X (v_ph b (l.map fun e => b_pa b e.1)) (uN A 5 e.1 3) (K + l.length * K) (K + l.length * K) (6 + l.length * 6) := (hB.le (a' := 0 + (K + l.length * K)) (f' := 0 + (K + l.length * K)) (g' := 0 + (6 + l.length * 6)) (by omega) (by omega) (by omega)).cs cs rfl
    have t5 : tN (uN A 5 e.1 3) 5 e.1 = 3 := by rw [tN_uN, if_pos ⟨rfl, rfl⟩]
    have e1' : e.1 < tN (uN A 5 e.1 3) 1 0 := by rw [tN_uN, if_neg (by omega)]; exact e1
    have g204 : tN (uN A 5 e.1 3) 204 j = tN A 204 j := by rw [tN_uN, if_neg (by omega)]
    rw [ho1, wd_lp5, f_X9_complainOfWaiting_l10, wd_on_S, wd_let, wlF, List.length_cons]
    generalize uN A 5 e.1 3 = B at *
    obtain ⟨x, b1, x1, x2, x3⟩ := o_complain (n := n) hT2 hI2.1 hI2.2.1 hz hj (by omega) (by have := hB2.1; omega) e1' 4 1
    obtain ⟨k1, k2, k3, k4, k5, k6, k7⟩ := co_ok hI2 hz hj (p := e.1) (k := 4) (a := 1) e1' (by omega) (by omega) (by omega) (by omega) (by have := hB2.2.2.1; omega)
    have k1' : Iv P z c (coF P z B j e.1 4 1).2 := k1
    have k2' : Cs B (coF P z B j e.1 4 1).2 1 0 0 1 := k2
    have k3' : tN B 204 j + 1 ≤ tN (coF P z B j e.1 4 1).2 204 j := k3
    have k4' : tW (coF P z B j e.1 4 1).2 = tW B := k4
    have k7' : ∀ q, (coF P z B j e.1 4 1).1 = some q → isC (tI B 400 e.1) = false ∧ q = tN B 1 0 ∧ q < tN (coF P z B j e.1 4 1).2 1 0 ∧ tN (coF P z B j e.1 4 1).2 5 q = 3 ∧ tI (coF P z B j e.1 4 1).2 400 q = Int32.ofNat 4 ∧ tI (coF P z B j e.1 4 1).2 403 q = 0 := k7
    have hGp : ∀ q, (coF P z B j e.1 4 1).1 = some q → Gp P z (coF P z B j e.1 4 1).2 j q := fun q hq => by
      obtain ⟨-, -, q3, q4, q5, -⟩ := k7' q hq
      refine ⟨q3, q4, fun _ => ?_⟩
      unfold hv
      rw [q5]; decide
    have hB3 : Bg X b1 (coF P z B j e.1 4 1).2 (K - 1 + l.length * K) (K + l.length * K) (6 + l.length * 6) := (hB2.le (a' := 1 + (K - 1 + l.length * K)) (f' := 0 + (K + l.length * K)) (g' := 0 + (6 + l.length * 6)) (by omega) (by omega) (by omega)).cs k2' x3.ng
    have hw : (tW (goF P z j 4 (coF P z B j e.1 4 1).1 (coF P z B j e.1 4 1).2) j).length ≤ (tW A j).length + 1 := by
      rw [← hW2, ← k4']
      cases hr : (coF P z B j e.1 4 1).1 with
      | none => rw [goF_n]; omega
      | some q =>
        obtain ⟨-, -, q3, q4, q5, q6⟩ := k7' q hr
        exact go_w k1' hz hj (hGp q hr) (by rw [q5]; decide) (by unfold hv; rw [q6]; rfl) (by omega) (by have := hB3.2.2.1; omega) 4
    rw [show f_X9_complain n w T (some (hA T j)) (some (b_pa b e.1)) 4 1 = some ((coF P z B j e.1 4 1).1.map (b_pa b1), x) from x1, wd_b2_s]
    generalize coF P z B j e.1 4 1 = R at *
    obtain ⟨y, b2, y1, y2, y3, y4, y5⟩ := o_goOut (n := n) x2 k1' hz hj hn hn2 (by omega) (o := R.1) hGp (hB3.le (by omega) (by omega) (by omega))
    have hB4 := (hB3.le (a' := ((c + 4) / 8 + 5) + l.length * K) (f' := ((c + 4) / 8 + 1) + l.length * K) (g' := 4 + l.length * 6) (by omega) (by omega) (by omega)).cs y5 y3.ng
    have hR := x3.tr y3
    have epa : ∀ d, d ∈ l → b_pa b2 d.1 = b_pa b d.1 := fun d hd => hR.pa (b := v_ph b (l.map fun e => b_pa b e.1)) (hT.pn (ht d (List.mem_cons_of_mem _ hd)).1)
    have emp := ls_pa epa
    have hlm : ∀ d, d ∈ l → b_pa b d.1 ∈ b_ph (v_ph b (l.map fun e => b_pa b e.1)) := fun d hd => List.mem_map.mpr ⟨d, hd, rfl⟩
    generalize goF P z j 4 R.1 R.2 = C at *
    have hph2 : b_ph b2 = l.map fun e => b_pa b2 e.1 := by rw [emp, hR.1.2.1]; rfl
    -- what is held is held
    have htg : ∀ d, d ∈ l → d.1 < tN C 1 0 ∧ tN C 5 d.1 = 4 := fun d hd => by
      have hN : d.1 < tN C 1 0 := by have := (ht d (List.mem_cons_of_mem _ hd)).1; have := cs.1; have := k2'.1; have := y5.1; omega
      refine ⟨hN, ?_⟩
      obtain ⟨r, r1, r2, r3⟩ := y2.2.1.2.2.2.2.2.2.2.2.1 (b_pa b2 d.1) (by rw [hph2]; exact List.mem_map.mpr ⟨d, hd, rfl⟩)
      have : d.1 = r := y2.2.1.2.2.2.1 d.1 r (y2.pn hN) (y2.pn r1) r2
      rw [this]; exact r3
    obtain ⟨u, b', r1, r2, r3, r4, r5, r6, r7, r8, r9, r10⟩ := ih y b2 C (wd_R w 413 (b_pa b e.1)) m (c + 4) v y2 y4 hph2 hnd.2 htg
      (by
        rw [emp]
        refine ls_cong (fun x hx => ?_) ho2
        obtain ⟨d, d1, rfl⟩ := List.mem_map.mp hx
        exact (hR.1.2.2 _ (hlm d d1)).2.2) (by omega) (by omega) hK2 hB4
    refine ⟨u, b', ?_, r2, (Rm.pf hR.m).tr r3, r4, by rw [show c + 4 * (l.length + 1) = c + 4 + 4 * l.length by omega]; exact r5, by rw [eK, e6]; exact (((cs.tr k2').tr y5).t.tr r6).le (by omega) (by omega) (by omega) (by omega), ((cs.tr k2').tr y5).e.tr r7, ?_, ?_, ?_⟩
    · rw [y1, Option.bind_some]; exact r1
    · rw [r8]; exact ((cs.tr k2').tr y5).2.2.2.2.2.2.2.2
    · omega
    · have := (y5.2.2.2.2.2.2.1 j).1; omega
def cwF (P : Nat) (z : Wd) (A : Ta) (j : Nat) : Ta := wlF P z j (tW A j) (hoA A j)
theorem o_giveUp (hT : Tm P T X z w b A) (h : Iv P z c A) (hz : PS P z) (hj : j < 8) (hp : b_ph b = []) (hn : X + 10 ≤ n) (hn2 : 10 ≤ n) (hc : c + 36 ≤ 10000) {K : Nat} (hK : (c + 24) / 8 + 6 ≤ K) (hB : Bg X b A (6 * K) (6 * K) 36) :
    ∃ y b', f_X9_complainOfWaiting n w T (some (hA T j)) = some (Int32.ofNat (tW A j).length, y) ∧ Tm P T X z y b' (cwF P z A j) ∧ Rl T w b y b' ∧ Iv P z (c + 24) (cwF P z A j) ∧ Ct A (cwF P z A j) (6 * K) (6 * K) 36 (6 * K) ∧ Ce A (cwF P z A j) ∧
      (tW (cwF P z A j) j).length ≤ (tW A j).length ∧ tN A 204 j + (tW A j).length ≤ tN (cwF P z A j) 204 j := by
  obtain ⟨o, w', h1, h2, h3, h4, h5⟩ := o_hold (n := n) hT h.1 hj hp
  obtain ⟨g1, g2, g3, g4, g5, g6, g7⟩ := h.hold hj
  have hl := (h.1.1 j hj).2.2
  have e201 := (hT.2.2.2.2.2.2 j hj).2.2.1.1
  have lK : (tW A j).length * K ≤ 6 * K := Nat.mul_le_mul_right _ hl
  have hK1 : (c + 4 * (tW A j).length) / 8 ≤ (c + 24) / 8 := Nat.div_le_div_right (by omega)
  unfold cwF
  obtain ⟨y, b', r1, r2, r3, r4, r5, r6, r7, r8, r9, r10⟩ := o_giveL (n := n) hz hj hn hn2 (K := K) (tW A j) w' _ (hoA A j) o n c (Int32.ofNat (tW A j).length) h2 g1 rfl (h.1.1 j hj).2.1 g3 h4 (by omega) (by omega) (by omega) ((hB.le (a' := 0 + (tW A j).length * K) (f' := 0 + (tW A j).length * K) (g' := 0 + (tW A j).length * 6) (by omega) (by omega) (by omega)).cs g2 rfl)
  refine ⟨y, b', ?_, r2, (h3.tr r3).l hp r4, r5.le (by omega) (by omega), (g2.t.tr r6).le (by omega) (by omega) (by omega) (by omega), g2.e.tr r7, ?_, ?_⟩
  · rw [f_X9_complainOfWaiting, Option.bind_some, wd_let, e201, h1, wd_b2_s]
    exact r1
  · rw [g4] at r9
    simpa using r9
  · rw [g7 204 j (by omega)] at r10; exact r10
end LA
