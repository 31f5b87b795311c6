/-! ===== PURE: questions, replies, what waited given up ===== -/
section HE
variable {P T X i j n c : Nat} {z w u : Wd} {b : Be} {A A' : Ta}
/-- counts that may grow -/
def Ct (A A' : Ta) (a f g d : Nat) : Prop :=
  tN A 1 0 ≤ tN A' 1 0 ∧ tN A' 1 0 ≤ tN A 1 0 + a ∧ tN A' 3 0 ≤ tN A 3 0 + f ∧ tN A 901 0 ≤ tN A' 901 0 ∧ tN A' 901 0 ≤ tN A 901 0 + a ∧ (∀ j, (tO A j).length ≤ (tO A' j).length ∧ (tO A' j).length ≤ (tO A j).length + g) ∧ ∀ j, tN A 204 j ≤ tN A' 204 j ∧ tN A' 204 j ≤ tN A 204 j + d
/-- steps counted as before -/
def Ce (A A' : Ta) : Prop := tN A' 902 0 = tN A 902 0 ∧ tN A' 903 0 = tN A 903 0 ∧ ∀ x, tN A' 907 x = tN A 907 x
theorem Cs.t {a f g d : Nat} (h : Cs A A' a f g d) : Ct A A' a f g d := ⟨h.1, h.2.1, h.2.2.1, h.2.2.2.1, h.2.2.2.2.1, h.2.2.2.2.2.1, h.2.2.2.2.2.2.1⟩
theorem Cs.e {a f g d : Nat} (h : Cs A A' a f g d) : Ce A A' := h.2.2.2.2.2.2.2.1
theorem Ct.rf (A : Ta) : Ct A A 0 0 0 0 := (Cs.rf A).t
theorem Ce.rf (A : Ta) : Ce A A := (Cs.rf A).e
theorem Ct.tr {A B D : Ta} {a f g d a' f' g' d' : Nat} (h : Ct A B a f g d) (k : Ct B D a' f' g' d') : Ct A D (a + a') (f + f') (g + g') (d + d') := by
  obtain ⟨h1, h2, h3, h4, h5, h6, h7⟩ := h
  obtain ⟨k1, k2, k3, k4, k5, k6, k7⟩ := k
  exact ⟨by omega, by omega, by omega, by omega, by omega, fun j => by have := h6 j; have := k6 j; omega, fun j => by have := h7 j; have := k7 j; omega⟩
theorem Ct.le {a f g d a' f' g' d' : Nat} (h : Ct A A' a f g d) (ha : a ≤ a') (hf : f ≤ f') (hg : g ≤ g') (hd : d ≤ d') : Ct A A' a' f' g' d' := by
  obtain ⟨h1, h2, h3, h4, h5, h6, h7⟩ := h
  exact ⟨h1, by omega, by omega, h4, by omega, fun j => by have := h6 j; omega, fun j => by have := h7 j; omega⟩
theorem Ce.tr {A B D : Ta} (h : Ce A B) (k : Ce B D) : Ce A D := ⟨k.1.trans h.1, k.2.1.trans h.2.1, fun x => (k.2.2 x).trans (h.2.2 x)⟩
theorem Bg.ct {b' : Be} {a f g a' f' g' : Nat} (h : Bg X b A (a + a') (f + f') (g + g')) {d : Nat} (k : Ct A A' a f g d) (hb : b_ng b' = b_ng b) : Bg X b' A' a' f' g' := by
  obtain ⟨h1, h2, h3, h4⟩ := h
  obtain ⟨k1, k2, k3, k4, k5, k6, -⟩ := k
  exact ⟨by omega, by omega, by omega, fun j hj => by have := h4 j hj; have := k6 j; rw [hb]; omega⟩
theorem pmv_k {k q : Nat} (h : Pq P z i k q) : pmv P z (Int32.ofNat (4 * i + k)) = some q := by
  obtain ⟨h1, h2, h3⟩ := h
  unfold pmv
  rw [if_neg (j_n0 (by omega)), if_pos (by rw [show (32 : Int32) = Int32.ofNat 32 from rfl, j_lx (by omega) (by omega)]; omega), j_nn (by omega), show (4 * i + k) / 4 = i by omega, show (4 * i + k) % 4 = k by omega]
  exact h3
theorem pav_s (hz : PS P z) {x : Int32} {q : Nat} (h : pav P z x = some q) : ∃ y i k, y < 256 ∧ x = Int32.ofNat y ∧ wd_Q z (P + 3) y = some q ∧ Pq P z i k q ∧ wd_I z 702 q = Int32.ofNat y := by
  unfold pav at h
  by_cases c1 : x < 0
  · rw [if_pos c1] at h; cases h
  rw [if_neg c1] at h
  by_cases c2 : Int32.ofNat 256 ≤ x
  · rw [if_pos c2] at h; cases h
  rw [if_neg c2] at h
  obtain ⟨k, hk, rfl⟩ := j_up (N := 256) c1 (by omega) c2
  rw [j_nn (by omega)] at h
  obtain ⟨i, k', h1, h2, h3, h4⟩ := hz.2.2.2.2.2.2.1 k q hk h
  exact ⟨k, i, k', hk, rfl, h, ⟨h1, h2, h3⟩, h4⟩
def mkN (z : Wd) (q : Nat) : Nat := (wd_I z 700 q).toNatClampNeg
def adN (z : Wd) (q : Nat) : Nat := (wd_I z 702 q).toNatClampNeg
def hqF (P : Nat) (z : Wd) (A : Ta) (f : (Nat → Int32) × Option Nat) : Ta := match pav P z (f.1 4) with
  | none => A
  | some q => match pmv P z (f.1 1) with
    | none => A
    | some r => if q = r then A else if wd_I z 701 q = f.1 0 then adF z (uM A (mkN z q / 4) (adN z r) (wd_I z 700 r)) q 2 (wd_I z 700 r) (wd_I z 702 q) none else A
theorem Ct.lrn (x : Nat) (v : Int32) : Ct A (uM A j x v) 0 0 0 0 ∧ Ce A (uM A j x v) :=
  ⟨⟨by rw [tN_uM]; omega, by rw [tN_uM]; omega, by rw [tN_uM]; omega, by rw [tN_uM]; omega, by rw [tN_uM]; omega, fun r => by rw [tO_uM]; omega, fun r => by rw [tN_uM]; omega⟩, by rw [tN_uM], by rw [tN_uM], fun x => by rw [tN_uM]⟩
theorem o_hearQ (hT : Tm P T X z w b A) (h : Iv P z c A) (hz : PS P z) {a : Nat} {f : (Nat → Int32) × Option Nat} (ha : a ∈ b_fh b) (hf : ∀ g, g < 5 → wd_I w g a = f.1 g) (hX : tN A 3 0 + 1 ≤ X) :
    ∃ v b', f_X9_hearQuestion n w T (some a) = some v ∧ Tm P T X z v b' (hqF P z A f) ∧ Rl T w b v b' ∧ Iv P z c (hqF P z A f) ∧ Ct A (hqF P z A f) 0 1 0 0 ∧ Ce A (hqF P z A f) := by
  have h904 := hT.2.2.1.1.2.1
  have hw := hT.1
  have stay : Iv P z c A ∧ Ct A A 0 1 0 0 ∧ Ce A A := ⟨h, (Ct.rf A).le (by omega) (by omega) (by omega) (by omega), Ce.rf A⟩
  unfold f_X9_hearQuestion hqF
  rw [Option.bind_some, h904, Option.bind_some, hf 4 (by omega), p_portWithAddress hz hw, wd_b2_s, h904, Option.bind_some, hf 1 (by omega), p_portWithMark hz hw, wd_b2_s]
  cases h1 : pav P z (f.1 4) with
  | none => exact ⟨w, b, rfl, hT, Rl.rf _ _ _, stay⟩
  | some q =>
    dsimp only
    rw [wd_on_S]
    cases h2 : pmv P z (f.1 1) with
    | none => exact ⟨w, b, rfl, hT, Rl.rf _ _ _, stay⟩
    | some r =>
      dsimp only
      rw [wd_on_S]
      by_cases c1 : q = r
      · rw [if_pos (show (some q : Option Nat) = some r by rw [c1]), if_pos c1]
        exact ⟨w, b, rfl, hT, Rl.rf _ _ _, stay⟩
      rw [if_neg (show ¬ (some q : Option Nat) = some r from fun e => c1 (Option.some.inj e)), if_neg c1]
      obtain ⟨y, i, k, y1, y2, y3, y4, y5⟩ := pav_s hz h1
      have hr : ∃ i k, Pq P z i k r := by
        unfold pmv at h2
        by_cases d1 : f.1 1 < 0
        · rw [if_pos d1] at h2; cases h2
        rw [if_neg d1] at h2
        by_cases d2 : f.1 1 < (32 : Int32)
        · rw [if_pos d2] at h2
          obtain ⟨m, m1, m2⟩ := j_of d1
          rw [m1, show (32 : Int32) = Int32.ofNat 32 from rfl, j_lx (by omega) (by omega)] at d2
          rw [m1, j_nn (by omega)] at h2
          exact ⟨m / 4, m % 4, by omega, by omega, h2⟩
        · rw [if_neg d2] at h2; cases h2
      obtain ⟨i2, k2, r1⟩ := hr
      obtain ⟨x, x1, x2, x3⟩ := r1.ad hz
      have q7 : wd_I w 701 q = wd_I z 701 q := (hw q y4.pl).1 701
      have q0 : wd_I w 700 q = wd_I z 700 q := (hw q y4.pl).1 700
      have r0 : wd_I w 700 r = wd_I z 700 r := (hw r r1.pl).1 700
      have r2 : wd_I w 702 r = wd_I z 702 r := (hw r r1.pl).1 702
      have q2 : wd_I w 702 q = wd_I z 702 q := (hw q y4.pl).1 702
      rw [q7, hf 0 (by omega)]
      by_cases c2 : wd_I z 701 q = f.1 0
      · rw [if_pos c2, if_pos c2, q0, y4.mk hz]
        have i8 := y4.1
        have hk4 := y4.2.1
        have em : mkN z q / 4 = i := by
          unfold mkN
          rw [y4.mk hz, j_nn (by omega)]; omega
        have ea : adN z r = x := by
          unfold adN
          rw [x2, j_nn (by omega)]
        rw [em, ea, o_hostWithMark hT (m := 4 * i + k) (by omega), wd_b2_s, wd_on_S, show (4 * i + k) / 4 = i by omega, r2, x2, r0]
        obtain ⟨v, v1, v2, v3⟩ := o_learn (n := n) hT (j := i) i8 x1 (wd_I z 700 r)
        have hl := h.lrn (j := i) (v := wd_I z 700 r) x3 rfl
        obtain ⟨l1, l2⟩ := Ct.lrn (A := A) (j := i) x (wd_I z 700 r)
        have e3 : tN (uM A i x (wd_I z 700 r)) 3 0 + 1 ≤ X := by rw [tN_uM]; exact hX
        generalize uM A i x (wd_I z 700 r) = B at *
        obtain ⟨y', b', g1, g2, g3, -⟩ := o_add (n := n) v2 hl.1 e3 y4.pl rfl rfl 2 (wd_I z 700 r) (wd_I z 702 q) none
        obtain ⟨k1, k2', k3⟩ := hl.ad (so := 2) (to := wd_I z 700 r) (ad := wd_I z 702 q) (o := none) (A' := adF z B q 2 (wd_I z 700 r) (wd_I z 702 q) none) y4 (fun _ => rfl) rfl (Or.inr (Or.inl ⟨rfl, ⟨i2, k2, r, r1, r1.mk hz⟩, rfl⟩))
        refine ⟨y', b', ?_, g2, v3.tr g3, k1, (l1.tr k2'.t).le (by omega) (by omega) (by omega) (by omega), l2.tr k2'.e⟩
        have q2v : wd_I v 702 q = wd_I z 702 q := (v2.1 q y4.pl).1 702
        have r0v : wd_I v 700 r = wd_I z 700 r := (v2.1 r r1.pl).1 700
        rw [v1, Option.bind_some, v2.2.2.1.1.1, Option.bind_some, q2v, r0v]
        rw [show f_X8_add n v (T + 1) 2 (some q) (wd_I z 700 r) (wd_I z 702 q) none = some y' from g1, Option.bind_some]
      · rw [if_neg c2, if_neg c2]
        exact ⟨w, b, rfl, hT, Rl.rf _ _ _, stay⟩
/-- each that waited sent on, if it waited for this, or to wait again -/
def hlF (z : Wd) (j : Nat) (f : (Nat → Int32) × Option Nat) : List (Nat × Int32 × Nat) → Ta → Ta
  | [], A => A
  | e :: l, A => hlF z j f l (if e.2.1 = f.1 4 then uN (adF z (uN A 5 e.1 3) e.2.2 0 (f.1 1) (-1) (some e.1)) 5 e.1 1 else pxA (uN A 5 e.1 3) j e)
theorem ls_pa {b b' : Be} {l : List (Nat × Int32 × Nat)} (h : ∀ e, e ∈ l → b_pa b' e.1 = b_pa b e.1) : (l.map fun e => b_pa b' e.1) = l.map fun e => b_pa b e.1 := List.map_congr_left h
theorem o_hearRL (hz : PS P z) (hj : j < 8) {f : (Nat → Int32) × Option Nat} (hm : Mk P z (f.1 1)) : ∀ (l : List (Nat × Int32 × Nat)) (w : Wd) (b : Be) (A : Ta) (o : Option Nat) (m a : Nat), Tm P T X z w b A → Iv P z c A → (b_ph b = l.map fun e => b_pa b e.1) → (l.map fun e => e.1).Nodup → (∀ e, e ∈ l → e.1 < tN A 1 0 ∧ tN A 5 e.1 = 4) →
    ls_c (wd_R w 413) o (l.map fun e => b_pa b e.1) → (∀ e, e ∈ l → wd_I w 411 (b_pa b e.1) = e.2.1 ∧ wd_R w 412 (b_pa b e.1) = some e.2.2) → (∀ e, e ∈ l → ∃ k, Pq P z j k e.2.2) → a ∈ b_fh b → wd_I w 4 a = f.1 4 → wd_I w 1 a = f.1 1 → l.length < m → tN A 3 0 + l.length ≤ X →
    ∃ v b', wd_lp5 (f_X9_hearReply_l31 n) m T (some a) (some (hA T j)) o w = some v ∧ Tm P T X z v b' (hlF z j f l A) ∧ Rm T w b v b' ∧ b_ph b' = [] ∧ Iv P z c (hlF z j f l A) ∧ Ct A (hlF z j f l A) 0 l.length 0 l.length ∧ Ce A (hlF z j f l A) := by
  intro l
  induction l with
  | nil =>
    intro w b A o m a hT h hph _ _ ho _ _ _ _ _ hm' _
    obtain ⟨m, rfl⟩ : ∃ r, m = r + 1 := ⟨m - 1, by simp at hm'; omega⟩
    have ho' : o = none := ho
    refine ⟨w, b, ?_, hT, Rm.rf _ _ _, hph, h, (Ct.rf A), Ce.rf A⟩
    rw [ho', wd_lp5, f_X9_hearReply_l31, wd_on_N]
  | cons e l ih =>
    intro w b A o m a hT h hph hnd ht ho h4 hq ha hf4 hf1 hm' hX
    obtain ⟨m, rfl⟩ : ∃ r, m = r + 1 := ⟨m - 1, by simp at hm'; omega⟩
    rw [List.length_cons] at hm' hX
    have ho1 : o = some (b_pa b e.1) := ho.1
    have ho2 := ho.2
    obtain ⟨e1, e2⟩ := ht e (List.mem_cons_self ..)
    obtain ⟨e3, e4⟩ := h4 e (List.mem_cons_self ..)
    obtain ⟨k, hk⟩ := hq e (List.mem_cons_self ..)
    rw [List.map_cons, List.nodup_cons] at hnd
    have hnl : b_pa b e.1 ∉ l.map fun e => b_pa b e.1 := fun q => by
      obtain ⟨d, d1, d2⟩ := List.mem_map.mp q
      have hd := ht d (List.mem_cons_of_mem _ d1)
      have hne : d.1 ≠ e.1 := fun x => hnd.1 (List.mem_map.mpr ⟨d, d1, x⟩)
      exact hT.inj hd.1 e1 hne d2
    have hT2 := o_free hT e1 hph hnl
    have hI2 := h.free e2
    have cs := Cs.tag (A := A) e.1 3
    have t5 : tN (uN A 5 e.1 3) 5 e.1 = 3 := by rw [tN_uN, if_pos ⟨rfl, rfl⟩]
    have t5o : ∀ x, x ≠ e.1 → tN (uN A 5 e.1 3) 5 x = tN A 5 x := fun x hx => by rw [tN_uN, if_neg (fun q => hx q.2)]
    have tO' : ∀ g x, g ≠ 5 → tN (uN A 5 e.1 3) g x = tN A g x := fun g x hg => by rw [tN_uN, if_neg (fun q => hg q.1)]
    have fin : ∀ (y : Wd) (b2 : Be) (C : Ta), Tm P T X z y b2 C → Rl T w (v_ph b (l.map fun e => b_pa b e.1)) y b2 → Iv P z c C → Ct A C 0 1 0 1 → Ce A C → (∀ x, x < tN A 1 0 → x ≠ e.1 → tN C 5 x = tN A 5 x) →
        ∃ v b', wd_lp5 (f_X9_hearReply_l31 n) m T (some a) (some (hA T j)) (wd_R w 413 (b_pa b e.1)) y = some v ∧ Tm P T X z v b' (hlF z j f l C) ∧ Rm T w b v b' ∧ b_ph b' = [] ∧ Iv P z c (hlF z j f l C) ∧ Ct A (hlF z j f l C) 0 (l.length + 1) 0 (l.length + 1) ∧ Ce A (hlF z j f l C) := by
      intro y b2 C y1 y2 y3 y4 y5 y6
      have epa : ∀ d, d ∈ l → b_pa b2 d.1 = b_pa b d.1 := fun d hd => y2.pa (b := v_ph b (l.map fun e => b_pa b e.1)) (hT.pn (ht d (List.mem_cons_of_mem _ hd)).1)
      have emp := ls_pa epa
      have hrp := y2.1.2.2
      have hlm : ∀ d, d ∈ l → b_pa b d.1 ∈ b_ph (v_ph b (l.map fun e => b_pa b e.1)) := fun d hd => List.mem_map.mpr ⟨d, hd, rfl⟩
      have hg := y2.2.2 a ha
      obtain ⟨v, b', r1, r2, r3, r4, r5, r6, r7⟩ := ih y b2 C (wd_R w 413 (b_pa b e.1)) m a y1 y3 (by rw [emp, y2.1.2.1]; rfl) hnd.2 (fun d hd => ⟨by have := (ht d (List.mem_cons_of_mem _ hd)).1; have := y4.1; omega, by rw [y6 d.1 (ht d (List.mem_cons_of_mem _ hd)).1 (fun x => hnd.1 (List.mem_map.mpr ⟨d, hd, x⟩))]; exact (ht d (List.mem_cons_of_mem _ hd)).2⟩)
        (by
          rw [emp]
          refine ls_cong (fun x hx => ?_) ho2
          obtain ⟨d, d1, rfl⟩ := List.mem_map.mp hx
          exact (hrp _ (hlm d d1)).2.2) (fun d hd => by rw [epa d hd, (hrp _ (hlm d hd)).1, (hrp _ (hlm d hd)).2.1]; exact h4 d (List.mem_cons_of_mem _ hd)) (fun d hd => hq d (List.mem_cons_of_mem _ hd)) (by rw [y2.2.1]; exact ha) (by rw [hg.1 4 (by omega)]; exact hf4) (by rw [hg.1 1 (by omega)]; exact hf1) (by omega) (by have := y4.2.2.1; omega)
      exact ⟨v, b', r1, r2, (Rm.pf y2.m).tr r3, r4, r5, (y4.tr r6).le (by omega) (by omega) (by omega) (by omega), y5.tr r7⟩
    rw [ho1, wd_lp5, f_X9_hearReply_l31, wd_on_S, wd_let, Option.bind_some, e3, hf4, hlF, List.length_cons]
    by_cases c1 : e.2.1 = f.1 4
    · rw [if_pos c1, if_pos c1, e4, wd_on_S, hT.2.2.1.1.1, Option.bind_some, hf1]
      have hX3 : tN (uN A 5 e.1 3) 3 0 + 1 ≤ X := by rw [tO' 3 0 (by omega)]; omega
      obtain ⟨y, b2, g1, g2, g3, -⟩ := o_add (n := n) hT2 hI2.1 hX3 hk.pl rfl rfl 0 (f.1 1) (-1) (some e.1)
      obtain ⟨k1, k2, -⟩ := hI2.ad (so := 0) (to := f.1 1) (ad := -1) (o := some e.1) (A' := uN (adF z (uN A 5 e.1 3) e.2.2 0 (f.1 1) (-1) (some e.1)) 5 e.1 1) hk (fun x => absurd x (by decide)) rfl (Or.inr (Or.inr ⟨rfl, hm, e.1, rfl, by rw [tO' 1 0 (by omega)]; exact e1, t5⟩))
      have g2' : Tm P T X z y b2 (uN (adF z (uN A 5 e.1 3) e.2.2 0 (f.1 1) (-1) (some e.1)) 5 e.1 1) := g2.tag (by
        rw [tN_uF, tN_uN, if_neg (by omega), t5]; omega)
      obtain ⟨v, b', q⟩ := fin y b2 _ g2' g3 k1 ((cs.tr k2).t.le (by omega) (by omega) (by omega) (by omega)) (cs.e.tr k2.e) (fun x _ hx => by
        unfold adF
        rw [tN_uN, if_neg (fun q => hx q.2), tN_uF, tN_uN, if_neg (by omega)]; exact t5o x hx)
      refine ⟨v, b', ?_, q.2⟩
      rw [show f_X8_add n w (T + 1) 0 (some e.2.2) (f.1 1) (-1) (some (b_pa b e.1)) = some y from g1, Option.bind_some, f_X9_hearReply_j85]
      exact q.1
    · rw [if_neg c1, if_neg c1, f_X9_hearReply_j80, Option.bind_some]
      obtain ⟨y, g1, g2, g3, -, -⟩ := o_putToWait (n := n) hT2 hI2.1 hj (p := e.1) (x := e.2.1) (q := e.2.2) (by rw [tO' 1 0 (by omega)]; exact e1) t5 e3 e4
      obtain ⟨k1, k2⟩ := hI2.px hj (x := e.2.1) (p := e.1) (by rw [tO' 1 0 (by omega)]; exact e1) t5 hk
      have g2' : Tm P T X z y (v_ph b (l.map fun e => b_pa b e.1)) (pxA (uN A 5 e.1 3) j e) := g2.tag (p := e.1) (by rw [pwA_o.2.2.2.2.2.2.1 5 _ (by omega), t5]; omega)
      obtain ⟨v, b', q⟩ := fin y _ _ g2' g3 k1 ((cs.tr k2).t.le (by omega) (by omega) (by omega) (by omega)) (cs.e.tr k2.e) (fun x _ hx => by
        rw [px_N (e := e) (by omega) (Or.inr hx)]; exact t5o x hx)
      refine ⟨v, b', ?_, q.2⟩
      rw [show f_X2_putToWait n w (hA T j) (some (b_pa b e.1)) = some y from g1, Option.bind_some, f_X9_hearReply_j85]
      exact q.1
def hrF (z : Wd) (A : Ta) (f : (Nat → Int32) × Option Nat) : Ta := hlF z ((f.1 2).toNatClampNeg / 4) f (tW A ((f.1 2).toNatClampNeg / 4)) (hoA (uM A ((f.1 2).toNatClampNeg / 4) (f.1 4).toNatClampNeg (f.1 1)) ((f.1 2).toNatClampNeg / 4))
theorem o_hearR (hT : Tm P T X z w b A) (h : Iv P z c A) (hz : PS P z) {a : Nat} {f : (Nat → Int32) × Option Nat} (ha : a ∈ b_fh b) (hp : b_ph b = []) (hf : ∀ g, g < 5 → wd_I w g a = f.1 g) (hq : ∃ i k q, Pq P z i k q ∧ f.1 1 = wd_I z 700 q ∧ f.1 4 = wd_I z 702 q) (hm : Mk P z (f.1 2)) (hn : 8 ≤ n) (hX : tN A 3 0 + 6 ≤ X) :
    ∃ v b', f_X9_hearReply n w T (some a) = some v ∧ Tm P T X z v b' (hrF z A f) ∧ Rl T w b v b' ∧ Iv P z c (hrF z A f) ∧ Ct A (hrF z A f) 0 6 0 6 ∧ Ce A (hrF z A f) := by
  obtain ⟨i, k, q, hq1, hq2, hq3⟩ := hq
  obtain ⟨i2, k2, q2, hm1, hm2⟩ := hm
  obtain ⟨x, x1, x2, x3⟩ := hq1.ad hz
  have i8 := hm1.1
  have k8 := hm1.2.1
  have ej : (f.1 2).toNatClampNeg / 4 = i2 := by rw [hm2, j_nn (by omega)]; omega
  have ex : (f.1 4).toNatClampNeg = x := by rw [hq3, x2, j_nn (by omega)]
  unfold f_X9_hearReply hrF
  rw [ej, ex, Option.bind_some, hf 2 (by omega), hm2, o_hostWithMark hT (m := 4 * i2 + k2) (by omega), wd_b2_s, wd_on_S, show (4 * i2 + k2) / 4 = i2 by omega, hf 4 (by omega), hf 1 (by omega)]
  rw [show (f.1 4) = Int32.ofNat x from hq3.trans x2]
  obtain ⟨v, v1, v2, v3⟩ := o_learn (n := n) hT (j := i2) i8 x1 (f.1 1)
  have hl := h.lrn (j := i2) (v := f.1 1) x3 hq2
  obtain ⟨l1, l2⟩ := Ct.lrn (A := A) (j := i2) x (f.1 1)
  have eW : tW (uM A i2 x (f.1 1)) = tW A := tW_uM _ _ _ _
  have e3 : tN (uM A i2 x (f.1 1)) 3 0 = tN A 3 0 := by rw [tN_uM]
  rw [← eW]
  generalize uM A i2 x (f.1 1) = B at *
  obtain ⟨o, y, y1, y2, y3, y4, y5⟩ := o_hold (n := n) v2 hl.1 i8 hp
  obtain ⟨g1, g2, g3, g4, g5, g6, g7⟩ := hl.hold i8
  have hlen := (hl.1.1 i2 i8).2.2
  have hg := (v3.m.tr y3).2.2 a ha
  obtain ⟨t, b', r1, r2, r3, r4, r5, r6, r7⟩ := o_hearRL (n := n) hz i8 (f := f) ⟨i, k, q, hq1, hq2.trans (hq1.mk hz)⟩ (tW B i2) y _ (hoA B i2) o n a y2 g1 rfl (hl.1.1 i2 i8).2.1 (fun e he => g3 e he) y4 y5 (fun e he => hl.2.2.2.1.2.2.1 i2 i8 e he) ha (by rw [hg.1 4 (by omega)]; exact hf 4 (by omega)) (by rw [hg.1 1 (by omega)]; exact hf 1 (by omega)) (by omega) (by rw [g7 3 0 (by omega)]; omega)
  refine ⟨t, b', ?_, r2, ((v3.m.tr y3).tr r3).l hp r4, r5, ((l1.tr g2.t).tr r6).le (by omega) (by omega) (by omega) (by omega), (l2.tr g2.e).tr r7⟩
  rw [v1, Option.bind_some, y1, wd_b2_s]
  exact r1
end HE
