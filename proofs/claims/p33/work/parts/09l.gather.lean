/-! ===== PURE: gathering ===== -/
theorem nd_len {N : Nat} : ∀ {l : List Nat}, l.Nodup → (∀ x, x ∈ l → x < N) → l.length ≤ N := by
  induction N with
  | zero =>
    intro l _ h
    cases l with
    | nil => exact Nat.le_refl _
    | cons a l => exact absurd (h a (List.mem_cons_self ..)) (Nat.not_lt_zero _)
  | succ N ih =>
    intro l hn h
    by_cases c : N ∈ l
    · have h1 := ih (hn.erase N) (fun x hx => by
        have h2 := h x (List.mem_of_mem_erase hx)
        have h3 : x ≠ N := fun e => by subst e; exact (List.Nodup.mem_erase_iff hn).mp hx |>.1 rfl
        omega)
      rw [List.length_erase_of_mem c] at h1
      omega
    · have h1 := ih hn (fun x hx => by
        have h2 := h x hx
        have h3 : x ≠ N := fun e => c (e ▸ hx)
        omega)
      omega
/-- no piece is in two heaps -/
def Kd (K : List (Int32 × Int32 × List Nat)) : Prop := ∀ (i k : Nat) (e f : Int32 × Int32 × List Nat), i ≠ k → K[i]? = some e → K[k]? = some f → ∀ c, c ∈ e.2.2 → c ∉ f.2.2
theorem Kd.er {K : List (Int32 × Int32 × List Nat)} (h : Kd K) (d : Nat) : Kd (K.eraseIdx d) := by
  intro i k e f hne hi hk
  rw [List.getElem?_eraseIdx] at hi hk
  refine h (if i < d then i else i + 1) (if k < d then k else k + 1) e f ?_ ?_ ?_
  · split <;> split <;> omega
  · split <;> rename_i c
    · rw [if_pos c] at hi; exact hi
    · rw [if_neg c] at hi; exact hi
  · split <;> rename_i c
    · rw [if_pos c] at hk; exact hk
    · rw [if_neg c] at hk; exact hk
theorem Kd.ap {K : List (Int32 × Int32 × List Nat)} (h : Kd K) (x y : Int32) : Kd (K ++ [(x, y, [])]) := by
  intro i k e f hne hi hk c hc hc2
  have hlt : ∀ (i : Nat) (e : Int32 × Int32 × List Nat), (K ++ [(x, y, [])])[i]? = some e → c ∈ e.2.2 → K[i]? = some e := by
    intro i e hi hc
    by_cases q : i < K.length
    · rw [List.getElem?_append_left q] at hi; exact hi
    · rw [List.getElem?_append_right (by omega)] at hi
      have : e = (x, y, []) := by
        have := List.mem_of_getElem? hi
        exact List.mem_singleton.mp this
      rw [this] at hc
      exact absurd hc List.not_mem_nil
  exact h i k e f hne (hlt i e hi hc) (hlt k f hk hc2) c hc hc2
theorem wsz_c {A A' : Ta} (h : tI A' = tI A) : ∀ (l : List Nat) (x : Int32), wsz A' l x = wsz A l x := by
  intro l
  induction l with
  | nil => intro x; rfl
  | cons a l ih => intro x; rw [wsz, wsz, ih, h]
theorem inp_c {A A' : Ta} (h : tI A' = tI A) (p : Nat) : ∀ (l : List Nat), inp A' p l = inp A p l := by
  intro l
  induction l with
  | nil => rfl
  | cons a l ih => rw [inp, inp, ih, h]
theorem inp_len {A : Ta} {p : Nat} : ∀ {l m : List Nat}, inp A p l = some m → m.length = l.length + 1 ∧ ∀ c, c ∈ m → c = p ∨ c ∈ l := by
  intro l
  induction l with
  | nil => intro m h; rw [inp] at h; have := Option.some.inj h; subst this; exact ⟨rfl, fun c hc => Or.inl (List.mem_singleton.mp hc)⟩
  | cons a l ih =>
    intro m h
    rw [inp] at h
    split at h
    · split at h
      · cases h
      · have := Option.some.inj h
        subst this
        exact ⟨rfl, fun c hc => by rcases List.mem_cons.mp hc with hc | hc; exact Or.inl hc; exact Or.inr hc⟩
    · cases hi : inp A p l with
      | none => rw [hi] at h; cases h
      | some m' =>
        rw [hi] at h
        have := Option.some.inj h
        subst this
        obtain ⟨h1, h2⟩ := ih hi
        exact ⟨by rw [List.length_cons, List.length_cons, h1], fun c hc => by
          rcases List.mem_cons.mp hc with hc | hc
          · exact Or.inr (hc ▸ List.mem_cons_self ..)
          · rcases h2 c hc with q | q
            · exact Or.inl q
            · exact Or.inr (List.mem_cons_of_mem _ q)⟩
theorem wd_b2_s {α ρ : Type} (v : α) (w : Wd) (F : α → Wd → Option ρ) : wd_b2 (some (v, w)) F = F v w := rfl
theorem oi_p {k : Nat} (h : k < 2147483648) : 0 ≤ oi (some k) := by
  show Int32.ofNat 0 ≤ Int32.ofNat k
  rw [j_ll (by omega) h]; omega
theorem oi_n : ¬ 0 ≤ oi none := by decide
section GA
variable {P T X j n : Nat} {z w w' : Wd} {b : Be} {A A' : Ta}
def bhA (A : Ta) (j p : Nat) : Ta :=
  if (tK A j).length < 3 then uK A j (tK A j ++ [(tI A 401 p, tI A 405 p, [])])
  else uK (uN (uK A j ((tK A j).eraseIdx 0)) 204 j (tN A 204 j + 1)) j ((tK A j).eraseIdx 0 ++ [(tI A 401 p, tI A 405 p, [])])
def bhk (A : Ta) (j : Nat) : Nat := if (tK A j).length < 3 then (tK A j).length else 2
theorem o_beginHeap (hT : Tm P T X z w b A) (hj : j < 8) (hn : 4 ≤ n) {p : Nat} (hp : p < tN A 1 0) :
    ∃ v kk, f_X2_beginHeap n w (hA T j) (some (b_pa b p)) = some (Int32.ofNat (bhk A j), v) ∧ Tm P T X z v (v_kh b kk) (bhA A j p) ∧ Rl T w b v (v_kh b kk) ∧ (tK (bhA A j p) j)[bhk A j]? = some (tI A 401 p, tI A 405 p, []) := by
  obtain ⟨s1, s2, s3, s4, s5⟩ := hT.2.2.2.2.2.2 j hj
  have hl := s4.2.1
  unfold f_X2_beginHeap bhA bhk
  rw [s4.1, show (3 : Int32) = Int32.ofNat 3 from rfl]
  by_cases c : (tK A j).length < 3
  · rw [if_pos (by rw [j_lx (by omega) (by omega)]; exact c), if_pos c, if_pos c]
    obtain ⟨v, h1, h2, h3⟩ := o_begin23 (n := n) hT hj c hp
    refine ⟨v, b_kh b, h1, h2, h3, ?_⟩
    rw [tK_uK, if_pos rfl, List.getElem?_append_right (Nat.le_refl _), Nat.sub_self]; rfl
  · rw [if_neg (by rw [j_lx (by omega) (by omega)]; exact c), if_neg c, if_neg c]
    obtain ⟨v, h1, h2, h3, h4, h5⟩ := o_dropHeap (n := n) hT hj hn (d := 0) (by omega)
    obtain ⟨g1, g2⟩ := o_gone h2 hj
    have hlen : (tK (uN (uK A j ((tK A j).eraseIdx 0)) 204 j (tN (uK A j ((tK A j).eraseIdx 0)) 204 j + 1)) j) = (tK A j).eraseIdx 0 := by rw [tK_uN, tK_uK, if_pos rfl]
    have hl2 : ((tK A j).eraseIdx 0).length = 2 := by rw [List.length_eraseIdx, if_pos (by omega)]; omega
    obtain ⟨u, k1, k2, k3⟩ := o_begin23 (n := n) g1 hj (by rw [hlen]; omega) (p := p) hp
    rw [hlen] at k1 k2
    refine ⟨u, _, ?_, k2, (h3.tr g2).tr k3, ?_⟩
    · rw [show (0 : Int32) = Int32.ofNat 0 from rfl, h1, Option.bind_some, wd_let]
      rw [hl2] at k1
      exact k1
    · rw [tK_uK, if_pos rfl, List.getElem?_append_right (by omega), hl2]; rfl
def gaJ (A : Ta) (j p k : Nat) : Option Nat × Ta :=
  match (tK A j)[k]? with
  | none => (none, A)
  | some e => match inp A p e.2.2 with
    | none => (none, uN A 204 j (tN A 204 j + 1))
    | some m => if 0 ≤ wsz A m 0 then (some p, uN (uNf (uI (uI (uI (uK (uK A j (stK (tK A j) k m)) j ((stK (tK A j) k m).eraseIdx k)) 407 p 0) 409 p 0) 403 p (wsz A m 0)) 5 (fun r => if r ∈ e.2.2 then 0 else tN A 5 r)) 6 (hv A 405 p) p) else (none, uN (uK A j (stK (tK A j) k m)) 5 p (20 + j))
theorem o_gatherJ (hT : Tm P T X z w b A) (hI : Ix A) (hK : Kd (tK A j)) (hj : j < 8) (hn : X + 4 ≤ n) {k p : Nat} (hk : k < (tK A j).length) (hp : p < tN A 1 0) (hp3 : tN A 5 p = 3) :
    ∃ v kk, f_X2_gather_j25 n (hA T j) (some (b_pa b p)) (Int32.ofNat k) w = some ((gaJ A j p k).1.map (b_pa b), v) ∧ Tm P T X z v (v_kh b kk) (gaJ A j p k).2 ∧ Rl T w b v (v_kh b kk) := by
  obtain ⟨s1, s2, s3, s4, s5⟩ := hT.2.2.2.2.2.2 j hj
  have hl := s4.2.1
  obtain ⟨e, he⟩ : ∃ e, (tK A j)[k]? = some e := ⟨_, List.getElem?_eq_getElem hk⟩
  have hem := List.mem_of_getElem? he
  have hX : tN A 1 0 ≤ X := Nat.le_trans hT.2.2.2.2.1.1 hT.2.1.2.2.2.2.2.2.2.1.1
  have hle : e.2.2.length ≤ tN A 1 0 := nd_len (hI.2 j hj e hem).2 (fun x hx => ((hI.2 j hj e hem).1 x hx).1)
  have hput := o_put (n := n) hT hI hj he hp hp3 (by omega) (fun i f hik hf c hc hce => hK i k f e hik hf he c hc hce)
  unfold f_X2_gather_j25 gaJ
  rw [s1.2.2.1, Option.bind_some, s1.2.2.2.2.2.1, j_gd (j_in (by omega) (by omega)), wd_let, j_nn (by omega), (s4.2.2.1 k (by omega)).1, Option.bind_some, he]
  dsimp only
  cases hm : inp A p e.2.2 with
  | none =>
    rw [hm] at hput
    obtain ⟨g1, g2⟩ := o_gone hT hj
    refine ⟨_, b_kh b, ?_, g1, g2⟩
    rw [hput, wd_b2]
    rfl
  | some m =>
    rw [hm] at hput
    obtain ⟨u, p1, p2, p3⟩ := hput
    obtain ⟨il, im⟩ := inp_len hm
    have hmk : (tK (uK A j (stK (tK A j) k m)) j)[k]? = some (e.1, e.2.1, m) := by
      rw [tK_uK, if_pos rfl, stK, List.getElem?_modify, he]; simp
    have hws := o_wholeSize (n := n) p2 hj hmk (fun c hc => by
      rcases im c hc with q | q
      · rw [q]; exact hp
      · exact ((hI.2 j hj e hem).1 c q).1) (by show m.length < n; omega)
    rw [wsz_c (A := A) (A' := uK A j (stK (tK A j) k m)) rfl] at hws
    dsimp only at hws ⊢
    rw [p1, wd_b2]
    dsimp only
    rw [if_neg (show ¬ (1 : Int32) = 0 by decide), hws, wd_b2]
    dsimp only
    by_cases c : 0 ≤ wsz A m 0
    · rw [if_pos c, if_pos c]
      have hlk : k < (tK (uK A j (stK (tK A j) k m)) j).length := (List.getElem?_eq_some_iff.mp hmk).1
      obtain ⟨v, v1, v2, v3, v4, v5⟩ := o_dropHeap (n := n) p2 hj (by omega) (d := k) hlk
      rw [show tK (uK A j (stK (tK A j) k m)) j = stK (tK A j) k m by rw [tK_uK, if_pos rfl]] at v2
      obtain ⟨a1, a2⟩ := o_head v2 (g := 407) (p := p) hp (by omega) (by omega) 0
      obtain ⟨a3, a4⟩ := o_head a1 (g := 409) (p := p) hp (by omega) (by omega) 0
      obtain ⟨a5, a6⟩ := o_head a3 (g := 403) (p := p) hp (by omega) (by omega) (wsz A m 0)
      have hfin := (a5.tagf (f := fun r => if r ∈ e.2.2 then 0 else tN A 5 r) (fun r hr => by
        have h4 : tN A 5 r = 4 := hr
        have hne : r ∉ e.2.2 := fun q => by
          have := ((hI.2 j hj e hem).1 r q).2
          omega
        show (if r ∈ e.2.2 then 0 else tN A 5 r) = 4
        rw [if_neg hne]; exact h4)).g6 (hv A 405 p) p
      refine ⟨_, _, ?_, hfin, ((p3.tr v3).tr a2).tr (a4.tr a6)⟩
      rw [v1, Option.bind_some, Option.bind_some]
      rfl
    · rw [if_neg c, if_neg c]
      exact ⟨u, b_kh b, rfl, p2.tag (by show tN A 5 p ≠ 4; omega), p3⟩
def gaF (A : Ta) (j p : Nat) : Option Nat × Ta :=
  if tI A 407 p = 0 ∧ tI A 409 p = 0 then (some p, A)
  else match fhv (tI A 401 p) (tI A 405 p) (tK A j) 0 with
  | some k => gaJ A j p k
  | none => gaJ (bhA A j p) j p (bhk A j)
theorem fhv_some {x y : Int32} : ∀ {l : List (Int32 × Int32 × List Nat)} {s k : Nat}, fhv x y l s = some k → s ≤ k ∧ k < s + l.length ∧ ∃ e, l[k - s]? = some e ∧ e.1 = x ∧ e.2.1 = y := by
  intro l
  induction l with
  | nil => intro s k h; cases h
  | cons a l ih =>
    intro s k h
    rw [fhv] at h
    split at h
    · have := Option.some.inj h
      subst this
      rename_i c
      exact ⟨Nat.le_refl _, by simp, a, by rw [Nat.sub_self]; rfl, c.1, c.2⟩
    · obtain ⟨h1, h2, e, h3, h4⟩ := ih h
      refine ⟨by omega, by rw [List.length_cons]; omega, e, ?_, h4⟩
      rw [show k - s = (k - (s + 1)) + 1 by omega, List.getElem?_cons_succ]; exact h3
theorem bhA_K (hl : (tK A j).length ≤ 3) {p : Nat} : ∃ K, tK (bhA A j p) j = K ++ [(tI A 401 p, tI A 405 p, [])] ∧ (∀ e, e ∈ K → e ∈ tK A j) ∧ (Kd (tK A j) → Kd K) ∧ K.length = bhk A j := by
  unfold bhA bhk
  by_cases c : (tK A j).length < 3
  · rw [if_pos c, if_pos c]
    exact ⟨tK A j, by rw [tK_uK, if_pos rfl], fun e h => h, fun h => h, rfl⟩
  · rw [if_neg c, if_neg c]
    exact ⟨(tK A j).eraseIdx 0, by rw [tK_uK, if_pos rfl], fun e h => List.mem_of_mem_eraseIdx h, fun h => h.er 0, by rw [List.length_eraseIdx, if_pos (by omega)]; omega⟩
theorem bhA_o {p : Nat} : tI (bhA A j p) = tI A ∧ (∀ i, i ≠ j → tK (bhA A j p) i = tK A i) ∧ tW (bhA A j p) = tW A ∧ (∀ g x, g ≠ 204 → tN (bhA A j p) g x = tN A g x) ∧ tF (bhA A j p) = tF A ∧ tR (bhA A j p) = tR A ∧ tM (bhA A j p) = tM A ∧ tO (bhA A j p) = tO A := by
  unfold bhA
  split
  · exact ⟨rfl, fun i hi => by rw [tK_uK, if_neg hi], rfl, fun g x hg => rfl, rfl, rfl, rfl, rfl⟩
  · exact ⟨rfl, fun i hi => by rw [tK_uK, if_neg hi, tK_uN, tK_uK, if_neg hi], rfl, fun g x hg => by rw [tN_uK, tN_uN, if_neg (fun q => hg q.1)]; rfl, rfl, rfl, rfl, rfl⟩
theorem Ix.bh (hI : Ix A) (hl : (tK A j).length ≤ 3) {p : Nat} : Ix (bhA A j p) := by
  obtain ⟨o1, o2, o3, o4, o5, o6, o7, o8⟩ := bhA_o (A := A) (j := j) (p := p)
  obtain ⟨K, k1, k2, k3, k4⟩ := bhA_K hl (p := p)
  refine ⟨fun i hi => ?_, fun i hi e he => ?_⟩
  · rw [o3, o4 1 0 (by omega)]
    exact ⟨fun e he => by rw [o4 5 _ (by omega)]; exact (hI.1 i hi).1 e he, (hI.1 i hi).2⟩
  · by_cases c : i = j
    · subst c
      rw [k1] at he
      rcases List.mem_append.mp he with he | he
      · exact ⟨fun q hq => by rw [o4 1 0 (by omega), o4 5 _ (by omega)]; exact (hI.2 i hi e (k2 e he)).1 q hq, (hI.2 i hi e (k2 e he)).2⟩
      · rw [List.mem_singleton.mp he]
        exact ⟨fun q hq => absurd hq List.not_mem_nil, List.nodup_nil⟩
    · rw [o2 i c] at he
      exact ⟨fun q hq => by rw [o4 1 0 (by omega), o4 5 _ (by omega)]; exact (hI.2 i hi e he).1 q hq, (hI.2 i hi e he).2⟩
theorem o_gather (hT : Tm P T X z w b A) (hI : Ix A) (hK : Kd (tK A j)) (hj : j < 8) (hn : X + 4 ≤ n) {p : Nat} (hp : p < tN A 1 0) (hp3 : tN A 5 p = 3) :
    ∃ v kk, f_X2_gather n w (hA T j) (some (b_pa b p)) = some ((gaF A j p).1.map (b_pa b), v) ∧ Tm P T X z v (v_kh b kk) (gaF A j p).2 ∧ Rl T w b v (v_kh b kk) := by
  have hkp := (hT.2.2.2.1 p hp).1
  have hl := (hT.2.2.2.2.2.2 j hj).2.2.2.1.2.1
  unfold f_X2_gather gaF f_X4_isPiece f_X4_isPiece_j14
  rw [Option.bind_some, hkp 407 (by omega) (by omega), hkp 409 (by omega) (by omega)]
  have main : ¬ (tI A 407 p = 0 ∧ tI A 409 p = 0) → ∃ v kk, (wd_b2 (f_X2_findHeap n w (hA T j) (some (b_pa b p))) fun r8 w6 => if 0 ≤ r8 then f_X2_gather_j25 n (hA T j) (some (b_pa b p)) r8 w6 else wd_b2 (f_X2_beginHeap n w6 (hA T j) (some (b_pa b p))) fun r36 w34 => f_X2_gather_j25 n (hA T j) (some (b_pa b p)) r36 w34) =
      some (((match fhv (tI A 401 p) (tI A 405 p) (tK A j) 0 with | some k => gaJ A j p k | none => gaJ (bhA A j p) j p (bhk A j)) : Option Nat × Ta).1.map (b_pa b), v) ∧ Tm P T X z v (v_kh b kk) ((match fhv (tI A 401 p) (tI A 405 p) (tK A j) 0 with | some k => gaJ A j p k | none => gaJ (bhA A j p) j p (bhk A j)) : Option Nat × Ta).2 ∧ Rl T w b v (v_kh b kk) := by
    intro _
    rw [o_findHeap hT hj (by omega) hp, wd_b2_s]
    cases hf : fhv (tI A 401 p) (tI A 405 p) (tK A j) 0 with
    | some k =>
      obtain ⟨f1, f2, f3⟩ := fhv_some hf
      rw [if_pos (oi_p (by omega))]
      exact o_gatherJ hT hI hK hj hn (by omega) hp hp3
    | none =>
      rw [if_neg oi_n]
      obtain ⟨v, kk, h1, h2, h3, h4⟩ := o_beginHeap (n := n) hT hj (by omega) hp
      obtain ⟨K, k1, k2, k3, k4⟩ := bhA_K hl (p := p)
      have hN := (bhA_o (A := A) (j := j) (p := p)).2.2.2.1
      obtain ⟨u, ll, g1, g2, g3⟩ := o_gatherJ (n := n) (j := j) (k := bhk A j) (p := p) h2 (hI.bh hl) (by rw [k1]; exact (k3 hK).ap _ _) hj hn (List.getElem?_eq_some_iff.mp h4).1 (by rw [hN 1 0 (by omega)]; exact hp) (by rw [hN 5 p (by omega)]; exact hp3)
      refine ⟨u, ll, ?_, g2, h3.tr g3⟩
      rw [h1, wd_b2]
      exact g1
  by_cases c1 : tI A 407 p = 0
  · rw [if_pos c1]
    by_cases c2 : tI A 409 p = 0
    · rw [if_pos c2, if_pos ⟨c1, c2⟩]
      exact ⟨w, b_kh b, rfl, hT, Rl.rf _ _ _⟩
    · rw [if_neg c2, if_neg (fun q => c2 q.2)]
      exact main (fun q => c2 q.2)
  · rw [if_neg c1, if_neg (fun q => c1 q.1)]
    exact main (fun q => c1 q.1)
end GA
