/-! ===== PURE: heaps: found, put into, whole ===== -/
theorem ls_hd {F : Nat → Option Nat} {l : List Nat} {o q : Option Nat} (h : ls_c F o l) (k : ls_c F q l) : o = q := by
  cases l with
  | nil => exact (show o = none from h).trans (show q = none from k).symm
  | cons a l => exact h.1.trans k.1.symm
theorem ls_ins {F G : Nat → Option Nat} {q p : Nat} {l2 : List Nat} (h1 : G q = some p) (h2 : G p = F q) (h4 : ∀ a, a ∈ l2 → G a = F a) : ∀ {l0 : List Nat} {o : Option Nat}, (∀ a, a ∈ l0 → G a = F a) → ls_c F o (l0 ++ q :: l2) → ls_c G o (l0 ++ q :: p :: l2) := by
  intro l0
  induction l0 with
  | nil => intro o _ h; exact ⟨h.1, h1, by rw [h2]; exact ls_cong h4 h.2⟩
  | cons a l0 ih =>
    intro o h3 h
    refine ⟨h.1, ?_⟩
    rw [h3 a (List.mem_cons_self ..)]
    exact ih (fun c hc => h3 c (List.mem_cons_of_mem _ hc)) h.2
theorem ls_mid {F : Nat → Option Nat} {q : Nat} {l2 : List Nat} : ∀ {l0 : List Nat} {o : Option Nat}, ls_c F o (l0 ++ q :: l2) → ls_c F (F q) l2 := by
  intro l0
  induction l0 with
  | nil => intro o h; exact h.2
  | cons a l0 ih => intro o h; exact ih h.2
section HP
variable {P T X j n : Nat} {z w w' : Wd} {b : Be} {A A' : Ta}
/-- the first heap of one packet -/
def fhv (fr nu : Int32) : List (Int32 × Int32 × List Nat) → Nat → Option Nat
  | [], _ => none
  | e :: l, k => if e.1 = fr ∧ e.2.1 = nu then some k else fhv fr nu l (k + 1)
def oi (o : Option Nat) : Int32 := match o with
  | none => -1
  | some k => Int32.ofNat k
theorem o_findHeap (hT : Tm P T X z w b A) (hj : j < 8) (hn : 4 ≤ n) {p : Nat} (hp : p < tN A 1 0) : f_X2_findHeap n w (hA T j) (some (b_pa b p)) = some (oi (fhv (tI A 401 p) (tI A 405 p) (tK A j) 0), w) := by
  obtain ⟨s1, s2, s3, s4, s5⟩ := hT.2.2.2.2.2.2 j hj
  have hk := (hT.2.2.2.1 p hp).1
  have hl := s4.2.1
  have key : ∀ (l : List (Int32 × Int32 × List Nat)) (s m : Nat), (tK A j).drop s = l → s + l.length = (tK A j).length → l.length < m →
      wd_lp4 (f_X2_findHeap_l2 n) m (hA T j) (some (b_pa b p)) (Int32.ofNat s) w = some (oi (fhv (tI A 401 p) (tI A 405 p) l s), w) := by
    intro l
    induction l with
    | nil =>
      intro s m hd hs hm
      obtain ⟨m, rfl⟩ : ∃ k, m = k + 1 := ⟨m - 1, by simp at hm; omega⟩
      rw [wd_lp4, f_X2_findHeap_l2, s4.1, if_pos (by rw [j_ll (by omega) (by simp at hs; omega)]; simp at hs; omega)]; rfl
    | cons e l ih =>
      intro s m hd hs hm
      obtain ⟨m, rfl⟩ : ∃ k, m = k + 1 := ⟨m - 1, by simp at hm; omega⟩
      rw [List.length_cons] at hs hm
      have hs3 : s < 3 := by omega
      have he : (tK A j)[s]? = some e := by rw [← List.head?_drop, hd]; rfl
      have q := s4.2.2.1 s hs3
      have r := s4.2.2.2.2 s e he
      have hd2 : (tK A j).drop (s + 1) = l := by rw [← List.drop_drop, hd]; rfl
      rw [wd_lp4, f_X2_findHeap_l2, s4.1, if_neg (by rw [j_ll (by omega) (by omega)]; omega), s1.2.2.1, Option.bind_some, j_gd (by rw [s1.2.2.2.2.2.1]; exact j_in hs3 (by omega)), j_nn (by omega), q.1, Option.bind_some, Option.bind_some, r.1, hk 401 (by omega) (by omega)]
      simp only [f_X2_findHeap_j44, wd_let, j_a1]
      rw [fhv]
      by_cases c1 : e.1 = tI A 401 p
      · rw [if_pos c1, Option.bind_some, j_gd (by rw [s1.2.2.2.2.2.1]; exact fun q => q.elim (j_n0 (by omega)) (fun q => absurd q (by omega))), q.1, Option.bind_some, r.2.1, hk 405 (by omega) (by omega)]
        by_cases c2 : e.2.1 = tI A 405 p
        · rw [if_pos c2, if_pos ⟨c1, c2⟩]; rfl
        · rw [if_neg c2, if_neg (fun q => c2 q.2)]
          exact ih (s + 1) m hd2 (by omega) (by omega)
      · rw [if_neg c1, if_neg (fun q => c1 q.1)]
        exact ih (s + 1) m hd2 (by omega) (by omega)
  exact key (tK A j) 0 n rfl (by omega) (by omega)
/-- the size of a heap's packet, or -1 -/
def wsz (A : Ta) : List Nat → Int32 → Int32
  | [], _ => -1
  | q :: l, e => if tI A 407 q = e then (if tI A 409 q = 0 then e + tI A 403 q else wsz A l (e + tI A 403 q)) else -1
theorem o_wholeSize (hT : Tm P T X z w b A) (hj : j < 8) {k : Nat} {e : Int32 × Int32 × List Nat} (he : (tK A j)[k]? = some e) (hl : ∀ p, p ∈ e.2.2 → p < tN A 1 0) (hn : e.2.2.length < n) :
    f_X1_wholeSize n w (b_kh b j k) = some (wsz A e.2.2 0, w) := by
  obtain ⟨s1, s2, s3, s4, s5⟩ := hT.2.2.2.2.2.2 j hj
  have r := (s4.2.2.2.2 k e he).2.2
  have key : ∀ (l : List Nat) (o : Option Nat) (x : Int32) (m : Nat), ls_c (wd_R w 413) o (l.map (b_pa b)) → (∀ p, p ∈ l → p < tN A 1 0) → l.length < m →
      wd_lp3 (f_X1_wholeSize_l7 n) m x o w = some (wsz A l x, w) := by
    intro l
    induction l with
    | nil =>
      intro o x m ho _ hm
      obtain ⟨m, rfl⟩ : ∃ k, m = k + 1 := ⟨m - 1, by simp at hm; omega⟩
      have : o = none := ho
      subst this
      rfl
    | cons p l ih =>
      intro o x m ho hp hm
      obtain ⟨m, rfl⟩ : ∃ k, m = k + 1 := ⟨m - 1, by simp at hm; omega⟩
      have ho1 : o = some (b_pa b p) := ho.1
      subst ho1
      have hk := (hT.2.2.2.1 p (hp p (List.mem_cons_self ..))).1
      rw [wd_lp3, f_X1_wholeSize_l7, wd_on, hk 407 (by omega) (by omega), hk 403 (by omega) (by omega), hk 409 (by omega) (by omega), wsz]
      simp only [wd_let]
      rw [ih _ _ m ho.2 (fun q hq => hp q (List.mem_cons_of_mem _ hq)) (by simp at hm; omega)]
      by_cases c1 : tI A 407 p = x
      · rw [if_pos c1, if_pos c1]
        by_cases c2 : tI A 409 p = 0
        · rw [if_pos c2, if_pos c2]
        · rw [if_neg c2, if_neg c2]
      · rw [if_neg c1, if_neg c1]
  exact key e.2.2 _ 0 n r hl hn
/-- a piece put into its place, if that is free -/
def inp (A : Ta) (p : Nat) : List Nat → Option (List Nat)
  | [] => some [p]
  | q :: l => if tI A 407 p ≤ tI A 407 q then (if tI A 407 q = tI A 407 p then none else some (p :: q :: l)) else (inp A p l).map (q :: ·)
/-- the heap k of the host's now holds l -/
def stK (l : List (Int32 × Int32 × List Nat)) (k : Nat) (m : List Nat) : List (Int32 × Int32 × List Nat) := l.modify k fun e => (e.1, e.2.1, m)
theorem o_put (hT : Tm P T X z w b A) (hI : Ix A) (hj : j < 8) {k p : Nat} {e : Int32 × Int32 × List Nat} (he : (tK A j)[k]? = some e) (hp : p < tN A 1 0) (hp3 : tN A 5 p = 3) (hn : e.2.2.length < n) (hdis : ∀ i f, i ≠ k → (tK A j)[i]? = some f → ∀ c, c ∈ f.2.2 → c ∉ e.2.2) :
    match inp A p e.2.2 with
    | none => f_X1_put n w (b_kh b j k) (some (b_pa b p)) = some (0, w)
    | some m => ∃ w', f_X1_put n w (b_kh b j k) (some (b_pa b p)) = some (1, w') ∧ Tm P T X z w' b (uK A j (stK (tK A j) k m)) ∧ Rl T w b w' b := by
  obtain ⟨s1, s2, s3, s4, s5⟩ := hT.2.2.2.2.2.2 j hj
  have hk3 : k < 3 := Nat.lt_of_lt_of_le (List.getElem?_eq_some_iff.mp he).1 s4.2.1
  have hem : e ∈ tK A j := List.mem_of_getElem? he
  have r := (s4.2.2.2.2 k e he)
  have q0 := s4.2.2.1 k hk3
  have hkp := (hT.2.2.2.1 p hp).1
  have hgt := hT.hi hp hj
  have hD : Dm T b (b_pa b p) := dm_p (hT.pn hp)
  have hI2 := hI.2 j hj e hem
  have hDk : Dm T b (b_kh b j k) := Or.inl ⟨by have := q0.2.1; unfold hA at this; omega, by have := q0.2.2; unfold hA at this; omega⟩
  -- the end: a world in which p stands behind l1 and before l2
  have fin : ∀ (u : Wd) (l1 l2 : List Nat), e.2.2 = l1 ++ l2 → ah T b (hA T j) w u → wd_I u = wd_I w → wd_A u = wd_A w → wd_Q u = wd_Q w → (∀ g a, g ≠ 413 → (g ≠ 102 ∨ a ≠ b_kh b j k) → wd_R u g a = wd_R w g a) →
      (∀ c, c < tN A 1 0 → c ≠ p → tN A 5 c ≠ 20 + j → wd_R u 413 (b_pa b c) = wd_R w 413 (b_pa b c)) → ls_c (wd_R u 413) (wd_R u 102 (b_kh b j k)) ((l1 ++ p :: l2).map (b_pa b)) →
      (∀ i f, i ≠ k → (tK A j)[i]? = some f → ∀ c, c ∈ f.2.2 → wd_R u 413 (b_pa b c) = wd_R w 413 (b_pa b c)) →
      Tm P T X z u b (uK A j (stK (tK A j) k (l1 ++ p :: l2))) ∧ Rl T w b u b := by
    intro u l1 l2 hs u1 u2 u3 u4 u5 u6 u7 u8
    refine host_op2 (w' := u) (A' := uK A j (stK (tK A j) k (l1 ++ p :: l2))) hT hI (b_kh b) (fun _ _ => rfl) hj u1 ⟨rfl, rfl, rfl, fun g x hg => rfl, fun i hi => ⟨rfl, ?_, fun x => rfl, rfl, rfl⟩⟩ (fun c hc c3 c1 c2 => ⟨by rw [u2], by rw [u5 _ _ (by omega) (Or.inl (by omega))], u6 c hc (fun d => c3 (d ▸ hp3)) c2⟩) ⟨?_, ⟨?_, ?_⟩, ⟨?_, ?_, ?_, ?_⟩, ⟨?_, ?_, ?_, s4.2.2.2.1, ?_⟩, ⟨?_, s5.2.1, ?_⟩⟩
    · rw [tK_uK, if_neg hi]
    · exact ⟨by rw [u5 _ _ (by omega) (Or.inl (by omega))]; exact s1.1, by rw [u5 _ _ (by omega) (Or.inl (by omega))]; exact s1.2.1, by rw [u5 _ _ (by omega) (Or.inl (by omega))]; exact s1.2.2.1, by rw [u5 _ _ (by omega) (Or.inl (by omega))]; exact s1.2.2.2.1, by rw [u1.2.1]; exact s1.2.2.2.2.1, by rw [u1.2.1]; exact s1.2.2.2.2.2.1, by rw [u1.2.1]; exact s1.2.2.2.2.2.2⟩
    · rw [u3]; exact s2.1
    · rw [u2]; exact s2.2
    · rw [u2]; exact s3.1
    · rw [u5 _ _ (by omega) (Or.inl (by omega))]
      refine ls_cong (fun a ha => ?_) s3.2.1
      obtain ⟨f, hf, rfl⟩ := List.mem_map.mp ha
      have := (hI.1 j hj).1 f hf
      exact u6 _ this.1 (fun d => by rw [d] at this; omega) (by rw [this.2]; omega)
    · rw [u5 _ _ (by omega) (Or.inl (by omega))]; exact s3.2.2.1
    · intro f hf
      rw [u2, u5 _ _ (by omega) (Or.inl (by omega))]; exact s3.2.2.2 f hf
    · rw [u2, tK_uK, if_pos rfl]; unfold stK; rw [List.length_modify]; exact s4.1
    · rw [tK_uK, if_pos rfl]; unfold stK; rw [List.length_modify]; exact s4.2.1
    · rw [u4]; exact s4.2.2.1
    · intro i f hf
      rw [tK_uK, if_pos rfl] at hf
      unfold stK at hf
      rw [List.getElem?_modify] at hf
      by_cases hik : k = i
      · subst hik
        rw [he] at hf
        have hf2 : (e.1, e.2.1, l1 ++ p :: l2) = f := by simpa using hf
        subst hf2
        rw [u2]
        exact ⟨r.1, r.2.1, u7⟩
      · have hf2 : (tK A j)[i]? = some f := by simpa [hik] using hf
        have r2 := s4.2.2.2.2 i f hf2
        have hi3 : i < 3 := Nat.lt_of_lt_of_le (List.getElem?_eq_some_iff.mp hf2).1 s4.2.1
        rw [u2]
        refine ⟨r2.1, r2.2.1, ?_⟩
        show ls_c (wd_R u 413) (wd_R u 102 (b_kh b j i)) _
        rw [u5 _ _ (by omega) (Or.inr fun d => hik (s4.2.2.2.1 k i hk3 hi3 d.symm))]
        refine ls_cong (fun a ha => ?_) r2.2.2
        obtain ⟨c, hc, rfl⟩ := List.mem_map.mp ha
        exact u8 i f (fun d => hik d.symm) hf2 c hc
    · rw [u2]; exact s5.1
    · rw [u3]; exact s5.2.2
  have hmem : ∀ c, c ∈ e.2.2 → c < tN A 1 0 ∧ c ≠ p := fun c hc => ⟨(hI2.1 c hc).1, fun d => by have := (hI2.1 c hc).2; rw [d, hp3] at this; omega⟩
  have hoth : ∀ i f, i ≠ k → (tK A j)[i]? = some f → ∀ c, c ∈ f.2.2 → c < tN A 1 0 ∧ c ≠ p ∧ c ∉ e.2.2 := fun i f hik hf c hc => by
    have h1 := hI.2 j hj f (List.mem_of_getElem? hf)
    exact ⟨(h1.1 c hc).1, fun d => by have := (h1.1 c hc).2; rw [d, hp3] at this; omega, fun d => hdis i f hik hf c hc d⟩
  have j49 : ∀ (l1 l2 : List Nat) (o : Option Nat), e.2.2 = l1 ++ l2 → ls_c (wd_R w 413) o (l2.map (b_pa b)) →
      ∃ u, f_X1_put_j49 n (b_kh b j k) (some (b_pa b p)) ((l1.map (b_pa b)).getLast?) o w = some (1, u) ∧ Tm P T X z u b (uK A j (stK (tK A j) k (l1 ++ p :: l2))) ∧ Rl T w b u b := by
    intro l1 l2 o hs ho
    have hm1 : ∀ c, c ∈ l1 → c < tN A 1 0 ∧ c ≠ p := fun c hc => hmem c (by rw [hs]; exact List.mem_append_left _ hc)
    have hm2 : ∀ c, c ∈ l2 → c < tN A 1 0 ∧ c ≠ p := fun c hc => hmem c (by rw [hs]; exact List.mem_append_right _ hc)
    rcases List.eq_nil_or_concat l1 with h0 | ⟨l0, q', h0⟩
    · subst h0
      have H := fin (wd_sR (wd_sR w 413 (b_pa b p) o) 102 (b_kh b j k) (some (b_pa b p))) [] l2 hs (ah.sR hDk (Or.inl ⟨by omega, by omega⟩) (ah.sR hD (Or.inr ⟨by omega, by omega⟩) ah.rf)) rfl rfl rfl
        (fun g a h1 h2 => by rw [r_sR, if_neg (by omega), r_sR, if_neg (fun c => h1 c.1)]) (fun c h1 h2 h3 => by rw [r_sR, if_neg (by omega), r_sR, if_neg (fun d => hT.inj h1 hp h2 d.2)])
        (by
          rw [r_sR, if_pos ⟨rfl, rfl⟩]
          refine ⟨rfl, ?_⟩
          show ls_c (wd_R (wd_sR (wd_sR w 413 (b_pa b p) o) 102 (b_kh b j k) (some (b_pa b p))) 413) (wd_R (wd_sR (wd_sR w 413 (b_pa b p) o) 102 (b_kh b j k) (some (b_pa b p))) 413 (b_pa b p)) (l2.map (b_pa b))
          rw [r_sR, if_neg (by omega), r_sR, if_pos ⟨rfl, rfl⟩]
          refine ls_cong (fun a ha => ?_) ho
          obtain ⟨c, hc, rfl⟩ := List.mem_map.mp ha
          rw [r_sR, if_neg (by omega), r_sR, if_neg (fun d => hT.inj (hm2 c hc).1 hp (hm2 c hc).2 d.2)])
        (fun i f h1 h2 c hc => by rw [r_sR, if_neg (by omega), r_sR, if_neg (fun d => hT.inj (hoth i f h1 h2 c hc).1 hp (hoth i f h1 h2 c hc).2.1 d.2)])
      exact ⟨_, rfl, H.1, H.2⟩
    · have h0' : l1 = l0 ++ [q'] := by rw [h0, List.concat_eq_append]
      have hq' : q' ∈ l1 := by rw [h0']; simp
      have hsq : e.2.2 = l0 ++ q' :: l2 := by rw [hs, h0']; simp
      have hnd := hI2.2
      rw [hsq, List.nodup_append, List.nodup_cons] at hnd
      have hch := r.2.2
      rw [hsq, List.map_append, List.map_cons] at hch
      have ho2 : o = wd_R w 413 (b_pa b q') := ls_hd ho (ls_mid hch)
      have hq5 : tN A 5 q' = 20 + j := (hI2.1 q' (by rw [hs]; exact List.mem_append_left _ hq')).2
      have H := fin (wd_sR (wd_sR w 413 (b_pa b p) o) 413 (b_pa b q') (some (b_pa b p))) l1 l2 hs (ah.sR (dm_p (hT.pn (hm1 q' hq').1)) (Or.inr ⟨by omega, by omega⟩) (ah.sR hD (Or.inr ⟨by omega, by omega⟩) ah.rf)) rfl rfl rfl
        (fun g a h1 h2 => by rw [r_sR, if_neg (fun c => h1 c.1), r_sR, if_neg (fun c => h1 c.1)]) (fun c h1 h2 h3 => by rw [r_sR, if_neg (fun d => hT.inj h1 (hm1 q' hq').1 (fun f => h3 (f ▸ hq5)) d.2), r_sR, if_neg (fun d => hT.inj h1 hp h2 d.2)])
        (by
          rw [r_sR, if_neg (by omega), r_sR, if_neg (by omega), h0', List.append_assoc, List.map_append]
          show ls_c _ _ (l0.map (b_pa b) ++ b_pa b q' :: b_pa b p :: l2.map (b_pa b))
          refine ls_ins (F := wd_R w 413) ?_ ?_ (fun a ha => ?_) (fun a ha => ?_) hch
          · rw [r_sR, if_pos ⟨rfl, rfl⟩]
          · rw [r_sR, if_neg (fun d => hT.inj (hm1 q' hq').1 hp (hm1 q' hq').2 d.2.symm), r_sR, if_pos ⟨rfl, rfl⟩, ho2]
          · obtain ⟨c, hc, rfl⟩ := List.mem_map.mp ha
            rw [r_sR, if_neg (fun d => hT.inj (hm2 c hc).1 (hm1 q' hq').1 (fun f => hnd.2.1.1 (f ▸ hc)) d.2), r_sR, if_neg (fun d => hT.inj (hm2 c hc).1 hp (hm2 c hc).2 d.2)]
          · obtain ⟨c, hc, rfl⟩ := List.mem_map.mp ha
            have hc1 := hm1 c (by rw [h0']; exact List.mem_append_left _ hc)
            rw [r_sR, if_neg (fun d => hT.inj hc1.1 (hm1 q' hq').1 (fun f => hnd.2.2 c hc q' (List.mem_cons_self ..) f) d.2), r_sR, if_neg (fun d => hT.inj hc1.1 hp hc1.2 d.2)])
        (fun i f h1 h2 c hc => by
          have h3 := hoth i f h1 h2 c hc
          rw [r_sR, if_neg (fun d => hT.inj h3.1 (hm1 q' hq').1 (fun g => h3.2.2 (by rw [g, hs]; exact List.mem_append_left _ hq')) d.2), r_sR, if_neg (fun d => hT.inj h3.1 hp h3.2.1 d.2)])
      refine ⟨_, ?_, H.1, H.2⟩
      rw [f_X1_put_j49, Option.bind_some, wd_let, h0', List.map_append, List.getLast?_append]
      rfl
  have key : ∀ (l2 l1 : List Nat) (o : Option Nat) (m : Nat), e.2.2 = l1 ++ l2 → ls_c (wd_R w 413) o (l2.map (b_pa b)) → l2.length < m →
      match inp A p l2 with
      | none => wd_lp5 (f_X1_put_l7 n) m (b_kh b j k) (some (b_pa b p)) ((l1.map (b_pa b)).getLast?) o w = some (0, w)
      | some l => ∃ u, wd_lp5 (f_X1_put_l7 n) m (b_kh b j k) (some (b_pa b p)) ((l1.map (b_pa b)).getLast?) o w = some (1, u) ∧ Tm P T X z u b (uK A j (stK (tK A j) k (l1 ++ l))) ∧ Rl T w b u b := by
    intro l2
    induction l2 with
    | nil =>
      intro l1 o m hs ho hm
      obtain ⟨m, rfl⟩ : ∃ k, m = k + 1 := ⟨m - 1, by simp at hm; omega⟩
      have ho1 : o = none := ho
      subst ho1
      exact j49 l1 [] none hs ho
    | cons q l2 ih =>
      intro l1 o m hs ho hm
      obtain ⟨m, rfl⟩ : ∃ k, m = k + 1 := ⟨m - 1, by simp at hm; omega⟩
      have ho1 : o = some (b_pa b q) := ho.1
      subst ho1
      have hkq := (hT.2.2.2.1 q (hmem q (by rw [hs]; simp)).1).1
      have h1 : ∀ {ρ : Type} (x : Option ρ) (y : Nat → Option ρ), wd_on (some (b_pa b q)) x y = y (b_pa b q) := fun _ _ => rfl
      rw [inp]
      by_cases c1 : tI A 407 p ≤ tI A 407 q
      · rw [if_pos c1]
        have e1 : wd_lp5 (f_X1_put_l7 n) (m + 1) (b_kh b j k) (some (b_pa b p)) ((l1.map (b_pa b)).getLast?) (some (b_pa b q)) w = if tI A 407 q = tI A 407 p then some (0, w) else f_X1_put_j49 n (b_kh b j k) (some (b_pa b p)) ((l1.map (b_pa b)).getLast?) (some (b_pa b q)) w := by
          rw [wd_lp5, f_X1_put_l7, h1, Option.bind_some, hkp 407 (by omega) (by omega), hkq 407 (by omega) (by omega), if_pos c1, f_X1_put_j32, h1, Option.bind_some, hkp 407 (by omega) (by omega), hkq 407 (by omega) (by omega)]
        rw [e1]
        by_cases c2 : tI A 407 q = tI A 407 p
        · rw [if_pos c2, if_pos c2]
        · rw [if_neg c2, if_neg c2]
          exact j49 l1 (q :: l2) _ hs ho
      · rw [if_neg c1]
        have e1 : wd_lp5 (f_X1_put_l7 n) (m + 1) (b_kh b j k) (some (b_pa b p)) ((l1.map (b_pa b)).getLast?) (some (b_pa b q)) w = wd_lp5 (f_X1_put_l7 n) m (b_kh b j k) (some (b_pa b p)) (((l1 ++ [q]).map (b_pa b)).getLast?) (wd_R w 413 (b_pa b q)) w := by
          rw [wd_lp5, f_X1_put_l7, h1, Option.bind_some, hkp 407 (by omega) (by omega), hkq 407 (by omega) (by omega), if_neg c1, wd_let, List.map_append, List.getLast?_append]
          rfl
        rw [e1]
        have h2 := ih (l1 ++ [q]) (wd_R w 413 (b_pa b q)) m (by rw [hs]; simp) ho.2 (by simp at hm; omega)
        cases h3 : inp A p l2 with
        | none => rw [h3] at h2; exact h2
        | some l =>
          rw [h3] at h2
          obtain ⟨u, g1, g2, g3⟩ := h2
          refine ⟨u, g1, ?_, g3⟩
          rw [List.append_assoc] at g2
          exact g2
  exact key e.2.2 [] _ n rfl r.2.2 hn
end HP
