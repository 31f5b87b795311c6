/-! ===== PURE: gathered, and the invariant ===== -/
section GT
variable {P T X i j n c : Nat} {z w u : Wd} {b : Be} {A A' : Ta}
theorem inp_nd {p : Nat} : ∀ {l m : List Nat}, inp A p l = some m → l.Nodup → p ∉ l → m.Nodup := by
  intro l
  induction l with
  | nil => intro m h _ _; rw [inp] at h; rw [← Option.some.inj h]; exact List.nodup_cons.mpr ⟨List.not_mem_nil, List.nodup_nil⟩
  | cons q l ih =>
    intro m h hn hp
    rw [inp] at h
    by_cases c1 : tI A 407 p ≤ tI A 407 q
    · rw [if_pos c1] at h
      by_cases c2 : tI A 407 q = tI A 407 p
      · rw [if_pos c2] at h; cases h
      · rw [if_neg c2] at h
        rw [← Option.some.inj h]; exact List.nodup_cons.mpr ⟨hp, hn⟩
    · rw [if_neg c1] at h
      cases hr : inp A p l with
      | none => rw [hr] at h; cases h
      | some r =>
        rw [hr] at h
        have : q :: r = m := Option.some.inj h
        rw [← this]
        refine List.nodup_cons.mpr ⟨fun hq => ?_, ih hr (List.nodup_cons.mp hn).2 (fun x => hp (List.mem_cons_of_mem _ x))⟩
        rcases (inp_len hr).2 q hq with e | e
        · exact hp (e ▸ List.mem_cons_self ..)
        · exact (List.nodup_cons.mp hn).1 e
theorem wsz_ok (hc : c ≤ 10000) : ∀ (l : List Nat) (e : Nat), (∀ q, q ∈ l → Hq A c q) → e ≤ c → 0 ≤ wsz A l (Int32.ofNat e) → (∃ s, wsz A l (Int32.ofNat e) = Int32.ofNat s ∧ s ≤ c) ∧ ∃ q r, l = q :: r ∧ hv A 407 q = e := by
  intro l
  induction l with
  | nil => intro e _ _ h; rw [wsz] at h; exact absurd h (by decide)
  | cons q l ih =>
    intro e hl he h
    have hh := hl q (List.mem_cons_self ..)
    have a1 := hh.1
    have a6 := hh.2.1.2.2.2.2.2.1
    rw [wsz] at h ⊢
    by_cases c1 : tI A 407 q = Int32.ofNat e
    · rw [if_pos c1] at h ⊢
      have e7 : hv A 407 q = e := by
        rw [a1 407 (by omega) (by omega), j_ee (by omega) (by omega)] at c1; exact c1
      have es : Int32.ofNat e + tI A 403 q = Int32.ofNat (e + hv A 403 q) := by rw [a1 403 (by omega) (by omega)]; exact j_ad _ _
      rw [es] at h ⊢
      refine ⟨?_, q, l, rfl, e7⟩
      by_cases c2 : tI A 409 q = 0
      · rw [if_pos c2]; exact ⟨_, rfl, by omega⟩
      · rw [if_neg c2] at h ⊢
        exact (ih _ (fun r hr => hl r (List.mem_cons_of_mem _ hr)) (by omega) h).1
    · rw [if_neg c1] at h; exact absurd h (by decide)
/-- what is kept at j as it was, or less, but for one new and empty heap -/
theorem Iv.bh (h : Iv P z c A) (hj : j < 8) {p : Nat} : Iv P z c (bhA A j p) ∧ Cs A (bhA A j p) 0 0 0 1 ∧ (∃ e, (tK (bhA A j p) j)[bhk A j]? = some e ∧ e.1 = tI A 401 p ∧ e.2.1 = tI A 405 p) ∧ (∀ g x, g ≠ 204 → tN (bhA A j p) g x = tN A g x) ∧ tI (bhA A j p) = tI A ∧ tR (bhA A j p) = tR A ∧ tW (bhA A j p) = tW A := by
  obtain ⟨i1, i2, i3, i4, i5, i6⟩ := h
  obtain ⟨k1, k2, k3, k4, k5, k6, k7⟩ := i4
  obtain ⟨o1, o2, o3, o4, o5, o6, o7, o8⟩ := bhA_o (A := A) (j := j) (p := p)
  obtain ⟨K, q1, q2, q3, q4⟩ := bhA_K (k5 j hj).2 (p := p)
  have hX := i1.bh (k5 j hj).2 (p := p)
  have h204 : ∀ r, tN A 204 r ≤ tN (bhA A j p) 204 r ∧ tN (bhA A j p) 204 r ≤ tN A 204 r + 1 := fun r => by
    unfold bhA
    split
    · rw [tN_uK]; omega
    · rw [tN_uK, tN_uN, tN_uK]
      by_cases e : r = j
      · rw [if_pos ⟨rfl, e⟩, e]; omega
      · rw [if_neg (fun q => e q.2)]; omega
  have hk3 : bhk A j < 3 := by unfold bhk; split <;> omega
  generalize bhA A j p = B at *
  have n1 := o4 1 0 (by omega)
  have n9 := o4 901 0 (by omega)
  refine ⟨⟨hX, ⟨fun f hf => by rw [o5] at hf; rw [n1]; exact i2.1 f hf, fun r hr => by rw [n1] at hr ⊢; rw [o6]; exact i2.2 r hr⟩, fun r hr => ?_, ⟨fun f hf => ?_, by rw [o5]; exact k2, by rw [o3]; exact k3, fun r hr e he => ?_, fun r hr => ?_, by rw [o7]; exact k6, fun r hr f hf => ?_⟩, i5, by omega⟩, ⟨by omega, by omega, by rw [o4 3 0 (by omega)]; omega, by omega, by omega, fun r => by rw [o8]; omega, h204, ⟨o4 902 0 (by omega), o4 903 0 (by omega), fun r => o4 907 r (by omega)⟩, o7⟩, ⟨(tI A 401 p, tI A 405 p, []), ?_, rfl, rfl⟩, o4, o1, o6, o3⟩
  · rw [n1] at hr
    exact (i3 r hr).mv (fun g _ _ => by rw [o1]) (by rw [o6]) (by omega) (Nat.le_refl _) (o4 7 _ (by omega)) (o4 8 _ (by omega)) (fun q => by rw [o4 5 r (by omega)] at q; exact q) (fun _ _ => o4 6 _ (by omega)) (fun _ _ _ q => by rw [o4 5 _ (by omega)]; exact q)
  · rw [o5] at hf
    exact (k1 f hf).mv (by omega) (fun r _ hr1 => by rw [o4 5 r (by omega)]; exact hr1)
  · by_cases d : r = j
    · subst d
      rw [q1] at he
      rw [o1]
      rcases List.mem_append.mp he with he | he
      · exact k4 r hr e (q2 e he)
      · rw [List.mem_singleton.mp he]
        exact fun x hx => absurd hx List.not_mem_nil
    · rw [o2 r d] at he; rw [o1]; exact k4 r hr e he
  · by_cases d : r = j
    · subst d
      rw [q1]
      exact ⟨(q3 (k5 r hr).1).ap _ _, by rw [List.length_append, q4, List.length_singleton]; omega⟩
    · rw [o2 r d]; exact k5 r hr
  · rw [o8] at hf; exact (k7 r hr f hf).mv (by omega)
  · rw [q1, List.getElem?_append_right (by omega), q4, Nat.sub_self]; rfl
/-- a piece in the k'th heap, that of its packet -/
theorem gj_ok (h : Iv P z c A) (hj : j < 8) {p k : Nat} {e : Int32 × Int32 × List Nat} (hp : p < tN A 1 0) (hp3 : tN A 5 p = 3) (he : (tK A j)[k]? = some e) (he1 : e.1 = tI A 401 p) (he2 : e.2.1 = tI A 405 p) (hpc : ¬ (tI A 407 p = 0 ∧ tI A 409 p = 0)) :
    Iv P z c (gaJ A j p k).2 ∧ Cs A (gaJ A j p k).2 0 0 0 1 ∧ tW (gaJ A j p k).2 = tW A ∧ (∀ q, (gaJ A j p k).1 = some q → q = p ∧ tN (gaJ A j p k).2 1 0 = tN A 1 0 ∧ tN (gaJ A j p k).2 5 p = 3 ∧ hv (gaJ A j p k).2 407 p = 0 ∧ tI (gaJ A j p k).2 400 p = tI A 400 p ∧ tI (gaJ A j p k).2 402 p = tI A 402 p) := by
  obtain ⟨i1, i2, i3, i4, i5, i6⟩ := id h
  obtain ⟨k1, k2, k3, k4, k5, k6, k7⟩ := i4
  have hem := List.mem_of_getElem? he
  have hpe : p ∉ e.2.2 := fun q => by
    have := ((i1.2 j hj e hem).1 p q).2
    omega
  unfold gaJ
  rw [he]
  dsimp only
  cases hm : inp A p e.2.2 with
  | none => exact ⟨h.gone j _, Cs.gone j, rfl, fun q hq => by cases hq⟩
  | some m =>
    dsimp only
    obtain ⟨il, im⟩ := inp_len hm
    have ind := inp_nd hm (i1.2 j hj e hem).2 hpe
    have hS : ∀ (r : Nat) (f : Int32 × Int32 × List Nat), (stK (tK A j) k m)[r]? = some f → (r ≠ k ∧ (tK A j)[r]? = some f) ∨ (r = k ∧ f = (e.1, e.2.1, m)) := fun r f hf => by
      unfold stK at hf
      rw [List.getElem?_modify] at hf
      by_cases d : k = r
      · rw [← d, he] at hf
        simp at hf
        exact Or.inr ⟨d.symm, by rw [← hf]⟩
      · refine Or.inl ⟨fun q => d q.symm, ?_⟩
        cases h9 : (tK A j)[r]? with
        | none => rw [h9] at hf; cases hf
        | some g =>
          rw [h9] at hf
          have hf' : (if k = r then (g.1, g.2.1, m) else g) = f := Option.some.inj hf
          rw [if_neg d] at hf'
          rw [hf']
    have hKd : Kd (stK (tK A j) k m) := fun r s f g hrs hf hg x hx hxg => by
      rcases hS r f hf with ⟨r1, r2⟩ | ⟨r1, r2⟩
      · rcases hS s g hg with ⟨s1, s2⟩ | ⟨s1, s2⟩
        · exact (k5 j hj).1 r s f g hrs r2 s2 x hx hxg
        · rw [s2] at hxg
          rcases im x hxg with q | q
          · have := ((i1.2 j hj f (List.mem_of_getElem? r2)).1 x hx).2
            rw [q] at this; omega
          · exact (k5 j hj).1 r k f e r1 r2 he x hx q
      · rcases hS s g hg with ⟨s1, s2⟩ | ⟨s1, s2⟩
        · rw [r2] at hx
          rcases im x hx with q | q
          · have := ((i1.2 j hj g (List.mem_of_getElem? s2)).1 x hxg).2
            rw [q] at this; omega
          · exact (k5 j hj).1 k s e g (fun q => s1 q.symm) he s2 x q hxg
        · omega
    have hSl : (stK (tK A j) k m).length = (tK A j).length := by unfold stK; rw [List.length_modify]
    by_cases c1 : 0 ≤ wsz A m 0
    · rw [if_pos c1]
      dsimp only
      have hml : ∀ q, q ∈ m → Hq A c q ∧ q < tN A 1 0 := fun q hq => by
        rcases im q hq with r | r
        · rw [r]; exact ⟨i3 p hp, hp⟩
        · have := ((i1.2 j hj e hem).1 q r).1
          exact ⟨i3 q this, this⟩
      obtain ⟨⟨s, s1, s2⟩, q0, r0, m1, m2⟩ := wsz_ok i5 m 0 (fun q hq => (hml q hq).1) (by omega) c1
      have s1' : wsz A m 0 = Int32.ofNat s := s1
      have hq0m : q0 ∈ m := by rw [m1]; exact List.mem_cons_self ..
      have hq0t : tN A 5 q0 ≠ 0 := by
        rcases im q0 hq0m with r | r
        · rw [r]; omega
        · rw [((i1.2 j hj e hem).1 q0 r).2]; omega
      have hq0n : hv A 405 q0 = hv A 405 p := by
        rcases im q0 hq0m with r | r
        · rw [r]
        · unfold hv; rw [(k4 j hj e hem q0 r).2, he2]
      have hq0H := (hml q0 hq0m).1
      have u6 : tN A 6 (hv A 405 p) = q0 := by rw [← hq0n]; exact hq0H.2.2.2.2.2.1 hq0t m2
      have hpH := i3 p hp
      rw [s1']
      -- what is left behind
      have eI : ∀ g r, tI (uN (uNf (uI (uI (uI (uK (uK A j (stK (tK A j) k m)) j ((stK (tK A j) k m).eraseIdx k)) 407 p 0) 409 p 0) 403 p (Int32.ofNat s)) 5 (fun r => if r ∈ e.2.2 then 0 else tN A 5 r)) 6 (hv A 405 p) p) g r = if g = 403 ∧ r = p then Int32.ofNat s else if g = 409 ∧ r = p then 0 else if g = 407 ∧ r = p then 0 else tI A g r := fun g r => by rw [tI_uN, tI_uNf, tI_uI, tI_uI, tI_uI, tI_uK, tI_uK]
      have eN : ∀ g r, tN (uN (uNf (uI (uI (uI (uK (uK A j (stK (tK A j) k m)) j ((stK (tK A j) k m).eraseIdx k)) 407 p 0) 409 p 0) 403 p (Int32.ofNat s)) 5 (fun r => if r ∈ e.2.2 then 0 else tN A 5 r)) 6 (hv A 405 p) p) g r = if g = 6 ∧ r = hv A 405 p then p else if g = 5 then (if r ∈ e.2.2 then 0 else tN A 5 r) else tN A g r := fun g r => by rw [tN_uN, tN_uNf, tN_uI, tN_uI, tN_uI, tN_uK, tN_uK]
      have eL : tR (uN (uNf (uI (uI (uI (uK (uK A j (stK (tK A j) k m)) j ((stK (tK A j) k m).eraseIdx k)) 407 p 0) 409 p 0) 403 p (Int32.ofNat s)) 5 (fun r => if r ∈ e.2.2 then 0 else tN A 5 r)) 6 (hv A 405 p) p) = tR A ∧ tW (uN (uNf (uI (uI (uI (uK (uK A j (stK (tK A j) k m)) j ((stK (tK A j) k m).eraseIdx k)) 407 p 0) 409 p 0) 403 p (Int32.ofNat s)) 5 (fun r => if r ∈ e.2.2 then 0 else tN A 5 r)) 6 (hv A 405 p) p) = tW A ∧ tM (uN (uNf (uI (uI (uI (uK (uK A j (stK (tK A j) k m)) j ((stK (tK A j) k m).eraseIdx k)) 407 p 0) 409 p 0) 403 p (Int32.ofNat s)) 5 (fun r => if r ∈ e.2.2 then 0 else tN A 5 r)) 6 (hv A 405 p) p) = tM A ∧ tO (uN (uNf (uI (uI (uI (uK (uK A j (stK (tK A j) k m)) j ((stK (tK A j) k m).eraseIdx k)) 407 p 0) 409 p 0) 403 p (Int32.ofNat s)) 5 (fun r => if r ∈ e.2.2 then 0 else tN A 5 r)) 6 (hv A 405 p) p) = tO A ∧ tF (uN (uNf (uI (uI (uI (uK (uK A j (stK (tK A j) k m)) j ((stK (tK A j) k m).eraseIdx k)) 407 p 0) 409 p 0) 403 p (Int32.ofNat s)) 5 (fun r => if r ∈ e.2.2 then 0 else tN A 5 r)) 6 (hv A 405 p) p) = tF A := ⟨rfl, rfl, rfl, rfl, rfl⟩
      have eK : ∀ r, tK (uN (uNf (uI (uI (uI (uK (uK A j (stK (tK A j) k m)) j ((stK (tK A j) k m).eraseIdx k)) 407 p 0) 409 p 0) 403 p (Int32.ofNat s)) 5 (fun r => if r ∈ e.2.2 then 0 else tN A 5 r)) 6 (hv A 405 p) p) r = if r = j then (stK (tK A j) k m).eraseIdx k else tK A r := fun r => by
        rw [tK_uN, tK_uNf, tK_uI, tK_uI, tK_uI, tK_uK]
        by_cases d : r = j
        · rw [if_pos d, if_pos d]
        · rw [if_neg d, if_neg d, tK_uK, if_neg d]
      generalize uN (uNf (uI (uI (uI (uK (uK A j (stK (tK A j) k m)) j ((stK (tK A j) k m).eraseIdx k)) 407 p 0) 409 p 0) 403 p (Int32.ofNat s)) 5 (fun r => if r ∈ e.2.2 then 0 else tN A 5 r)) 6 (hv A 405 p) p = B at *
      obtain ⟨l1, l2, l3, l4, l5⟩ := eL
      have n : ∀ g r, g ≠ 5 → g ≠ 6 → tN B g r = tN A g r := fun g r h5 h6 => by rw [eN, if_neg (fun q => h6 q.1), if_neg h5]
      have n5 : ∀ r, tN B 5 r = if r ∈ e.2.2 then 0 else tN A 5 r := fun r => by rw [eN, if_neg (by omega), if_pos rfl]
      have n5o : ∀ r, tN A 5 r ≠ 20 + j → tN B 5 r = tN A 5 r := fun r hr => by
        rw [n5, if_neg]
        exact fun q => hr ((i1.2 j hj e hem).1 r q).2
      have n5p : tN B 5 p = 3 := by rw [n5o p (by omega)]; exact hp3
      have n1 := n 1 0 (by omega) (by omega)
      have n9 := n 901 0 (by omega) (by omega)
      have eIo : ∀ g r, r ≠ p → tI B g r = tI A g r := fun g r hr => by rw [eI, if_neg (fun q => hr q.2), if_neg (fun q => hr q.2), if_neg (fun q => hr q.2)]
      have eIp : ∀ g, g ≠ 403 → g ≠ 407 → g ≠ 409 → tI B g p = tI A g p := fun g g1 g2 g3 => by rw [eI, if_neg (fun q => g1 q.1), if_neg (fun q => g3 q.1), if_neg (fun q => g2 q.1)]
      have hKm : ∀ f, f ∈ (stK (tK A j) k m).eraseIdx k → f ∈ tK A j ∧ ∀ x, x ∈ f.2.2 → x ∉ e.2.2 := fun f hf => by
        obtain ⟨r, hr⟩ := List.mem_iff_getElem?.mp hf
        rw [List.getElem?_eraseIdx] at hr
        have key : ∀ r', r' ≠ k → (stK (tK A j) k m)[r']? = some f → f ∈ tK A j ∧ ∀ x, x ∈ f.2.2 → x ∉ e.2.2 := fun r' hr' hf' => by
          rcases hS r' f hf' with ⟨t1, t2⟩ | ⟨t1, t2⟩
          · exact ⟨List.mem_of_getElem? t2, fun x hx => (k5 j hj).1 r' k f e t1 t2 he x hx⟩
          · exact absurd t1 hr'
        split at hr
        · exact key r (by omega) hr
        · exact key (r + 1) (by omega) hr
      refine ⟨⟨?_, ?_, fun r hr => ?_, ⟨fun f hf => ?_, by rw [l5]; exact k2, by rw [l2]; exact k3, fun r hr f hf x hx => ?_, fun r hr => ?_, by rw [l3]; exact k6, fun r hr f hf => ?_⟩, i5, by omega⟩, ⟨by omega, by omega, by rw [n 3 0 (by omega) (by omega)]; omega, by omega, by omega, fun r => by rw [l4]; omega, fun r => by rw [n 204 r (by omega) (by omega)]; omega, ⟨n 902 0 (by omega) (by omega), n 903 0 (by omega) (by omega), fun r => n 907 r (by omega) (by omega)⟩, l3⟩, l2, fun q hq => ?_⟩
      · refine ⟨fun r hr => ?_, fun r hr f hf => ?_⟩
        · rw [l2, n1]
          exact ⟨fun f hf => ⟨((i1.1 r hr).1 f hf).1, by rw [n5o _ (by rw [((i1.1 r hr).1 f hf).2]; omega)]; exact ((i1.1 r hr).1 f hf).2⟩, (i1.1 r hr).2⟩
        · rw [eK] at hf
          rw [n1]
          by_cases d : r = j
          · rw [if_pos d] at hf
            obtain ⟨f1, f2⟩ := hKm f hf
            rw [d]
            exact ⟨fun x hx => ⟨((i1.2 j hj f f1).1 x hx).1, by rw [n5, if_neg (f2 x hx)]; exact ((i1.2 j hj f f1).1 x hx).2⟩, (i1.2 j hj f f1).2⟩
          · rw [if_neg d] at hf
            exact ⟨fun x hx => ⟨((i1.2 r hr f hf).1 x hx).1, by rw [n5o _ (by rw [((i1.2 r hr f hf).1 x hx).2]; omega)]; exact ((i1.2 r hr f hf).1 x hx).2⟩, (i1.2 r hr f hf).2⟩
      · exact ⟨fun f hf => by rw [l5] at hf; rw [n1]; exact i2.1 f hf, fun r hr => by rw [n1] at hr ⊢; rw [l1]; exact i2.2 r hr⟩
      · rw [n1] at hr
        have t0 : tN B 5 r ≠ 0 → tN A 5 r ≠ 0 := fun q q0 => q (by rw [n5]; split; rfl; exact q0)
        by_cases d : r = p
        · subst d
          obtain ⟨a1, ⟨a2, a3, a4, a5, a6, a7, a8, a9, a10⟩, a11, a12, a13, a14, a15, a16⟩ := hpH
          refine Hq.mk (k := hv A 400 r) (f := hv A 401 r) (t := hv A 402 r) (s := s) (tt := hv A 404 r) (m := hv A 405 r) (a := hv A 406 r) (l := 0) (v := hv A 408 r) (o := 0) ((eIp 400 (by omega) (by omega) (by omega)).trans (a1 400 (by omega) (by omega))) ((eIp 401 (by omega) (by omega) (by omega)).trans (a1 401 (by omega) (by omega))) ((eIp 402 (by omega) (by omega) (by omega)).trans (a1 402 (by omega) (by omega))) (by rw [eI, if_pos ⟨rfl, rfl⟩]) ((eIp 404 (by omega) (by omega) (by omega)).trans (a1 404 (by omega) (by omega))) ((eIp 405 (by omega) (by omega) (by omega)).trans (a1 405 (by omega) (by omega))) ((eIp 406 (by omega) (by omega) (by omega)).trans (a1 406 (by omega) (by omega))) (by rw [eI, if_neg (by omega), if_neg (by omega), if_pos ⟨rfl, rfl⟩]; rfl) ((eIp 408 (by omega) (by omega) (by omega)).trans (a1 408 (by omega) (by omega))) (by rw [eI, if_neg (by omega), if_pos ⟨rfl, rfl⟩]; rfl)
            (by omega) (by omega) a3 (by rw [n 7 _ (by omega) (by omega)]; exact a4) a5 a6 (by omega) i5 a8 (by omega) a10 (hv_lt _ _ _) (fun q1 q2 => ?_) a12 (fun _ => a13 (by omega)) (fun _ _ => by rw [eN, if_pos ⟨rfl, rfl⟩]) (fun q => ?_) (fun q _ _ => ?_)
          · exfalso
            have := a11 q1 q2
            refine hpc ⟨?_, ?_⟩
            · rw [a1 407 (by omega) (by omega), this.2.1]; rfl
            · rw [a1 409 (by omega) (by omega), this.2.2]; rfl
          · obtain ⟨d, d1, d2, d3⟩ := a15 q
            exact ⟨d, by rw [l1]; exact d1, d2, by rw [n 8 _ (by omega) (by omega)]; exact d3⟩
          · have k60 : hv A 400 q0 = 6 := by
              rw [← hq0H.2.1.2.2.1, hq0n, a4]; exact q
            have := hq0H.2.2.2.2.2.2.2 k60 hq0t m2
            rw [hq0n] at this
            rw [n 8 _ (by omega) (by omega), n5o _ (by omega)]; exact this
        · refine (i3 r hr).mv (fun g _ _ => eIo g r d) (by rw [l1]) (by omega) (Nat.le_refl _) (n 7 _ (by omega) (by omega)) (n 8 _ (by omega) (by omega)) t0 (fun q1 q2 => ?_) (fun _ _ _ q => ?_)
          · by_cases d2 : hv A 405 r = hv A 405 p
            · exfalso
              have := (i3 r hr).2.2.2.2.2.1 (t0 q1) q2
              rw [d2, u6] at this
              rcases im q0 hq0m with x | x
              · exact d (this.symm.trans x)
              · rw [this] at x
                exact q1 (by rw [n5, if_pos x])
            · rw [eN, if_neg (fun q => d2 q.2), if_neg (by omega)]
          · rw [n5o _ (by omega)]; exact q
      · rw [l5] at hf
        exact (k1 f hf).mv (by omega) (fun r _ hr1 => by rw [n5o r (by omega)]; exact hr1)
      · rw [eK] at hf
        have fin : f ∈ tK A r ∧ x ≠ p := by
          by_cases d : r = j
          · rw [if_pos d] at hf
            rw [d]
            refine ⟨(hKm f hf).1, fun q => ?_⟩
            have := ((i1.2 j hj f (hKm f hf).1).1 x hx).2
            rw [q] at this; omega
          · rw [if_neg d] at hf
            refine ⟨hf, fun q => ?_⟩
            have := ((i1.2 r hr f hf).1 x hx).2
            rw [q] at this; omega
        rw [eIo _ _ fin.2, eIo _ _ fin.2]; exact k4 r hr f fin.1 x hx
      · rw [eK]
        by_cases d : r = j
        · rw [if_pos d]
          exact ⟨hKd.er k, by
            have h1 := List.length_eraseIdx_le (stK (tK A j) k m) k
            have := (k5 j hj).2
            omega⟩
        · rw [if_neg d]; exact k5 r hr
      · rw [l4] at hf; exact (k7 r hr f hf).mv (by omega)
      · refine ⟨(Option.some.inj hq).symm, n1, n5p, ?_, eIp 400 (by omega) (by omega) (by omega), eIp 402 (by omega) (by omega) (by omega)⟩
        unfold hv
        rw [eI, if_neg (by omega), if_neg (by omega), if_pos ⟨rfl, rfl⟩]; rfl
    · rw [if_neg c1]
      dsimp only
      have n : ∀ g r, g ≠ 5 → tN (uN (uK A j (stK (tK A j) k m)) 5 p (20 + j)) g r = tN A g r := fun g r hg => by rw [tN_uN, if_neg (fun q => hg q.1), tN_uK]
      have n5 : ∀ r, r ≠ p → tN (uN (uK A j (stK (tK A j) k m)) 5 p (20 + j)) 5 r = tN A 5 r := fun r hr => by rw [tN_uN, if_neg (fun q => hr q.2), tN_uK]
      have n5p : tN (uN (uK A j (stK (tK A j) k m)) 5 p (20 + j)) 5 p = 20 + j := by rw [tN_uN, if_pos ⟨rfl, rfl⟩]
      have eK : ∀ r, tK (uN (uK A j (stK (tK A j) k m)) 5 p (20 + j)) r = if r = j then stK (tK A j) k m else tK A r := fun r => by rw [tK_uN, tK_uK]
      have eL : tI (uN (uK A j (stK (tK A j) k m)) 5 p (20 + j)) = tI A ∧ tR (uN (uK A j (stK (tK A j) k m)) 5 p (20 + j)) = tR A ∧ tW (uN (uK A j (stK (tK A j) k m)) 5 p (20 + j)) = tW A ∧ tM (uN (uK A j (stK (tK A j) k m)) 5 p (20 + j)) = tM A ∧ tO (uN (uK A j (stK (tK A j) k m)) 5 p (20 + j)) = tO A ∧ tF (uN (uK A j (stK (tK A j) k m)) 5 p (20 + j)) = tF A := ⟨rfl, rfl, rfl, rfl, rfl, rfl⟩
      generalize uN (uK A j (stK (tK A j) k m)) 5 p (20 + j) = B at *
      obtain ⟨l0, l1, l2, l3, l4, l5⟩ := eL
      have n1 := n 1 0 (by omega)
      have n9 := n 901 0 (by omega)
      have hKm : ∀ f, f ∈ stK (tK A j) k m → f ∈ tK A j ∨ f = (e.1, e.2.1, m) := fun f hf => by
        obtain ⟨r, hr⟩ := List.mem_iff_getElem?.mp hf
        rcases hS r f hr with ⟨t1, t2⟩ | ⟨t1, t2⟩
        · exact Or.inl (List.mem_of_getElem? t2)
        · exact Or.inr t2
      refine ⟨⟨?_, ?_, fun r hr => ?_, ⟨fun f hf => ?_, by rw [l5]; exact k2, by rw [l2]; exact k3, fun r hr f hf x hx => ?_, fun r hr => ?_, by rw [l3]; exact k6, fun r hr f hf => ?_⟩, i5, by omega⟩, ⟨by omega, by omega, by rw [n 3 0 (by omega)]; omega, by omega, by omega, fun r => by rw [l4]; omega, fun r => by rw [n 204 r (by omega)]; omega, ⟨n 902 0 (by omega), n 903 0 (by omega), fun r => n 907 r (by omega)⟩, l3⟩, l2, fun q hq => by cases hq⟩
      · refine ⟨fun r hr => ?_, fun r hr f hf => ?_⟩
        · rw [l2, n1]
          exact ⟨fun f hf => ⟨((i1.1 r hr).1 f hf).1, by rw [n5 _ (fun q => by have := ((i1.1 r hr).1 f hf).2; rw [q] at this; omega)]; exact ((i1.1 r hr).1 f hf).2⟩, (i1.1 r hr).2⟩
        · rw [eK] at hf
          rw [n1]
          have old : ∀ f, f ∈ tK A r → (∀ x, x ∈ f.2.2 → x < tN A 1 0 ∧ tN B 5 x = 20 + r) ∧ f.2.2.Nodup := fun f hf =>
            ⟨fun x hx => ⟨((i1.2 r hr f hf).1 x hx).1, by rw [n5 _ (fun q => by have := ((i1.2 r hr f hf).1 x hx).2; rw [q] at this; omega)]; exact ((i1.2 r hr f hf).1 x hx).2⟩, (i1.2 r hr f hf).2⟩
          by_cases d : r = j
          · rw [if_pos d] at hf
            rcases hKm f hf with q | q
            · exact old f (by rw [d]; exact q)
            · rw [q]
              refine ⟨fun x hx => ?_, ind⟩
              rcases im x hx with y | y
              · rw [y, d]; exact ⟨hp, n5p⟩
              · exact (old e (by rw [d]; exact hem)).1 x y
          · rw [if_neg d] at hf; exact old f hf
      · exact ⟨fun f hf => by rw [l5] at hf; rw [n1]; exact i2.1 f hf, fun r hr => by rw [n1] at hr ⊢; rw [l1]; exact i2.2 r hr⟩
      · rw [n1] at hr
        refine (i3 r hr).mv (fun g _ _ => by rw [l0]) (by rw [l1]) (by omega) (Nat.le_refl _) (n 7 _ (by omega)) (n 8 _ (by omega)) (fun q q0 => ?_) (fun _ _ => n 6 _ (by omega)) (fun _ _ _ q => ?_)
        · by_cases d : r = p
          · rw [d] at q0; omega
          · exact q (by rw [n5 r d]; exact q0)
        · rw [n5 _ (fun x => by rw [x] at q; omega)]; exact q
      · rw [l5] at hf
        exact (k1 f hf).mv (by omega) (fun r _ hr1 => by rw [n5 r (fun x => by rw [x] at hr1; omega)]; exact hr1)
      · rw [eK] at hf
        rw [l0]
        by_cases d : r = j
        · rw [if_pos d] at hf
          rcases hKm f hf with q | q
          · exact k4 j hj f q x hx
          · rw [q] at hx ⊢
            rcases im x hx with y | y
            · rw [y]; exact ⟨he1.symm, he2.symm⟩
            · exact k4 j hj e hem x y
        · rw [if_neg d] at hf; exact k4 r hr f hf x hx
      · rw [eK]
        by_cases d : r = j
        · rw [if_pos d]
          exact ⟨hKd, by rw [hSl]; exact (k5 j hj).2⟩
        · rw [if_neg d]; exact k5 r hr
      · rw [l4] at hf; exact (k7 r hr f hf).mv (by omega)
end GT
