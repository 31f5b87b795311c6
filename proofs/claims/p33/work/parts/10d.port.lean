/-! ===== PURE: to the hop, by a port, and the invariant ===== -/
section GI
variable {P T X i j n c : Nat} {z w u : Wd} {b : Be} {A A' : Ta}
theorem Hq.ltn (h : Iv P z c A) {p : Nat} (hp : p < tN A 1 0) (h5 : tN A 5 p ≠ 0) : 1 ≤ hv A 404 p := (h.2.2.1 p hp).2.2.2.2.1 h5
theorem Iv.px (h : Iv P z c A) (hj : j < 8) {p q k : Nat} {x : Int32} (hp : p < tN A 1 0) (hp3 : tN A 5 p = 3) (hq : Pq P z j k q) : Iv P z c (pxA A j (p, x, q)) ∧ Cs A (pxA A j (p, x, q)) 0 0 0 1 := by
  obtain ⟨i1, i2, i3, i4, i5, i6⟩ := h
  obtain ⟨k1, k2, k3, k4, k5, k6, k7⟩ := i4
  obtain ⟨o1, o2, o3, o4, o5, o6, o7, o8, o9⟩ := pwA_o (A := A) (j := j) (e := (p, x, q))
  have h1 : tN (pxA A j (p, x, q)) 1 0 = tN A 1 0 := px_N (by omega) (Or.inl (by omega))
  have h5 : ∀ r, r ≠ p → tN (pxA A j (p, x, q)) 5 r = tN A 5 r := fun r hr => px_N (by omega) (Or.inr hr)
  have hX : Ix (pxA A j (p, x, q)) := i1.px hj hp hp3
  have hY : Iy (pxA A j (p, x, q)) := i2.px
  have eN : ∀ g r, g ≠ 204 → g ≠ 5 → tN (pxA A j (p, x, q)) g r = tN A g r := fun g r g1 g2 => px_N g1 (Or.inl g2)
  have h204 : ∀ r, tN A 204 r ≤ tN (pxA A j (p, x, q)) 204 r ∧ tN (pxA A j (p, x, q)) 204 r ≤ tN A 204 r + 1 := fun r => by
    unfold pxA pwA
    rw [tN_uN, if_neg (by omega)]
    split
    · rw [tN_uW]; omega
    · rw [tN_uW, tN_uN, tN_uW]
      by_cases e : r = j
      · rw [if_pos ⟨rfl, e⟩, e]; omega
      · rw [if_neg (fun q => e q.2)]; omega
  have p1 : tI (pxA A j (p, x, q)) = tI A := by unfold pxA; rw [tI_uN]; exact o1
  have p2 : tR (pxA A j (p, x, q)) = tR A := by unfold pxA; rw [tR_uN]; exact o2
  have p3 : tK (pxA A j (p, x, q)) = tK A := by unfold pxA; rw [tK_uN]; exact o3
  have p4 : tM (pxA A j (p, x, q)) = tM A := by unfold pxA; rw [tM_uN]; exact o4
  have p5 : tO (pxA A j (p, x, q)) = tO A := by unfold pxA; rw [tO_uN]; exact o5
  have p6 : tF (pxA A j (p, x, q)) = tF A := by unfold pxA; rw [tF_uN]; exact o6
  have p8 : ∀ r, r ≠ j → tW (pxA A j (p, x, q)) r = tW A r := fun r hr => by unfold pxA; rw [tW_uN]; exact o8 r hr
  have p9 : tW (pxA A j (p, x, q)) j = (if (tW A j).length < 6 then tW A j else (tW A j).tail) ++ [(p, x, q)] := by unfold pxA; rw [tW_uN]; exact o9
  generalize pxA A j (p, x, q) = B at *
  refine ⟨⟨hX, hY, fun r hr => ?_, ⟨fun f hf => ?_, by rw [p6]; exact k2, fun r hr e he => ?_, fun r hr e he => ?_, by rw [p3]; exact k5, by rw [p4]; exact k6, fun r hr f hf => ?_⟩, i5, by rw [eN 901 0 (by omega) (by omega)]; exact i6⟩, ⟨by omega, by omega, by rw [eN 3 0 (by omega) (by omega)]; omega, by rw [eN 901 0 (by omega) (by omega)]; omega, by rw [eN 901 0 (by omega) (by omega)]; omega, fun r => by rw [p5]; omega, h204, ⟨eN 902 0 (by omega) (by omega), eN 903 0 (by omega) (by omega), fun r => eN 907 r (by omega) (by omega)⟩, p4⟩⟩
  · rw [h1] at hr
    refine (i3 r hr).mv (fun g _ _ => by rw [p1]) (by rw [p2]) (by rw [eN 901 0 (by omega) (by omega)]; omega) (Nat.le_refl _) (eN _ _ (by omega) (by omega)) (eN _ _ (by omega) (by omega)) (fun q r0 => ?_) (fun _ _ => eN _ _ (by omega) (by omega)) (fun _ _ _ h0 => ?_)
    · by_cases e : r = p
      · rw [e] at r0; omega
      · rw [h5 r e] at q; exact q r0
    · rw [h5 _ (fun e => by rw [e] at h0; omega)]; exact h0
  · rw [p6] at hf
    exact (k1 f hf).mv (by omega) (fun r _ hr1 => by rw [h5 r (fun e => by rw [e] at hr1; omega)]; exact hr1)
  · by_cases d : r = j
    · subst d
      rw [p9] at he
      rcases List.mem_append.mp he with he | he
      · refine k3 r hr e ?_
        split at he
        · exact he
        · exact List.mem_of_mem_tail he
      · rw [List.mem_singleton.mp he]; exact ⟨k, hq⟩
    · rw [p8 r d] at he; exact k3 r hr e he
  · rw [p3] at he; rw [p1]; exact k4 r hr e he
  · rw [p5] at hf; exact (k7 r hr f hf).mv (by rw [eN 901 0 (by omega) (by omega)]; omega)
/-- a frame added: its packet, if it has one, tagged 1 -/
theorem Iv.ad (h : Iv P z c A) {q : Nat} {so to ad : Int32} {o : Option Nat} {k : Nat} (hi : Pq P z i k q) (ha : so = 2 → ad = wd_I z 702 q) (hA : A' = match o with | none => adF z A q so to ad o | some p => uN (adF z A q so to ad o) 5 p 1)
    (hs : (so = 1 ∧ to = -1 ∧ o = none) ∨ (so = 2 ∧ Mk P z to ∧ o = none) ∨ (so = 0 ∧ Mk P z to ∧ ∃ p, o = some p ∧ p < tN A 1 0 ∧ tN A 5 p = 3)) :
    Iv P z c A' ∧ Cs A A' 0 1 0 0 ∧ tW A' = tW A := by
  obtain ⟨i1, i2, i3, i4, i5, i6⟩ := h
  obtain ⟨k1, k2, k3, k4, k5, k6, k7⟩ := i4
  have e3 : ∀ g x, g ≠ 3 → tN (adF z A q so to ad o) g x = tN A g x := fun g x hg => by
    unfold adF
    rw [tN_uF, tN_uN, if_neg (fun q => hg q.1)]
  have eF : tF A' = tF A ++ [(fv (wd_I z 701 q) (wd_I z 700 q) so to ad, o)] → True := fun _ => trivial
  have hF : tF A' = tF A ++ [(fv (wd_I z 701 q) (wd_I z 700 q) to so ad, o)] := by
    rw [hA]
    cases o with
    | none => rfl
    | some p => rfl
  have hE : tI A' = tI A ∧ tR A' = tR A ∧ tW A' = tW A ∧ tK A' = tK A ∧ tM A' = tM A ∧ tO A' = tO A := by
    rw [hA]
    cases o with
    | none => exact ⟨rfl, rfl, rfl, rfl, rfl, rfl⟩
    | some p => exact ⟨rfl, rfl, rfl, rfl, rfl, rfl⟩
  have hN : ∀ g x, g ≠ 3 → g ≠ 5 → tN A' g x = tN A g x := fun g x g3 g5 => by
    rw [hA]
    cases o with
    | none => exact e3 g x g3
    | some p =>
      show tN (uN _ 5 p 1) g x = _
      rw [tN_uN, if_neg (fun q => g5 q.1)]; exact e3 g x g3
  have hN3 : tN A' 3 0 ≤ tN A 3 0 + 1 := by
    rw [hA]
    cases o with
    | none =>
      show tN (adF z A q so to ad none) 3 0 ≤ _
      unfold adF
      rw [tN_uF, tN_uN, if_pos ⟨rfl, rfl⟩]; omega
    | some p =>
      show tN (uN _ 5 p 1) 3 0 ≤ _
      unfold adF
      rw [tN_uN, if_neg (by omega), tN_uF, tN_uN, if_pos ⟨rfl, rfl⟩]; omega
  have h5 : ∀ x, tN A 5 x ≠ 3 → tN A' 5 x = tN A 5 x := fun x hx => by
    rw [hA]
    cases o with
    | none => exact e3 5 x (by omega)
    | some p =>
      show tN (uN _ 5 p 1) 5 x = _
      have hp3 : tN A 5 p = 3 := by
        rcases hs with q | q | q
        · cases q.2.2
        · cases q.2.2
        · obtain ⟨-, -, r, r1, r2, r3⟩ := q
          rw [Option.some.inj r1]; exact r3
      rw [tN_uN, if_neg (fun q => hx (by rw [q.2]; exact hp3))]; exact e3 5 x (by omega)
  have h51 : ∀ p, o = some p → tN A' 5 p = 1 := fun p hp => by
    rw [hA, hp]
    show tN (uN _ 5 p 1) 5 p = 1
    rw [tN_uN, if_pos ⟨rfl, rfl⟩]
  have h50 : ∀ x, tN A' 5 x ≠ 0 → tN A 5 x ≠ 0 := fun x hx h0 => hx (by rw [h5 x (by omega)]; exact h0)
  clear hA e3 eF
  obtain ⟨e1, e2, e4, e5, e6, e7⟩ := hE
  have n1 := hN 1 0 (by omega) (by omega)
  have n9 := hN 901 0 (by omega) (by omega)
  refine ⟨⟨i1.mv e4 e5 (by omega) (fun r p _ _ hp => h5 p (by omega)), ⟨fun f hf r hr => ?_, fun r hr d hd => ?_⟩, fun r hr => ?_, ⟨fun f hf => ?_, ?_, by rw [e4]; exact k3, by rw [e5, e1]; exact k4, by rw [e5]; exact k5, by rw [e6]; exact k6, fun r hr f hf => ?_⟩, i5, by omega⟩, ⟨by omega, by omega, hN3, by omega, by omega, fun r => by rw [e7]; omega, fun r => by rw [hN 204 r (by omega) (by omega)]; omega, ⟨hN 902 0 (by omega) (by omega), hN 903 0 (by omega) (by omega), fun r => hN 907 r (by omega) (by omega)⟩, e6⟩, e4⟩
  · rw [n1]
    rw [hF] at hf
    rcases List.mem_append.mp hf with hf | hf
    · exact i2.1 f hf r hr
    · rw [List.mem_singleton.mp hf] at hr
      have hr' : o = some r := hr
      rcases hs with q | q | ⟨-, -, p, q1, q2, -⟩
      · rw [q.2.2] at hr'; cases hr'
      · rw [q.2.2] at hr'; cases hr'
      · rw [q1] at hr'; rw [← Option.some.inj hr']; exact q2
  · rw [n1] at hr ⊢
    rw [e2] at hd
    exact i2.2 r hr d hd
  · rw [n1] at hr
    refine (i3 r hr).mv (fun g _ _ => by rw [e1]) (by rw [e2]) (by omega) (Nat.le_refl _) (hN 7 _ (by omega) (by omega)) (hN 8 _ (by omega) (by omega)) (h50 r) (fun _ _ => hN 6 _ (by omega) (by omega)) (fun _ _ _ h0 => ?_)
    rw [h5 _ (by omega)]; exact h0
  · rw [hF] at hf
    rcases List.mem_append.mp hf with hf | hf
    · exact (k1 f hf).mv (by omega) (fun r _ hr1 => by rw [h5 r (by omega)]; exact hr1)
    · rw [List.mem_singleton.mp hf]
      refine ⟨⟨i, k, q, hi, rfl, rfl, fun e => ha e⟩, ?_⟩
      rcases hs with q | q | ⟨q0, q1, p, q2, q3, q4⟩
      · exact Or.inl q
      · exact Or.inr (Or.inl q)
      · exact Or.inr (Or.inr ⟨q0, q1, p, q2, by omega, h51 p q2⟩)
  · rw [hF, List.filterMap_append, List.nodup_append]
    refine ⟨k2, ?_, fun a ha d hd => ?_⟩
    · cases o with
      | none => exact List.nodup_nil
      | some p => exact List.nodup_cons.mpr ⟨List.not_mem_nil, List.nodup_nil⟩
    · rcases hs with q | q | ⟨q0, q1, p, q2, q3, q4⟩
      · rw [q.2.2] at hd; exact absurd hd List.not_mem_nil
      · rw [q.2.2] at hd; exact absurd hd List.not_mem_nil
      · rw [q2] at hd
        have hd' : d = p := List.mem_singleton.mp hd
        rw [hd']
        obtain ⟨f, hf, hfa⟩ := List.mem_filterMap.mp ha
        rcases (k1 f hf).2 with q | q | ⟨-, -, r, r1, r2, r3⟩
        · rw [q.2.2] at hfa; cases hfa
        · rw [q.2.2] at hfa; cases hfa
        · rw [r1] at hfa
          have : r = a := Option.some.inj hfa
          rw [← this]
          intro e
          rw [e] at r3
          omega
  · rw [e7] at hf; exact (k7 r hr f hf).mv (by omega)
theorem kmv_k (h : Lq P z A) (hz : PS P z) (hj : j < 8) {x : Int32} (hx : ¬ kmv A j x < 0) : Mk P z (kmv A j x) := by
  unfold kmv at *
  by_cases c1 : x < 0
  · rw [if_pos c1] at hx; exact absurd (by decide) hx
  rw [if_neg c1] at hx ⊢
  by_cases c2 : Int32.ofNat 256 ≤ x
  · rw [if_pos c2] at hx; exact absurd (by decide) hx
  rw [if_neg c2] at hx ⊢
  obtain ⟨k, hk, rfl⟩ := j_up (N := 256) c1 (by omega) c2
  rw [j_nn (by omega)] at hx ⊢
  rcases h.2.2.2.2.2.1 j k hj hk with q | ⟨q, q1, q2⟩
  · rw [q] at hx; exact absurd (by decide) hx
  · obtain ⟨i, k', h1, h2, h3, h4⟩ := hz.2.2.2.2.2.2.1 k q hk q1
    exact ⟨i, k', q, ⟨h1, h2, h3⟩, by rw [q2]; exact (hz.2.2.2.2.2.1 i k' q h1 h2 h3).1⟩
theorem gt_iv (h : Iv P z c A) (hz : PS P z) (hj : j < 8) {p q k : Nat} (hp : p < tN A 1 0) (hp3 : tN A 5 p = 3) (hq : Pq P z j k q) :
    Iv P z c (gtF P z A j p q) ∧ Cs A (gtF P z A j p q) 0 1 0 1 ∧ (tW (gtF P z A j p q) j).length ≤ (tW A j).length + 1 ∧ (∀ r, r ≠ j → tW (gtF P z A j p q) r = tW A r) ∧ (∀ g x, 6 ≤ g → g ≤ 8 → tN (gtF P z A j p q) g x = tN A g x) := by
  unfold gtF
  generalize hpv P z j (tI A 402 p) = x
  unfold gtG
  by_cases c1 : kmv A j x < 0
  · rw [if_pos c1]
    obtain ⟨g1, g2⟩ := h.px hj (x := x) hp hp3 hq
    have g3 : (tW (pxA A j (p, x, q)) j).length ≤ (tW A j).length + 1 := by
      unfold pxA
      rw [tW_uN, pwA_o.2.2.2.2.2.2.2.2, List.length_append]
      split
      · simp
      · rw [List.length_tail, List.length_singleton]; omega
    have g4 : ∀ r, r ≠ j → tW (pxA A j (p, x, q)) r = tW A r := fun r hr => by unfold pxA; rw [tW_uN]; exact pwA_o.2.2.2.2.2.2.2.1 r hr
    have g5 : ∀ g y, 6 ≤ g → g ≤ 8 → tN (pxA A j (p, x, q)) g y = tN A g y := fun g y h6 h8 => px_N (by omega) (Or.inl (by omega))
    generalize pxA A j (p, x, q) = B at *
    by_cases d : cwv (tW B j) x = 1
    · rw [if_pos d]
      obtain ⟨k1, k2, k3⟩ := g1.ad (so := 1) (to := -1) (ad := x) (o := none) (A' := adF z B q 1 (-1) x none) hq (fun e => absurd e (by decide)) rfl (Or.inl ⟨rfl, rfl, rfl⟩)
      exact ⟨k1, (g2.tr k2).le (by omega) (by omega) (by omega) (by omega), by rw [k3]; exact g3, fun r hr => by rw [k3]; exact g4 r hr, fun g y h6 h8 => by
        unfold adF
        rw [tN_uF, tN_uN, if_neg (by omega)]; exact g5 g y h6 h8⟩
    · rw [if_neg d]
      exact ⟨g1, g2.le (by omega) (by omega) (by omega) (by omega), g3, g4, g5⟩
  · rw [if_neg c1]
    obtain ⟨k1, k2, k3⟩ := h.ad (so := 0) (to := kmv A j x) (ad := -1) (o := some p) (A' := uN (adF z A q 0 (kmv A j x) (-1) (some p)) 5 p 1) hq (fun e => absurd e (by decide)) rfl (Or.inr (Or.inr ⟨rfl, kmv_k h.2.2.2.1 hz hj c1, p, rfl, hp, hp3⟩))
    exact ⟨k1, k2.le (by omega) (by omega) (by omega) (by omega), by rw [k3]; omega, fun r _ => by rw [k3], fun g y h6 h8 => by
      unfold adF
      rw [tN_uN, if_neg (by omega), tN_uF, tN_uN, if_neg (by omega)]⟩
/-- a piece cut off p, which is dead -/
theorem ct_iv (h : Iv P z c A) {p x mo : Nat} (hp : p < tN A 1 0) (hp0 : tN A 5 p = 0) (ht : 1 ≤ hv A 404 p) (hx : x < hv A 403 p) (hmo : 1 ≤ mo) (hmo2 : mo < 1000)
    (h0 : x = 0 → hv A 407 p = 0 → tN A 6 (hv A 405 p) = p ∧ (hv A 400 p = 6 → tN A 5 (tN A 8 (hv A 405 p)) = 100 + hv A 405 p)) : Iv P z c (ctA A p (Int32.ofNat x) (Int32.ofNat mo)) ∧ Cs A (ctA A p (Int32.ofNat x) (Int32.ofNat mo)) 1 0 0 0 := by
  have hh := h.2.2.1 p hp
  obtain ⟨a1, ⟨a2, a3, a4, a5, a6, a7, a8, a9, a10⟩, a11, a12, a13, a14, a15, a16⟩ := hh
  have hc := h.2.2.2.2.1
  have e3 := a1 403 (by omega) (by omega)
  have e7 := a1 407 (by omega) (by omega)
  have e9 := a1 409 (by omega) (by omega)
  have s1 : tI A 403 p - Int32.ofNat x = Int32.ofNat (hv A 403 p - x) := by rw [e3]; exact j_sb (by omega)
  have s2 : tI A 407 p + Int32.ofNat x = Int32.ofNat (hv A 407 p + x) := by rw [e7]; exact j_ad _ _
  have h403 : hdC A p (Int32.ofNat x) (Int32.ofNat mo) 403 = Int32.ofNat (if hv A 403 p - x < mo then hv A 403 p - x else mo) := by
    show (if tI A 403 p - Int32.ofNat x < Int32.ofNat mo then tI A 403 p - Int32.ofNat x else Int32.ofNat mo) = _
    rw [s1]
    by_cases e : hv A 403 p - x < mo
    · rw [if_pos e, if_pos (by rw [j_lx (by omega) (by omega)]; exact e)]
    · rw [if_neg e, if_neg (by rw [j_lx (by omega) (by omega)]; exact e)]
  have h409 : ∃ o, o ≤ 1 ∧ hdC A p (Int32.ofNat x) (Int32.ofNat mo) 409 = Int32.ofNat o := by
    show ∃ o, o ≤ 1 ∧ (if tI A 409 p = 0 ∧ tI A 403 p - Int32.ofNat x ≤ Int32.ofNat mo then (0 : Int32) else 1) = Int32.ofNat o
    split
    · exact ⟨0, by omega, rfl⟩
    · exact ⟨1, by omega, rfl⟩
  obtain ⟨o, o1, o2⟩ := h409
  have eI : ∀ g, tI (ctA A p (Int32.ofNat x) (Int32.ofNat mo)) g (tN A 1 0) = hdC A p (Int32.ofNat x) (Int32.ofNat mo) g := fun g => by
    unfold ctA
    rw [tI_uN, tI_uN]
    show (if tN A 1 0 = tN A 1 0 then _ else _) = _
    rw [if_pos rfl]
  have e6 : ∀ m, tN (ctA A p (Int32.ofNat x) (Int32.ofNat mo)) 6 m = if m = hv A 405 p then (if hv A 407 p + x = 0 then tN A 1 0 else tN A 6 m) else tN A 6 m := fun m => by
    unfold ctA
    rw [tN_uN]
    by_cases e : m = hv A 405 p
    · rw [if_pos ⟨rfl, e⟩, if_pos e, s2, e]
      by_cases d : hv A 407 p + x = 0
      · rw [if_pos d, if_pos (by rw [d]; rfl)]
      · rw [if_neg d, if_neg (by rw [show (0 : Int32) = Int32.ofNat 0 from rfl, j_ee (by omega) (by omega)]; exact d)]
    · rw [if_neg (fun q => e q.2), if_neg e, tN_uN, if_neg (by omega), nw_N, if_neg (by omega)]
  have eN : ∀ g r, g ≠ 6 → tN (ctA A p (Int32.ofNat x) (Int32.ofNat mo)) g r = if g = 5 ∧ r = tN A 1 0 then 3 else if g = 1 ∧ r = 0 then tN A 1 0 + 1 else tN A g r := fun g r hg => ct_N hg
  have eo : ∀ g i, i < tN A 1 0 → tI (ctA A p (Int32.ofNat x) (Int32.ofNat mo)) g i = tI A g i := fun g i hi => ct_I hi
  have eR : ∀ r, tR (ctA A p (Int32.ofNat x) (Int32.ofNat mo)) 410 r = if r = tN A 1 0 then tR A 410 p else tR A 410 r := fun r => ct_R
  have eL : tW (ctA A p (Int32.ofNat x) (Int32.ofNat mo)) = tW A ∧ tK (ctA A p (Int32.ofNat x) (Int32.ofNat mo)) = tK A ∧ tM (ctA A p (Int32.ofNat x) (Int32.ofNat mo)) = tM A ∧ tO (ctA A p (Int32.ofNat x) (Int32.ofNat mo)) = tO A ∧ tF (ctA A p (Int32.ofNat x) (Int32.ofNat mo)) = tF A := by
    unfold ctA
    exact ⟨by rw [tW_uN, tW_uN]; rfl, by rw [tK_uN, tK_uN]; rfl, by rw [tM_uN, tM_uN]; rfl, by rw [tO_uN, tO_uN]; rfl, by rw [tF_uN, tF_uN]; rfl⟩
  generalize ctA A p (Int32.ofNat x) (Int32.ofNat mo) = B at *
  have n1 : tN B 1 0 = tN A 1 0 + 1 := by rw [eN 1 0 (by omega), if_neg (by omega), if_pos ⟨rfl, rfl⟩]
  have nO : ∀ g r, g ≠ 6 → g ≠ 5 → g ≠ 1 → tN B g r = tN A g r := fun g r h1 h2 h3 => by rw [eN g r h1, if_neg (fun q => h2 q.1), if_neg (fun q => h3 q.1)]
  have n5 : ∀ r, r < tN A 1 0 → tN B 5 r = tN A 5 r := fun r hr => by rw [eN 5 r (by omega), if_neg (by omega), if_neg (by omega)]
  have n5N : tN B 5 (tN A 1 0) = 3 := by rw [eN 5 _ (by omega), if_pos ⟨rfl, rfl⟩]
  have n9 : tN B 901 0 = tN A 901 0 := nO 901 0 (by omega) (by omega) (by omega)
  refine ⟨h.new (Nat.le_refl _) hc n1 (by omega) (by have := h.2.2.2.2.2; omega) (fun g r hr => eo g r hr) (fun r hr => by rw [eR, if_neg (by omega)]) eL (fun r hr _ => n5 r hr) (fun m _ => ⟨nO 7 m (by omega) (by omega) (by omega), nO 8 m (by omega) (by omega) (by omega)⟩) (fun r hr h0 => by rw [n5 r hr]; exact h0) (fun r hr h0' h6 => ?_) (fun d hd => ?_) ?_, ⟨by omega, by omega, by rw [nO 3 0 (by omega) (by omega) (by omega)]; omega, by omega, by omega, fun r => by rw [eL.2.2.2.1]; omega, fun r => by rw [nO 204 r (by omega) (by omega) (by omega)]; omega, ⟨nO 902 0 (by omega) (by omega) (by omega), nO 903 0 (by omega) (by omega) (by omega), fun r => nO 907 r (by omega) (by omega) (by omega)⟩, eL.2.2.1⟩⟩
  · rw [e6]
    by_cases e : hv A 405 r = hv A 405 p
    · rw [if_pos e]
      by_cases d : hv A 407 p + x = 0
      · have := (h0 (by omega) (by omega)).1
        rw [← e, h6] at this
        rw [this] at h0'
        exact absurd hp0 h0'
      · rw [if_neg d]; exact h6
    · rw [if_neg e]; exact h6
  · rw [eR, if_pos rfl] at hd; exact h.2.1.2 p hp d hd
  · refine Hq.mk (k := hv A 400 p) (f := hv A 401 p) (t := hv A 402 p) (s := if hv A 403 p - x < mo then hv A 403 p - x else mo) (tt := hv A 404 p) (m := hv A 405 p) (a := hv A 406 p) (l := hv A 407 p + x) (v := hv A 408 p) (o := o) ((eI 400).trans (a1 400 (by omega) (by omega))) ((eI 401).trans (a1 401 (by omega) (by omega))) ((eI 402).trans (a1 402 (by omega) (by omega))) ((eI 403).trans h403) ((eI 404).trans (a1 404 (by omega) (by omega))) ((eI 405).trans (a1 405 (by omega) (by omega))) ((eI 406).trans (a1 406 (by omega) (by omega))) ((eI 407).trans s2) ((eI 408).trans (a1 408 (by omega) (by omega))) ((eI 409).trans o2)
      (by omega) (by have := h.2.2.2.2.2; omega) a3 (by rw [nO 7 _ (by omega) (by omega) (by omega)]; exact a4) a5 a6 (by split <;> omega) hc a8 o1 a10 ?_ (fun q r => by have := (a11 q r).1; omega) a12 (fun _ => ht) (fun _ q => ?_) (fun q => ?_) (fun q _ r => ?_)
    · exact hv_lt _ _ _
    · rw [e6, if_pos rfl, if_pos q]
    · obtain ⟨d, d1, d2, d3⟩ := a15 q
      exact ⟨d, by rw [eR, if_pos rfl]; exact d1, by omega, by rw [nO 8 _ (by omega) (by omega) (by omega)]; exact d3⟩
    · have := (h0 (by omega) (by omega)).2 q
      obtain ⟨d, d1, d2, d3⟩ := a15 q
      rw [nO 8 _ (by omega) (by omega) (by omega), n5 _ (by omega)]; exact this
end GI
