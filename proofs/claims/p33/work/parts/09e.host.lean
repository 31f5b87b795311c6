/-! ===== PURE: a host's own changes ===== -/
/-- w' is w but for the host at h, and where packets wait -/
def ah (T : Nat) (b : Be) (h : Nat) (w w' : Wd) : Prop :=
  (∀ a, (a < h ∨ h + 7 ≤ a) → (∀ g, (g < 411 ∨ 413 < g) → wd_I w' g a = wd_I w g a ∧ wd_R w' g a = wd_R w g a) ∧ (∀ x, wd_A w' a x = wd_A w a x) ∧ (∀ x, wd_Q w' a x = wd_Q w a x)) ∧
  (∀ a, wd_N w' a = wd_N w a) ∧ (∀ a, ¬ Dm T b a → ag w w' a) ∧ wd_H w' = wd_H w ∧ wd_M w' = wd_M w ∧ wd_S w' = wd_S w
section AH
variable {T h a : Nat} {b : Be} {w u v : Wd}
theorem ah.rf : ah T b h w w := ⟨fun _ _ => ⟨fun _ _ => ⟨rfl, rfl⟩, fun _ => rfl, fun _ => rfl⟩, fun _ => rfl, fun _ _ => ag.rf _ _, rfl, rfl, rfl⟩
theorem ah.tr (k : ah T b h w u) (m : ah T b h u v) : ah T b h w v :=
  ⟨fun a ha => ⟨fun g hg => ⟨(((m.1 a ha).1 g hg).1).trans (((k.1 a ha).1 g hg).1), (((m.1 a ha).1 g hg).2).trans (((k.1 a ha).1 g hg).2)⟩, fun x => ((m.1 a ha).2.1 x).trans ((k.1 a ha).2.1 x), fun x => ((m.1 a ha).2.2 x).trans ((k.1 a ha).2.2 x)⟩,
   fun a => (m.2.1 a).trans (k.2.1 a), fun a ha => (k.2.2.1 a ha).tr (m.2.2.1 a ha), m.2.2.2.1.trans k.2.2.2.1, m.2.2.2.2.1.trans k.2.2.2.2.1, m.2.2.2.2.2.trans k.2.2.2.2.2⟩
theorem ah.sI {g : Nat} {x : Int32} (hD : Dm T b a) (ha : (h ≤ a ∧ a < h + 7) ∨ (411 ≤ g ∧ g ≤ 413)) (k : ah T b h w u) : ah T b h w (wd_sI u g a x) := by
  refine k.tr ⟨fun c hc => ⟨fun f hf => ⟨?_, rfl⟩, fun _ => rfl, fun _ => rfl⟩, fun _ => rfl, fun c hc => ⟨fun f => ?_, fun _ => rfl, fun _ => rfl, fun _ => rfl, rfl⟩, rfl, rfl, rfl⟩
  · rw [i_sI, if_neg (by omega)]
  · rw [i_sI, if_neg]; exact fun q => hc (q.2 ▸ hD)
theorem ah.sR {g : Nat} {x : Option Nat} (hD : Dm T b a) (ha : (h ≤ a ∧ a < h + 7) ∨ (411 ≤ g ∧ g ≤ 413)) (k : ah T b h w u) : ah T b h w (wd_sR u g a x) := by
  refine k.tr ⟨fun c hc => ⟨fun f hf => ⟨rfl, ?_⟩, fun _ => rfl, fun _ => rfl⟩, fun _ => rfl, fun c hc => ⟨fun _ => rfl, fun f => ?_, fun _ => rfl, fun _ => rfl, rfl⟩, rfl, rfl, rfl⟩
  · rw [r_sR, if_neg (by omega)]
  · rw [r_sR, if_neg]; exact fun q => hc (q.2 ▸ hD)
theorem ah.sA {i : Nat} {x : Int32} (hD : Dm T b a) (ha : h ≤ a ∧ a < h + 7) (k : ah T b h w u) : ah T b h w (wd_sA u a i x) := by
  refine k.tr ⟨fun c hc => ⟨fun f hf => ⟨rfl, rfl⟩, fun y => ?_, fun _ => rfl⟩, fun _ => rfl, fun c hc => ⟨fun _ => rfl, fun _ => rfl, fun y => ?_, fun _ => rfl, rfl⟩, rfl, rfl, rfl⟩
  · rw [a_sA, if_neg (by omega)]
  · rw [a_sA, if_neg]; exact fun q => hc (q.1 ▸ hD)
theorem ah.sQ {i : Nat} {x : Option Nat} (hD : Dm T b a) (ha : h ≤ a ∧ a < h + 7) (k : ah T b h w u) : ah T b h w (wd_sQ u a i x) := by
  refine k.tr ⟨fun c hc => ⟨fun f hf => ⟨rfl, rfl⟩, fun _ => rfl, fun y => ?_⟩, fun _ => rfl, fun c hc => ⟨fun _ => rfl, fun _ => rfl, fun _ => rfl, fun y => ?_, rfl⟩, rfl, rfl, rfl⟩
  · rw [q_sQ, if_neg (by omega)]
  · rw [q_sQ, if_neg]; exact fun q => hc (q.1 ▸ hD)
theorem ah.sF {f : Nat → Int32} (hD : Dm T b a) (ha : h ≤ a ∧ a < h + 7) (k : ah T b h w u) : ah T b h w (wd_sF u a f) := by
  refine k.tr ⟨fun c hc => ⟨fun f hf => ⟨rfl, rfl⟩, fun y => ?_, fun _ => rfl⟩, fun _ => rfl, fun c hc => ⟨fun _ => rfl, fun _ => rfl, fun y => ?_, fun _ => rfl, rfl⟩, rfl, rfl, rfl⟩
  · rw [a_sF, if_neg (by omega)]
  · rw [a_sF, if_neg]; exact fun q => hc (q ▸ hD)
end AH
section HO
variable {P T X j : Nat} {z w w' : Wd} {b : Be} {A A' : Ta}
theorem dm_h {i k : Nat} (hi : i < 8) (hk : k < 7) : Dm T b (hA T i + k) := Or.inl ⟨by unfold hA; omega, by unfold hA; omega⟩
theorem dm_h0 {i : Nat} (hi : i < 8) : Dm T b (hA T i) := Or.inl ⟨by unfold hA; omega, by unfold hA; omega⟩
theorem dm_p {i : Nat} (hi : i < b_pn b) : Dm T b (b_pa b i) := Or.inr (Or.inl ⟨i, hi, rfl⟩)
/-- all that is asked of a host -/
def Sg (w : Wd) (P h i : Nat) (b : Be) (A : Ta) : Prop := Sj w P h i ∧ Sm w h i b A ∧ Sw w h i b A ∧ Sh w h i b A ∧ So w h i b A
theorem Sj.ah {i : Nat} {h : Nat} (hh : ah T b h w w') {k : Nat} (hk : k < h ∨ h + 7 ≤ k) (hk7 : k + 7 ≤ h ∨ h + 7 ≤ k) (s : Sj w P k i) : Sj w' P k i := by
  obtain ⟨h1, h2, -⟩ := hh
  have e := (h1 k hk).1
  obtain ⟨s1, s2, s3, s4, s5⟩ := s
  exact ⟨by rw [(e 200 (by omega)).2]; exact s1, by rw [(e 205 (by omega)).2]; exact s2, by rw [(e 208 (by omega)).2]; exact s3, by rw [(e 209 (by omega)).2]; exact s4, by rw [h2]; exact s5.1, by rw [h2]; exact s5.2.1, by rw [h2]; exact s5.2.2⟩
/-- a change of the host j alone -/
theorem host_op (hT : Tm P T X z w b A) (kk : Nat → Nat → Nat) (hkk : ∀ i, i ≠ j → kk i = b_kh b i) (hj : j < 8) (hh : ah T b (hA T j) w w')
    (hE : tI A' = tI A ∧ tR A' = tR A ∧ tF A' = tF A ∧ (∀ g x, g ≠ 204 → tN A' g x = tN A g x) ∧ ∀ i, i ≠ j → tW A' i = tW A i ∧ tK A' i = tK A i ∧ (∀ x, tM A' i x = tM A i x) ∧ tO A' i = tO A i ∧ tN A' 204 i = tN A 204 i)
    (hW : ∀ i, i < 8 → i ≠ j → ∀ e, e ∈ tW A i → wd_I w' 411 (b_pa b e.1) = wd_I w 411 (b_pa b e.1) ∧ wd_R w' 412 (b_pa b e.1) = wd_R w 412 (b_pa b e.1) ∧ wd_R w' 413 (b_pa b e.1) = wd_R w 413 (b_pa b e.1))
    (hK : ∀ i, i < 8 → i ≠ j → ∀ e, e ∈ tK A i → ∀ p, p ∈ e.2.2 → wd_R w' 413 (b_pa b p) = wd_R w 413 (b_pa b p))
    (hV : ∀ q, q < tN A 1 0 → tN A 5 q = 4 → wd_I w' 411 (b_pa b q) = wd_I w 411 (b_pa b q) ∧ wd_R w' 412 (b_pa b q) = wd_R w 412 (b_pa b q) ∧ wd_R w' 413 (b_pa b q) = wd_R w 413 (b_pa b q))
    (h5 : Sg w' P (hA T j) j (v_kh b kk) A') : Tm P T X z w' (v_kh b kk) A' ∧ Rl T w b w' (v_kh b kk) := by
  obtain ⟨t1, t2, t3, t4, t5, t6, t7⟩ := hT
  obtain ⟨h1, h2, h3, h4, h6, h7⟩ := hh
  obtain ⟨e1, e2, e3, e4, e5⟩ := hE
  obtain ⟨d1, d2, d3, d4, d5, d6, d7, d8, dh, d9⟩ := t2
  have o0 : ∀ a, a < hA T 0 ∨ T + 61 ≤ a → a < hA T j ∨ hA T j + 7 ≤ a := fun a ha => by unfold hA at *; omega
  refine ⟨⟨fun a ha => (t1 a ha).tr (h3 a fun q => (d6 a q).2 ha), ⟨d1, d2, d3, d4, d5, fun a ha => ⟨by rw [h4]; exact (d6 a ha).1, (d6 a ha).2⟩, fun a ha => by rw [h4]; exact d7 a ha, ⟨d8.1, d8.2.1, ?_, ?_⟩, fun a ha => ?_, ?_⟩, ?_, ?_, ?_, ?_, ?_⟩, ?_⟩
  · rw [h6]; exact d8.2.2.1
  · rw [h7]; exact d8.2.2.2
  · rw [e4 1 0 (by omega)]
    obtain ⟨r, r1, r2, r3⟩ := dh a ha
    exact ⟨r, r1, r2, by rw [e4 5 r (by omega)]; exact r3⟩
  · rw [e4 3 0 (by omega)]; exact d9
  · obtain ⟨⟨c1, c2, c3, c4, c5, c6, c7, c8⟩, c9, c10, c11, c12⟩ := t3
    have eT := (h1 T (o0 T (Or.inl (by unfold hA; omega)))).1
    refine ⟨⟨?_, ?_, ?_, ?_, ?_, by rw [h2]; exact c6, by rw [h2]; exact c7, fun i hi => ?_⟩, ?_, ?_, ?_, fun c hc => ?_⟩
    · rw [(eT 900 (by omega)).2]; exact c1
    · rw [(eT 904 (by omega)).2]; exact c2
    · rw [(eT 905 (by omega)).2]; exact c3
    · rw [(eT 906 (by omega)).2]; exact c4
    · rw [(eT 907 (by omega)).2]; exact c5
    · rw [(h1 (T + 3) (o0 _ (Or.inl (by unfold hA; omega)))).2.2]; exact c8 i hi
    · rw [(eT 901 (by omega)).1, e4 901 0 (by omega)]; exact c9
    · rw [(eT 902 (by omega)).1, e4 902 0 (by omega)]; exact c10
    · rw [(eT 903 (by omega)).1, e4 903 0 (by omega)]; exact c11
    · rw [(h1 (T + 4) (o0 _ (Or.inl (by unfold hA; omega)))).2.1, e4 907 c (by omega)]; exact c12 c hc
  · intro i hi
    rw [e4 1 0 (by omega)] at hi
    have hi2 : i < b_pn b := Nat.lt_of_lt_of_le hi t5.1
    have eP := (h1 _ (o0 _ (Or.inr (d2 i hi2)))).1
    refine ⟨fun g g1 g2 => ?_, ?_⟩
    · show wd_I w' g (b_pa b i) = _
      rw [(eP g (by omega)).1, e1]; exact (t4 i hi).1 g g1 g2
    · show wd_R w' 410 (b_pa b i) = (tR A' 410 i).map (b_pa b)
      rw [(eP 410 (by omega)).2, e2]; exact (t4 i hi).2
  · obtain ⟨p1, p2, p3, p4⟩ := t5
    have e2' := (h1 (T + 2) (o0 _ (Or.inl (by unfold hA; omega)))).1
    refine ⟨?_, ?_, ?_, fun i hi => ?_⟩
    · rw [e4 1 0 (by omega)]; exact p1
    · rw [(e2' 600 (by omega)).2]; exact p2
    · rw [(e2' 601 (by omega)).2, e4 1 0 (by omega)]; exact p3
    · show wd_R w' 414 (b_pa b i) = _
      rw [((h1 _ (o0 _ (Or.inr (d2 i hi)))).1 414 (by omega)).2]; exact p4 i hi
  · obtain ⟨r1, r2, r3, r4, r5⟩ := t6
    have e1' := (h1 (T + 1) (o0 _ (Or.inl (by unfold hA; omega)))).1
    have eF : ∀ a, a ∈ b_fl b ++ (b_fh b ++ b_fs b) → ∀ g, (g < 411 ∨ 413 < g) → wd_I w' g a = wd_I w g a ∧ wd_R w' g a = wd_R w g a := fun a ha => (h1 a (o0 _ (Or.inr (d3 a ha)))).1
    refine ⟨?_, ?_, ?_, ?_, ?_⟩
    · rw [(e1' 800 (by omega)).2]
      exact ls_cong (fun a ha => (eF a (List.mem_append_left _ ha) 6 (by omega)).2) r1
    · rw [(e1' 802 (by omega)).2]; exact r2
    · rw [(e1' 803 (by omega)).2]
      exact ls_cong (fun a ha => (eF a (List.mem_append_right _ (List.mem_append_right _ ha)) 6 (by omega)).2) r3
    · rw [(e1' 801 (by omega)).1]; exact r4
    · rw [e3]
      refine ls_2cong (fun a x ha hx => ⟨fun g hg => ?_, ?_⟩) r5
      · rw [(eF a (List.mem_append_left _ ha) g (by omega)).1]; exact hx.1 g hg
      · rw [(eF a (List.mem_append_left _ ha) 5 (by omega)).2]; exact hx.2
  · intro i hi
    by_cases hij : i = j
    · subst hij; exact h5
    obtain ⟨s1, s2, s3, s4, s5⟩ := t7 i hi
    obtain ⟨a1, a2, a3, a4, a5⟩ := e5 i hij
    have o1 : ∀ a, hA T i ≤ a → a < hA T i + 7 → a < hA T j ∨ hA T j + 7 ≤ a := fun a x y => by unfold hA at *; omega
    have eH := (h1 (hA T i) (o1 _ (by omega) (by omega))).1
    have wI := hW i hi hij
    have kI := hK i hi hij
    refine ⟨Sj.ah ⟨h1, h2, h3, h4, h6, h7⟩ (o1 _ (by omega) (by omega)) (by unfold hA; omega) s1, ⟨fun x hx => ?_, ?_⟩, ⟨?_, ?_, ?_, fun e he => ?_⟩, ⟨?_, ?_, fun k hk => ?_, ?_, fun k e he => ?_⟩, ⟨?_, ?_, fun k f hk hf x hx => ?_⟩⟩
    · rw [(h1 _ (o1 (hA T i + 1) (by omega) (by omega))).2.1, a3]; exact s2.1 x hx
    · show wd_I w' 204 (hA T i) = Int32.ofNat (b_ng b 204 i + tN A' 204 i)
      rw [(eH 204 (by omega)).1, a5]; exact s2.2
    · rw [(eH 201 (by omega)).1, a1]; exact s3.1
    · show ls_c (wd_R w' 413) (wd_R w' 206 (hA T i)) ((tW A' i).map fun e => b_pa b e.1)
      rw [(eH 206 (by omega)).2, a1]
      refine ls_cong (fun a ha => ?_) s3.2.1
      obtain ⟨e, he, rfl⟩ := List.mem_map.mp ha
      exact (wI e he).2.2
    · show wd_R w' 207 (hA T i) = ((tW A' i).map fun e => b_pa b e.1).getLast?
      rw [(eH 207 (by omega)).2, a1]; exact s3.2.2.1
    · show wd_I w' 411 (b_pa b e.1) = _ ∧ wd_R w' 412 (b_pa b e.1) = _
      rw [a1] at he
      rw [(wI e he).1, (wI e he).2.1]; exact s3.2.2.2 e he
    · rw [(eH 202 (by omega)).1, a2]; exact s4.1
    · rw [a2]; exact s4.2.1
    · show wd_Q w' (hA T i + 2) k = some (kk i k) ∧ _ ≤ kk i k ∧ kk i k < _
      rw [(h1 _ (o1 (hA T i + 2) (by omega) (by omega))).2.2, hkk i hij]; exact s4.2.2.1 k hk
    · show ∀ j k, j < 3 → k < 3 → kk i j = kk i k → j = k
      rw [hkk i hij]; exact s4.2.2.2.1
    · rw [a2] at he
      have k3 : k < 3 := Nat.lt_of_lt_of_le (List.getElem?_eq_some_iff.mp he).1 s4.2.1
      have q := s4.2.2.1 k k3
      have r := s4.2.2.2.2 k e he
      have eq := (h1 _ (o1 (b_kh b i k) (by omega) (by omega))).1
      show wd_I w' 100 (kk i k) = _ ∧ wd_I w' 101 (kk i k) = _ ∧ ls_c (wd_R w' 413) (wd_R w' 102 (kk i k)) (e.2.2.map (b_pa b))
      rw [hkk i hij, (eq 100 (by omega)).1, (eq 101 (by omega)).1, (eq 102 (by omega)).2]
      refine ⟨r.1, r.2.1, ls_cong (fun a ha => ?_) r.2.2⟩
      obtain ⟨p, hp, rfl⟩ := List.mem_map.mp ha
      exact kI e (List.mem_of_getElem? he) p hp
    · show wd_I w' 203 (hA T i) = Int32.ofNat (b_ng b 203 i + _)
      rw [(eH 203 (by omega)).1, a4]; exact s5.1
    · rw [a4]; exact s5.2.1
    · rw [a4] at hf
      show wd_A w' (hA T i + 3) ((b_ng b 203 i + _ - 1 - k) % 10 * 6 + x) = f x
      rw [(h1 _ (o1 (hA T i + 3) (by omega) (by omega))).2.1, a4]; exact s5.2.2 k f hk hf x hx
  · refine ⟨⟨⟨fun _ _ => rfl, Nat.le_refl _, rfl, by rw [h4]; exact Nat.le_refl _, fun a ha hn => h3 a hn, fun a ha => Or.inl ha, by rw [h4, h6], by rw [h4]; rfl, by rw [h7]; exact Nat.le_refl _⟩, rfl, fun a ha => ?_⟩, rfl, fun a ha => ?_⟩
    · obtain ⟨r, r1, r2, r3⟩ := dh a ha
      rw [r2]; exact hV r r1 r3
    · have := (h1 a (o0 _ (Or.inr (d3 a (List.mem_append_right _ (List.mem_append_left _ ha)))))).1
      exact ⟨fun g hg => (this g (by omega)).1, (this 5 (by omega)).2⟩
end HO
