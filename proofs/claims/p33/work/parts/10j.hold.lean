/-! ===== PURE: what waited taken in the hand; frames taken; marks learned ===== -/
section HL
variable {P T X i j n c : Nat} {z w u : Wd} {b : Be} {A A' : Ta}
/-- what a run leaves as it was, but what is held -/
def Rm (T : Nat) (w : Wd) (b : Be) (w' : Wd) (b' : Be) : Prop := Rn T w b w' b' ∧ b_fh b' = b_fh b ∧ Rg (b_fh b) w w'
theorem Rl.m {w' : Wd} {b' : Be} (h : Rl T w b w' b') : Rm T w b w' b' := ⟨h.1.1, h.2⟩
theorem Rm.tr {w' w2 : Wd} {b' b2 : Be} (h : Rm T w b w' b') (k : Rm T w' b' w2 b2) : Rm T w b w2 b2 := ⟨h.1.tr k.1, k.2.1.trans h.2.1, h.2.2.tr (h.2.1 ▸ k.2.2)⟩
theorem Rm.ph {w' : Wd} {b' : Be} (h : Rm T w b w' b') (l : List Nat) : Rm T w b w' (v_ph b' l) := h
theorem Rm.pf {w' : Wd} {b' : Be} {l : List Nat} (h : Rm T w (v_ph b l) w' b') : Rm T w b w' b' := h
theorem Rm.rf (T : Nat) (w : Wd) (b : Be) : Rm T w b w b := (Rl.rf T w b).m
theorem Rm.l {w' : Wd} {b' : Be} (h : Rm T w b w' b') (h1 : b_ph b = []) (h2 : b_ph b' = []) : Rl T w b w' b' := ⟨⟨h.1, h2.trans h1.symm, by rw [h1]; exact fun _ q => absurd q List.not_mem_nil⟩, h.2⟩
theorem Rm.ng {w' : Wd} {b' : Be} (h : Rm T w b w' b') : b_ng b' = b_ng b := h.1.2.2.1
theorem Rm.pa {w' : Wd} {b' : Be} (h : Rm T w b w' b') {i : Nat} (hi : i < b_pn b) : b_pa b' i = b_pa b i := h.1.1 i hi
/-- what waited at j taken into the hand -/
def hoA (A : Ta) (j : Nat) : Ta := uNf (uW A j []) 5 (fun r => if tN A 5 r = 10 + j then 4 else tN A 5 r)
theorem Iv.hold (h : Iv P z c A) (hj : j < 8) : Iv P z c (hoA A j) ∧ Cs A (hoA A j) 0 0 0 0 ∧ (∀ e, e ∈ tW A j → e.1 < tN (hoA A j) 1 0 ∧ tN (hoA A j) 5 e.1 = 4) ∧ tW (hoA A j) j = [] ∧ (∀ r, r ≠ j → tW (hoA A j) r = tW A r) ∧ tI (hoA A j) = tI A ∧ (∀ g x, g ≠ 5 → tN (hoA A j) g x = tN A g x) := by
  obtain ⟨i1, i2, i3, i4, i5, i6⟩ := h
  obtain ⟨k1, k2, k3, k4, k5, k6, k7⟩ := i4
  unfold hoA
  have n : ∀ g x, g ≠ 5 → tN (uNf (uW A j []) 5 (fun r => if tN A 5 r = 10 + j then 4 else tN A 5 r)) g x = tN A g x := fun g x hg => by rw [tN_uNf, if_neg hg, tN_uW]
  have n5 : ∀ x, tN (uNf (uW A j []) 5 (fun r => if tN A 5 r = 10 + j then 4 else tN A 5 r)) 5 x = if tN A 5 x = 10 + j then 4 else tN A 5 x := fun x => by rw [tN_uNf, if_pos rfl]
  have eW : ∀ r, tW (uNf (uW A j []) 5 (fun r => if tN A 5 r = 10 + j then 4 else tN A 5 r)) r = if r = j then [] else tW A r := fun r => by rw [tW_uNf, tW_uW]
  have eL : tI (uNf (uW A j []) 5 (fun r => if tN A 5 r = 10 + j then 4 else tN A 5 r)) = tI A ∧ tR (uNf (uW A j []) 5 (fun r => if tN A 5 r = 10 + j then 4 else tN A 5 r)) = tR A ∧ tK (uNf (uW A j []) 5 (fun r => if tN A 5 r = 10 + j then 4 else tN A 5 r)) = tK A ∧ tM (uNf (uW A j []) 5 (fun r => if tN A 5 r = 10 + j then 4 else tN A 5 r)) = tM A ∧ tO (uNf (uW A j []) 5 (fun r => if tN A 5 r = 10 + j then 4 else tN A 5 r)) = tO A ∧ tF (uNf (uW A j []) 5 (fun r => if tN A 5 r = 10 + j then 4 else tN A 5 r)) = tF A := ⟨rfl, rfl, rfl, rfl, rfl, rfl⟩
  generalize uNf (uW A j []) 5 (fun r => if tN A 5 r = 10 + j then 4 else tN A 5 r) = B at *
  obtain ⟨l1, l2, l3, l4, l5, l6⟩ := eL
  have n1 := n 1 0 (by omega)
  have n9 := n 901 0 (by omega)
  have hx : ∀ x, tN A 5 x ≠ 10 + j → tN B 5 x = tN A 5 x := fun x hx => by rw [n5, if_neg hx]
  refine ⟨⟨⟨fun r hr => ?_, fun r hr e he => ?_⟩, ⟨fun f hf => by rw [l6] at hf; rw [n1]; exact i2.1 f hf, fun r hr => by rw [n1] at hr ⊢; rw [l2]; exact i2.2 r hr⟩, fun r hr => ?_, ⟨fun f hf => ?_, by rw [l6]; exact k2, fun r hr e he => ?_, by rw [l3, l1]; exact k4, by rw [l3]; exact k5, by rw [l4]; exact k6, fun r hr f hf => ?_⟩, i5, by omega⟩, ⟨by omega, by omega, by rw [n 3 0 (by omega)]; omega, by omega, by omega, fun r => by rw [l5]; omega, fun r => by rw [n 204 r (by omega)]; omega, ⟨n 902 0 (by omega), n 903 0 (by omega), fun x => n 907 x (by omega)⟩, l4⟩, fun e he => ⟨by rw [n1]; exact ((i1.1 j hj).1 e he).1, by rw [n5, if_pos ((i1.1 j hj).1 e he).2]⟩, by rw [eW, if_pos rfl], fun r hr => by rw [eW, if_neg hr], l1, n⟩
  · rw [eW]
    by_cases d : r = j
    · rw [if_pos d]
      exact ⟨fun e he => absurd he List.not_mem_nil, List.nodup_nil, Nat.zero_le _⟩
    · rw [if_neg d, n1]
      exact ⟨fun e he => ⟨((i1.1 r hr).1 e he).1, by rw [hx _ (by rw [((i1.1 r hr).1 e he).2]; omega)]; exact ((i1.1 r hr).1 e he).2⟩, (i1.1 r hr).2⟩
  · rw [l3] at he
    rw [n1]
    exact ⟨fun p hp => ⟨((i1.2 r hr e he).1 p hp).1, by rw [hx _ (by rw [((i1.2 r hr e he).1 p hp).2]; omega)]; exact ((i1.2 r hr e he).1 p hp).2⟩, (i1.2 r hr e he).2⟩
  · rw [n1] at hr
    refine (i3 r hr).mv (fun g _ _ => by rw [l1]) (by rw [l2]) (by omega) (Nat.le_refl _) (n 7 _ (by omega)) (n 8 _ (by omega)) (fun q q0 => q (by rw [hx _ (by omega)]; exact q0)) (fun _ _ => n 6 _ (by omega)) (fun _ _ _ q => by rw [hx _ (by omega)]; exact q)
  · rw [l6] at hf
    exact (k1 f hf).mv (by omega) (fun r _ hr1 => by rw [hx r (by omega)]; exact hr1)
  · rw [eW] at he
    by_cases d : r = j
    · rw [if_pos d] at he; exact absurd he List.not_mem_nil
    · rw [if_neg d] at he; exact k3 r hr e he
  · rw [l5] at hf; exact (k7 r hr f hf).mv (by omega)
/-- one of them let go -/
theorem Iv.free (h : Iv P z c A) {p : Nat} (hp : tN A 5 p = 4) : Iv P z c (uN A 5 p 3) := by
  have e : ∀ x, x ≠ p → tN (uN A 5 p 3) 5 x = tN A 5 x := fun x hx => by rw [tN_uN, if_neg (fun q => hx q.2)]
  refine h.tg ⟨rfl, rfl, rfl, rfl, rfl, rfl, rfl, rfl, rfl, fun _ => rfl, fun _ => rfl, fun _ => rfl⟩ (fun x hx => e x fun q => ?_) (fun x hx => ?_)
  · rw [q] at hx; omega
  · rw [e x (fun q => by rw [q] at hx; omega)]; exact hx
theorem o_hold (hT : Tm P T X z w b A) (hx : Ix A) (hj : j < 8) (hp : b_ph b = []) :
    ∃ v w', f_X2_takeWaiting n w (hA T j) = some (v, w') ∧ Tm P T X z w' (v_ph b ((tW A j).map fun e => b_pa b e.1)) (hoA A j) ∧ Rm T w b w' (v_ph b ((tW A j).map fun e => b_pa b e.1)) ∧ ls_c (wd_R w' 413) v ((tW A j).map fun e => b_pa b e.1) ∧ ∀ e, e ∈ tW A j → wd_I w' 411 (b_pa b e.1) = e.2.1 ∧ wd_R w' 412 (b_pa b e.1) = some e.2.2 := by
  obtain ⟨v, w', h1, h2, h3, h4, h5⟩ := o_takeWaiting (n := n) hT hj
  refine ⟨v, w', h1, ?_, h3.m.ph _, h4, h5⟩
  obtain ⟨t1, ⟨d1, d2, d3, d4, d5, d6, d7, d8, d9, d10⟩, t3⟩ := h2
  refine ⟨t1, ⟨d1, d2, d3, d4, d5, d6, d7, d8, fun a ha => ?_, d10⟩, t3⟩
  obtain ⟨e, he, rfl⟩ := List.mem_map.mp (show a ∈ (tW A j).map fun e => b_pa b e.1 from ha)
  have := (hx.1 j hj).1 e he
  refine ⟨e.1, this.1, rfl, ?_⟩
  unfold hoA
  rw [tN_uNf, if_pos rfl, if_pos this.2]
theorem o_free (hT : Tm P T X z w b A) {p : Nat} {l : List Nat} (hp : p < tN A 1 0) (hph : b_ph b = b_pa b p :: l) (hn : b_pa b p ∉ l) : Tm P T X z w (v_ph b l) (uN A 5 p 3) := by
  have hpn := hT.pn hp
  obtain ⟨t1, ⟨d1, d2, d3, d4, d5, d6, d7, d8, d9, d10⟩, t3⟩ := hT
  refine ⟨t1, ⟨d1, d2, d3, d4, d5, d6, d7, d8, fun a ha => ?_, d10⟩, t3⟩
  have ha' : a ∈ l := ha
  obtain ⟨r, r1, r2, r3⟩ := d9 a (by rw [hph]; exact List.mem_cons_of_mem _ ha')
  refine ⟨r, r1, r2, ?_⟩
  rw [tN_uN, if_neg]
  · exact r3
  · intro q
    rw [r2, q.2] at ha'
    exact hn ha'
/-- a mark learned -/
theorem Iv.lrn (h : Iv P z c A) {x q : Nat} {v : Int32} (hq : wd_Q z (P + 3) x = some q) (hv : v = wd_I z 700 q) : Iv P z c (uM A j x v) := by
  obtain ⟨i1, i2, i3, i4, i5, i6⟩ := h
  obtain ⟨k1, k2, k3, k4, k5, k6, k7⟩ := i4
  refine ⟨i1, i2, fun r hr => (i3 r hr).mv (fun _ _ _ => rfl) rfl (Nat.le_refl _) (Nat.le_refl _) rfl rfl (fun q => q) (fun _ _ => rfl) (fun _ _ _ q => q), ⟨fun f hf => (k1 f hf).mv (Nat.le_refl _) (fun _ _ q => q), k2, k3, k4, k5, fun r y hr hy => ?_, fun r hr f hf => (k7 r hr f hf).mv (Nat.le_refl _)⟩, i5, i6⟩
  rw [tM_uM]
  by_cases d : r = j ∧ y = x
  · rw [if_pos d, d.2]; exact Or.inr ⟨q, hq, hv⟩
  · rw [if_neg d]; exact k6 r y hr hy
/-- the first frame taken, its packet in the hand -/
def tfA (A : Ta) (f : (Nat → Int32) × Option Nat) (F : List ((Nat → Int32) × Option Nat)) : Ta := match f.2 with
  | none => uF A F
  | some p => uN (uF A F) 5 p 3
theorem Iv.tf (h : Iv P z c A) {f : (Nat → Int32) × Option Nat} {F : List ((Nat → Int32) × Option Nat)} (hF : tF A = f :: F) : Iv P z c (tfA A f F) := by
  obtain ⟨i1, i2, i3, i4, i5, i6⟩ := h
  obtain ⟨k1, k2, k3, k4, k5, k6, k7⟩ := i4
  rw [hF] at k2
  have hm : ∀ g, g ∈ F → g ∈ tF A := fun g hg => by rw [hF]; exact List.mem_cons_of_mem _ hg
  have n : ∀ g x, g ≠ 5 → tN (tfA A f F) g x = tN A g x := fun g x hg => by
    unfold tfA
    cases f.2 with
    | none => rfl
    | some p =>
      show tN (uN (uF A F) 5 p 3) g x = _
      rw [tN_uN, if_neg (fun q => hg q.1), tN_uF]
  have n5 : ∀ x, f.2 ≠ some x → tN (tfA A f F) 5 x = tN A 5 x := fun x hx => by
    unfold tfA
    cases hf : f.2 with
    | none => rfl
    | some p =>
      show tN (uN (uF A F) 5 p 3) 5 x = _
      rw [tN_uN, if_neg, tN_uF]
      intro q
      rw [hf, q.2] at hx
      exact hx rfl
  have hp1 : ∀ p, f.2 = some p → tN A 5 p = 1 := fun p hp => by
    rcases (k1 f (by rw [hF]; exact List.mem_cons_self ..)).2 with q | q | ⟨-, -, r, r1, r2, r3⟩
    · rw [q.2.2] at hp; cases hp
    · rw [q.2.2] at hp; cases hp
    · rw [r1] at hp; rw [← Option.some.inj hp]; exact r3
  have hx : ∀ x, tN A 5 x ≠ 1 → tN (tfA A f F) 5 x = tN A 5 x := fun x hx => n5 x (fun q => hx (hp1 x q))
  have eF : tF (tfA A f F) = F := by unfold tfA; cases f.2 <;> rfl
  have eL : tI (tfA A f F) = tI A ∧ tR (tfA A f F) = tR A ∧ tW (tfA A f F) = tW A ∧ tK (tfA A f F) = tK A ∧ tM (tfA A f F) = tM A ∧ tO (tfA A f F) = tO A := by
    unfold tfA
    cases f.2 with
    | none => exact ⟨rfl, rfl, rfl, rfl, rfl, rfl⟩
    | some p => exact ⟨rfl, rfl, rfl, rfl, rfl, rfl⟩
  generalize tfA A f F = B at *
  obtain ⟨l1, l2, l3, l4, l5, l6⟩ := eL
  have n1 := n 1 0 (by omega)
  have n9 := n 901 0 (by omega)
  refine ⟨i1.mv l3 l4 (by omega) (fun r p _ _ hp => hx p (by omega)), ⟨fun g hg => by rw [eF] at hg; rw [n1]; exact i2.1 g (hm g hg), fun r hr => by rw [n1] at hr ⊢; rw [l2]; exact i2.2 r hr⟩, fun r hr => ?_, ⟨fun g hg => ?_, ?_, by rw [l3]; exact k3, by rw [l4, l1]; exact k4, by rw [l4]; exact k5, by rw [l5]; exact k6, fun r hr g hg => ?_⟩, i5, by omega⟩
  · rw [n1] at hr
    refine (i3 r hr).mv (fun g _ _ => by rw [l1]) (by rw [l2]) (by omega) (Nat.le_refl _) (n 7 _ (by omega)) (n 8 _ (by omega)) (fun q q0 => q (by rw [hx _ (by omega)]; exact q0)) (fun _ _ => n 6 _ (by omega)) (fun _ _ _ q => by rw [hx _ (by omega)]; exact q)
  · rw [eF] at hg
    refine (k1 g (hm g hg)).mv (by omega) (fun p hp hp1 => ?_)
    rw [n5 p (fun q => ?_)]
    · exact hp1
    · rw [List.filterMap_cons, q] at k2
      exact (List.nodup_cons.mp k2).1 (List.mem_filterMap.mpr ⟨g, hg, hp⟩)
  · rw [eF]
    rw [List.filterMap_cons] at k2
    cases hf : f.2 with
    | none => rw [hf] at k2; exact k2
    | some p => rw [hf] at k2; exact (List.nodup_cons.mp k2).2
  · rw [l6] at hg; exact (k7 r hr g hg).mv (by omega)
/-- counts of steps -/
theorem Iv.cnt (h : Iv P z c A) {g x v : Nat} (hg : g = 902 ∨ g = 903 ∨ g = 907) : Iv P z c (uN A g x v) := by
  have n : ∀ f y, f < 902 → tN (uN A g x v) f y = tN A f y := fun f y hf => by rw [tN_uN, if_neg (by omega)]
  exact h.tg ⟨rfl, rfl, rfl, rfl, rfl, rfl, rfl, n 1 0 (by omega), n 901 0 (by omega), fun y => n 6 y (by omega), fun y => n 7 y (by omega), fun y => n 8 y (by omega)⟩ (fun y _ => n 5 y (by omega)) (fun y hy => by rw [n 5 y (by omega)]; exact hy)
end HL
