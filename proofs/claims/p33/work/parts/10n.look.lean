/-! ===== PURE: a trial looks ===== -/
section LO
variable {P T X R i j n c : Nat} {z w u : Wd} {b : Be} {A A' : Ta}
/-- a traffic stays where what is its own, and the plan, stays -/
theorem Tm.out (hT : Tm P T X z w b A) (hI : Ix A) (hd : ∀ a, Dm T b a → ag w u a) (hp : ∀ a, pl P z a → ag w u a) (hH : wd_H w ≤ wd_H u) (hM : 2 * X + 1 ≤ wd_M u + cn b) (hS : 15 * (2 * X + 1) ≤ wd_S u + 15 * cn b) : Tm P T X z u b A := by
  obtain ⟨k1, k2, k3, k4, k5, k6⟩ := tm_ag hT hI hd hp
  obtain ⟨d1, d2, d3, d4, d5, d6, d7, ⟨d8, d8b, -, -⟩, d9, d10⟩ := hT.2.1
  exact ⟨k1, ⟨d1, d2, d3, d4, d5, fun a ha => ⟨by have := (d6 a ha).1; omega, (d6 a ha).2⟩, fun a ha => by have := d7 a ha; omega, ⟨d8, d8b, hM, hS⟩, d9, d10⟩, k2, k3, k4, k5, k6⟩
/-- v is w but for int fields at R -/
def Wo (R : Nat) (w v : Wd) : Prop := (∀ a, a ≠ R → ag w v a) ∧ (∀ g, wd_R v g R = wd_R w g R) ∧ wd_H v = wd_H w ∧ wd_M v = wd_M w ∧ wd_S v = wd_S w
theorem Wo.rf (w : Wd) : Wo R w w := ⟨fun _ _ => ag.rf _ _, fun _ => rfl, rfl, rfl, rfl⟩
theorem Wo.tr {v x : Wd} (h : Wo R w v) (k : Wo R v x) : Wo R w x := ⟨fun a ha => (h.1 a ha).tr (k.1 a ha), fun g => (k.2.1 g).trans (h.2.1 g), k.2.2.1.trans h.2.2.1, k.2.2.2.1.trans h.2.2.2.1, k.2.2.2.2.trans h.2.2.2.2⟩
theorem Wo.sI (g : Nat) (v : Int32) : Wo R w (wd_sI w g R v) := ⟨fun a ha => ⟨fun f => by rw [i_sI, if_neg (fun q => ha q.2)], fun _ => rfl, fun _ => rfl, fun _ => rfl, rfl⟩, fun _ => rfl, rfl, rfl, rfl⟩
/-- R is no address of the traffic's, nor of the plan's -/
def Rx (P T R : Nat) (z : Wd) : Prop := R < T ∧ ¬ pl P z R
theorem Wo.tm {v : Wd} (h : Wo R w v) (hT : Tm P T X z w b A) (hI : Ix A) (hR : Rx P T R z) : Tm P T X z v b A := by
  refine hT.out hI (fun a ha => h.1 a (fun e => ?_)) (fun a ha => h.1 a (fun e => hR.2 (e ▸ ha))) (by rw [h.2.2.1]; omega) ?_ ?_
  · have := hT.ge ha
    have := hR.1
    omega
  · rw [h.2.2.2.1]; exact hT.2.1.2.2.2.2.2.2.2.1.2.2.1
  · rw [h.2.2.2.2]; exact hT.2.1.2.2.2.2.2.2.2.1.2.2.2
/-- what a trial was told: answered, kind, from, about -/
abbrev Ts : Type := Int32 × Int32 × Int32 × Int32
def lk1 (nu : Int32) (f : Nat → Int32) (s : Ts) : Ts :=
  (if s.1 = 0 ∧ ¬ (f 0 = 2 ∧ f 5 = nu) then 0 else 1,
    if s.2.1 = -1 ∧ ((f 0 = 2 ∧ f 5 = nu) ∨ f 0 = 3 ∨ f 0 = 4 ∨ f 0 = 5) then (f 0, f 1, f 5) else s.2)
theorem lk1_a {nu : Int32} {f : Nat → Int32} {s : Ts} (h : s.1 = 0 ∧ ¬ (f 0 = 2 ∧ f 5 = nu)) : (lk1 nu f s).1 = 0 := if_pos h
theorem lk1_b {nu : Int32} {f : Nat → Int32} {s : Ts} (h : ¬ (s.1 = 0 ∧ ¬ (f 0 = 2 ∧ f 5 = nu))) : (lk1 nu f s).1 = 1 := if_neg h
theorem lk1_c {nu : Int32} {f : Nat → Int32} {s : Ts} (h : s.2.1 = -1 ∧ ((f 0 = 2 ∧ f 5 = nu) ∨ f 0 = 3 ∨ f 0 = 4 ∨ f 0 = 5)) : (lk1 nu f s).2 = (f 0, f 1, f 5) := if_pos h
theorem lk1_d {nu : Int32} {f : Nat → Int32} {s : Ts} (h : ¬ (s.2.1 = -1 ∧ ((f 0 = 2 ∧ f 5 = nu) ∨ f 0 = 3 ∨ f 0 = 4 ∨ f 0 = 5))) : (lk1 nu f s).2 = s.2 := if_neg h
def lkD (nu : Int32) (O : List (Nat → Int32)) : Nat → Ts → Ts
  | 0, s => s
  | d + 1, s => lkD nu O d (match O[d]? with | some f => lk1 nu f s | none => s)
/-- the world's trial holds s, of the number nu -/
def Rt (R : Nat) (w : Wd) (s : Ts) (nu : Int32) : Prop := wd_I w 1000 R = s.1 ∧ wd_I w 1001 R = s.2.1 ∧ wd_I w 1002 R = s.2.2.1 ∧ wd_I w 1003 R = s.2.2.2 ∧ wd_I w 1005 R = nu
def xi (d : Nat) : Int32 := if d = 0 then -1 else Int32.ofNat (d - 1)
theorem xi_s (d : Nat) : xi (d + 1) + (-1) = xi d := by
  unfold xi
  rw [if_neg (by omega), Nat.add_sub_cancel]
  have : Int32.ofNat d + (-1) = Int32.ofNat d - 1 := by rw [Int32.sub_eq_add_neg]
  rw [this]
  by_cases e : d = 0
  · rw [if_pos e, e]; decide
  · rw [if_neg e]; exact j_s1 (by omega)
theorem o_lookL (hj : j < 8) (hR : Rx P T R z) (hI : Ix A) {nu : Int32} : ∀ (d m : Nat) (w : Wd) (s : Ts), Tm P T X z w b A → d ≤ 9 → d ≤ (tO A j).length → Rt R w s nu → d < m →
    ∃ v, wd_lp4 (f_X10_look_l12 n) m R (some (hA T j)) (xi d) w = some v ∧ Wo R w v ∧ Rt R v (lkD nu (tO A j) d s) nu ∧ wd_I v 1006 R = Int32.ofNat (b_ng b 203 j + (tO A j).length) := by
  intro d
  induction d with
  | zero =>
    intro m w s hT _ _ hs hm
    obtain ⟨m, rfl⟩ : ∃ r, m = r + 1 := ⟨m - 1, by omega⟩
    have s5 := (hT.2.2.2.2.2.2 j hj).2.2.2.2.1
    refine ⟨wd_sI w 1006 R (Int32.ofNat (b_ng b 203 j + (tO A j).length)), ?_, Wo.sI _ _, ?_, by rw [i_sI, if_pos ⟨rfl, rfl⟩]⟩
    · rw [wd_lp4, f_X10_look_l12, if_pos (by decide), Option.bind_some, wd_let, s5]
    · obtain ⟨h1, h2, h3, h4, h5⟩ := hs
      exact ⟨by rw [i_sI, if_neg (by omega)]; exact h1, by rw [i_sI, if_neg (by omega)]; exact h2, by rw [i_sI, if_neg (by omega)]; exact h3, by rw [i_sI, if_neg (by omega)]; exact h4, by rw [i_sI, if_neg (by omega)]; exact h5⟩
  | succ d ih =>
    intro m w s hT hd hl hs hm
    obtain ⟨m, rfl⟩ : ∃ r, m = r + 1 := ⟨m - 1, by omega⟩
    obtain ⟨f, hf⟩ : ∃ f, (tO A j)[d]? = some f := ⟨_, List.getElem?_eq_getElem (by omega)⟩
    have hx : xi (d + 1) = Int32.ofNat d := by unfold xi; rw [if_neg (by omega), Nat.add_sub_cancel]
    have np : ∀ (w' : Wd) (x : Nat), Tm P T X z w' b A → x < 6 → f_X2_notePart n w' (hA T j) (Int32.ofNat d) (Int32.ofNat x) = some (f x, w') := fun w' x hT' hx' => o_notePart hT' hj (by omega) hf hx'
    obtain ⟨h1, h2, h3, h4, h5⟩ := hs
    -- the rest
    have j134 : ∀ (v : Wd) (s' : Ts), Wo R w v → Rt R v s' nu → s' = lk1 nu f s → ∃ x, f_X10_look_j134 n (wd_lp4 (f_X10_look_l12 n) m) R (some (hA T j)) (Int32.ofNat d) v = some x ∧ Wo R w x ∧ Rt R x (lkD nu (tO A j) (d + 1) s) nu ∧ wd_I x 1006 R = Int32.ofNat (b_ng b 203 j + (tO A j).length) := by
      intro v s' hv hs' es
      obtain ⟨x, x1, x2, x3, x4⟩ := ih m v s' (hv.tm hT hI hR) (by omega) (by omega) hs' (by omega)
      refine ⟨x, ?_, hv.tr x2, ?_, x4⟩
      · rw [f_X10_look_j134, wd_let, ← hx, xi_s]; exact x1
      · have e9 : lkD nu (tO A j) (d + 1) s = lkD nu (tO A j) d (lk1 nu f s) := by rw [lkD, hf]
        rw [e9, ← es]; exact x3
    -- what it is told, noted
    have j109 : ∀ (v : Wd) (a : Int32), Wo R w v → Rt R v (a, s.2) nu → (a, f 0, f 1, f 5) = lk1 nu f s → ∃ x, f_X10_look_j109 n (wd_lp4 (f_X10_look_l12 n) m) R (some (hA T j)) (Int32.ofNat d) (f 0) v = some x ∧ Wo R w x ∧ Rt R x (lkD nu (tO A j) (d + 1) s) nu ∧ wd_I x 1006 R = Int32.ofNat (b_ng b 203 j + (tO A j).length) := by
      intro v a hv hs' es
      have w1 : Wo R w (wd_sI v 1001 R (f 0)) := hv.tr (Wo.sI _ _)
      have w2 : Wo R w (wd_sI (wd_sI v 1001 R (f 0)) 1002 R (f 1)) := w1.tr (Wo.sI _ _)
      have w3 : Wo R w (wd_sI (wd_sI (wd_sI v 1001 R (f 0)) 1002 R (f 1)) 1003 R (f 5)) := w2.tr (Wo.sI _ _)
      obtain ⟨x, x1, x2⟩ := j134 _ (a, f 0, f 1, f 5) w3 ⟨by rw [i_sI, if_neg (by omega), i_sI, if_neg (by omega), i_sI, if_neg (by omega)]; exact hs'.1, by rw [i_sI, if_neg (by omega), i_sI, if_neg (by omega), i_sI, if_pos ⟨rfl, rfl⟩], by rw [i_sI, if_neg (by omega), i_sI, if_pos ⟨rfl, rfl⟩], by rw [i_sI, if_pos ⟨rfl, rfl⟩], by rw [i_sI, if_neg (by omega), i_sI, if_neg (by omega), i_sI, if_neg (by omega)]; exact hs'.2.2.2.2⟩ es
      refine ⟨x, ?_, x2⟩
      rw [f_X10_look_j109, wd_let, Option.bind_some, show (1 : Int32) = Int32.ofNat 1 from rfl, np _ 1 (w1.tm hT hI hR) (by omega), wd_b2_s, wd_let, show (5 : Int32) = Int32.ofNat 5 from rfl, np _ 5 (w2.tm hT hI hR) (by omega), wd_b2_s, wd_let]
      exact x1
    -- answered or not: y0; an answer: x4; a complaint: x5
    have j88 : ∀ (y x4 x5 : Int32), (y = 0 ∨ y = 1) → y = (lk1 nu f s).1 → (x4 = 0 ↔ ¬ (f 0 = 2 ∧ f 5 = nu)) → (x5 = 0 ↔ ¬ (f 0 = 3 ∨ f 0 = 4 ∨ f 0 = 5)) → ∃ x, f_X10_look_j88 n (wd_lp4 (f_X10_look_l12 n) m) y R R (some (hA T j)) (Int32.ofNat d) (f 0) x4 x5 w = some x ∧ Wo R w x ∧ Rt R x (lkD nu (tO A j) (d + 1) s) nu ∧ wd_I x 1006 R = Int32.ofNat (b_ng b 203 j + (tO A j).length) := by
      intro y x4 x5 hy ey e4 e5
      have w1 : Wo R w (wd_sI w 1000 R y) := Wo.sI _ _
      have r1 : Rt R (wd_sI w 1000 R y) (y, s.2) nu := ⟨by rw [i_sI, if_pos ⟨rfl, rfl⟩], by rw [i_sI, if_neg (by omega)]; exact h2, by rw [i_sI, if_neg (by omega)]; exact h3, by rw [i_sI, if_neg (by omega)]; exact h4, by rw [i_sI, if_neg (by omega)]; exact h5⟩
      have k1 : wd_I (wd_sI w 1000 R y) 1001 R = s.2.1 := r1.2.1
      rw [f_X10_look_j88, j_gd (fun q => q hy), wd_let, k1]
      by_cases c1 : s.2.1 = -1
      · rw [if_pos c1]
        by_cases c2 : x4 = 0
        · rw [if_pos c2]
          by_cases c3 : x5 = 0
          · rw [if_pos c3]
            refine j134 _ (y, s.2) w1 r1 ?_
            exact Prod.ext ey (lk1_d (fun q => q.2.elim (fun x => e4.mp c2 x) (fun x => e5.mp c3 x))).symm
          · rw [if_neg c3]
            refine j109 _ y w1 r1 ?_
            exact Prod.ext ey (lk1_c ⟨c1, Or.inr (Classical.byContradiction fun q => c3 (e5.mpr q))⟩).symm
        · rw [if_neg c2]
          refine j109 _ y w1 r1 ?_
          exact Prod.ext ey (lk1_c ⟨c1, Or.inl (Classical.byContradiction fun q => c2 (e4.mpr q))⟩).symm
      · rw [if_neg c1]
        refine j134 _ (y, s.2) w1 r1 ?_
        exact Prod.ext ey (lk1_d (fun q => c1 q.1)).symm
    have j68 : ∀ (x4 x5 : Int32), (x4 = 0 ↔ ¬ (f 0 = 2 ∧ f 5 = nu)) → (x5 = 0 ↔ ¬ (f 0 = 3 ∨ f 0 = 4 ∨ f 0 = 5)) → ∃ x, f_X10_look_j68 n (wd_lp4 (f_X10_look_l12 n) m) x5 R (some (hA T j)) (Int32.ofNat d) (f 0) x4 w = some x ∧ Wo R w x ∧ Rt R x (lkD nu (tO A j) (d + 1) s) nu ∧ wd_I x 1006 R = Int32.ofNat (b_ng b 203 j + (tO A j).length) := by
      intro x4 x5 e4 e5
      rw [f_X10_look_j68, h1]
      by_cases c1 : s.1 = 0
      · rw [if_pos c1]
        by_cases c2 : x4 = 0
        · rw [if_pos c2]
          refine j88 0 x4 x5 (Or.inl rfl) ?_ e4 e5
          exact (lk1_a ⟨c1, e4.mp c2⟩).symm
        · rw [if_neg c2, f_X10_look_j83]
          refine j88 1 x4 x5 (Or.inr rfl) ?_ e4 e5
          exact (lk1_b (fun q => c2 (e4.mpr q.2))).symm
      · rw [if_neg c1, f_X10_look_j83]
        refine j88 1 x4 x5 (Or.inr rfl) ?_ e4 e5
        exact (lk1_b (fun q => c1 q.1)).symm
    have j46 : ∀ (x4 : Int32), (x4 = 0 ↔ ¬ (f 0 = 2 ∧ f 5 = nu)) → ∃ x, f_X10_look_j46 n (wd_lp4 (f_X10_look_l12 n) m) x4 R (some (hA T j)) (Int32.ofNat d) (f 0) w = some x ∧ Wo R w x ∧ Rt R x (lkD nu (tO A j) (d + 1) s) nu ∧ wd_I x 1006 R = Int32.ofNat (b_ng b 203 j + (tO A j).length) := by
      intro x4 e4
      rw [f_X10_look_j46]
      by_cases c3 : f 0 = 3
      · rw [if_pos c3, f_X10_look_j63]
        exact j68 x4 1 e4 ⟨fun q => absurd q (by decide), fun q => absurd (Or.inl c3) q⟩
      rw [if_neg c3]
      by_cases c4 : f 0 = 4
      · rw [if_pos c4, f_X10_look_j63]
        exact j68 x4 1 e4 ⟨fun q => absurd q (by decide), fun q => absurd (Or.inr (Or.inl c4)) q⟩
      rw [if_neg c4]
      by_cases c5 : f 0 = 5
      · rw [if_pos c5, f_X10_look_j63]
        exact j68 x4 1 e4 ⟨fun q => absurd q (by decide), fun q => absurd (Or.inr (Or.inr c5)) q⟩
      rw [if_neg c5]
      exact j68 x4 0 e4 ⟨fun _ q => q.elim c3 (fun q => q.elim c4 c5), fun _ => rfl⟩
    rw [wd_lp4, f_X10_look_l12, hx, if_neg (j_n0 (by omega)), Option.bind_some]
    rw [show f_X2_notePart n w (hA T j) (Int32.ofNat d) 0 = some (f 0, w) from np w 0 hT (by omega), wd_b2_s]
    by_cases c2 : f 0 = 2
    · rw [if_pos c2, show f_X2_notePart n w (hA T j) (Int32.ofNat d) 5 = some (f 5, w) from np w 5 hT (by omega), wd_b2_s, h5]
      by_cases c5 : f 5 = nu
      · rw [if_pos c5]
        exact j46 1 ⟨fun q => absurd q (by decide), fun q => absurd ⟨c2, c5⟩ q⟩
      · rw [if_neg c5, f_X10_look_j45]
        exact j46 0 ⟨fun _ q => c5 q.2, fun _ => rfl⟩
    · rw [if_neg c2, f_X10_look_j45]
      exact j46 0 ⟨fun _ q => c2 q.1, fun _ => rfl⟩
theorem o_look (hT : Tm P T X z w b A) (hj : j < 8) (hR : Rx P T R z) (hI : Ix A) {nu : Int32} {s : Ts} {len : Nat} (h1 : len ≤ (tO A j).length) (h2 : (tO A j).length ≤ len + 9) (hs : Rt R w s nu) (hse : wd_I w 1006 R = Int32.ofNat (b_ng b 203 j + len)) (hn : 11 ≤ n) :
    ∃ v, f_X10_look n w R (some (hA T j)) = some v ∧ Wo R w v ∧ Rt R v (lkD nu (tO A j) ((tO A j).length - len) s) nu ∧ wd_I v 1006 R = Int32.ofNat (b_ng b 203 j + (tO A j).length) := by
  have s5 := (hT.2.2.2.2.2.2 j hj).2.2.2.2
  obtain ⟨v, v1, v2⟩ := o_lookL (n := n) hj hR hI (nu := nu) ((tO A j).length - len) n w s hT (by omega) (by omega) hs (by omega)
  refine ⟨v, ?_, v2⟩
  rw [f_X10_look, Option.bind_some, wd_let, s5.1, hse, j_sb (by omega)]
  have : Int32.ofNat (b_ng b 203 j + (tO A j).length - (b_ng b 203 j + len)) - 1 = xi ((tO A j).length - len) := by
    rw [show b_ng b 203 j + (tO A j).length - (b_ng b 203 j + len) = (tO A j).length - len by omega]
    unfold xi
    by_cases e : (tO A j).length - len = 0
    · rw [if_pos e, e]; decide
    · rw [if_neg e]; exact j_s1 (by omega)
  rw [this]
  exact v1
end LO
