/-! ===== PURE: what comes ===== -/
section CM
variable {P T X i j n c : Nat} {z w u : Wd} {b : Be} {A A' : Ta}
theorem ga_ok (h : Iv P z c A) (hj : j < 8) {p : Nat} (hp : p < tN A 1 0) (hp3 : tN A 5 p = 3) :
    Iv P z c (gaF A j p).2 ∧ Cs A (gaF A j p).2 0 0 0 2 ∧ tW (gaF A j p).2 = tW A ∧ (∀ q, (gaF A j p).1 = some q → q = p ∧ tN (gaF A j p).2 1 0 = tN A 1 0 ∧ tN (gaF A j p).2 5 p = 3 ∧ hv (gaF A j p).2 407 p = 0 ∧ tI (gaF A j p).2 400 p = tI A 400 p ∧ tI (gaF A j p).2 402 p = tI A 402 p) := by
  unfold gaF
  by_cases c1 : tI A 407 p = 0 ∧ tI A 409 p = 0
  · rw [if_pos c1]
    exact ⟨h, (Cs.rf A).le (by omega) (by omega) (by omega) (by omega), rfl, fun q hq => ⟨(Option.some.inj hq).symm, rfl, hp3, by unfold hv; rw [c1.1]; rfl, rfl, rfl⟩⟩
  rw [if_neg c1]
  cases hf : fhv (tI A 401 p) (tI A 405 p) (tK A j) 0 with
  | some k =>
    obtain ⟨-, -, e, e1, e2, e3⟩ := fhv_some hf
    obtain ⟨g1, g2, g3, g4⟩ := gj_ok h hj hp hp3 e1 e2 e3 c1
    exact ⟨g1, g2.le (by omega) (by omega) (by omega) (by omega), g3, g4⟩
  | none =>
    obtain ⟨g1, g2, ⟨e, e1, e2, e3⟩, g4, g5, g6, g7⟩ := h.bh hj (p := p)
    obtain ⟨k1, k2, k3, k4⟩ := gj_ok g1 hj (p := p) (by rw [g4 1 0 (by omega)]; exact hp) (by rw [g4 5 p (by omega)]; exact hp3) e1 (by rw [g5]; exact e2) (by rw [g5]; exact e3) (by rw [g5]; exact c1)
    refine ⟨k1, (g2.tr k2).le (by omega) (by omega) (by omega) (by omega), k3.trans g7, fun q hq => ?_⟩
    obtain ⟨r1, r2, r3, r4, r5, r6⟩ := k4 q hq
    exact ⟨r1, r2.trans (g4 1 0 (by omega)), r3, r4, by rw [r5, g5], by rw [r6, g5]⟩
/-- unwrapped: the packet dead, what was in it in the hand -/
def unT (P : Nat) (z : Wd) (A : Ta) (j q : Nat) : Option Nat × Ta := match (unF P z A j q).1 with
  | none => (none, (unF P z A j q).2)
  | some d => (some d, uN (uN (unF P z A j q).2 5 q 0) 5 d 3)
theorem un_ok (h : Iv P z c A) {q : Nat} (hq : q < tN A 1 0) (hq3 : tN A 5 q = 3) (hk : hv A 400 q = 6) (hl : hv A 407 q = 0) :
    Iv P z c (unT P z A j q).2 ∧ Cs A (unT P z A j q).2 0 0 0 1 ∧ (∀ d, (unT P z A j q).1 = some d → d < q ∧ d < tN (unT P z A j q).2 1 0 ∧ tN (unT P z A j q).2 5 d = 3) ∧ (unT P z A j q).1 = (unF P z A j q).1 := by
  obtain ⟨d, d1, d2, d3⟩ := (h.2.2.1 q hq).2.2.2.2.2.2.1 hk
  have dt := (h.2.2.1 q hq).2.2.2.2.2.2.2 hk (by omega) hl
  rw [d3] at dt
  have q6 := (h.2.2.1 q hq).2.2.2.2.2.1 (by omega) hl
  unfold unT unF
  by_cases c1 : htv P z j (tI A 401 q) = true
  · rw [if_pos c1]
    dsimp only
    rw [d1]
    dsimp only
    have n : ∀ g x, g ≠ 5 → tN (uN (uN A 5 q 0) 5 d 3) g x = tN A g x := fun g x hg => by rw [tN_uN, if_neg (fun r => hg r.1), tN_uN, if_neg (fun r => hg r.1)]
    have n5 : ∀ x, x ≠ q → x ≠ d → tN (uN (uN A 5 q 0) 5 d 3) 5 x = tN A 5 x := fun x h1 h2 => by rw [tN_uN, if_neg (fun r => h2 r.2), tN_uN, if_neg (fun r => h1 r.2)]
    have n5d : tN (uN (uN A 5 q 0) 5 d 3) 5 d = 3 := by rw [tN_uN, if_pos ⟨rfl, rfl⟩]
    have n5q : tN (uN (uN A 5 q 0) 5 d 3) 5 q = 0 := by rw [tN_uN, if_neg (by omega), tN_uN, if_pos ⟨rfl, rfl⟩]
    have eL : tI (uN (uN A 5 q 0) 5 d 3) = tI A ∧ tR (uN (uN A 5 q 0) 5 d 3) = tR A ∧ tW (uN (uN A 5 q 0) 5 d 3) = tW A ∧ tK (uN (uN A 5 q 0) 5 d 3) = tK A ∧ tM (uN (uN A 5 q 0) 5 d 3) = tM A ∧ tO (uN (uN A 5 q 0) 5 d 3) = tO A ∧ tF (uN (uN A 5 q 0) 5 d 3) = tF A := ⟨rfl, rfl, rfl, rfl, rfl, rfl, rfl⟩
    generalize uN (uN A 5 q 0) 5 d 3 = B at *
    obtain ⟨e1, e2, e3, e4, e5, e6, e7⟩ := eL
    obtain ⟨i1, i2, i3, i4, i5, i6⟩ := h
    have n1 := n 1 0 (by omega)
    have n9 := n 901 0 (by omega)
    have hx : ∀ x, (tN A 5 x = 1 ∨ (10 ≤ tN A 5 x ∧ tN A 5 x < 100)) → tN B 5 x = tN A 5 x := fun x hx => n5 x (fun e => by rw [e] at hx; omega) (fun e => by rw [e] at hx; omega)
    refine ⟨⟨i1.mv e3 e4 (by omega) (fun r x hr _ hx1 => hx x (by omega)), i2.mv e7 (by omega) (fun r _ => by rw [e2]) (fun r h1 h2 => by omega), fun r hr => ?_, i4.mv i1 e7 e3 e4 e5 e6 (by omega) (by omega) (fun x _ hx1 => by rw [hx x (Or.inl hx1)]; exact hx1) (fun r x _ _ _ => by rw [e1]; exact ⟨rfl, rfl⟩), i5, by omega⟩, ⟨by omega, by omega, by rw [n 3 0 (by omega)]; omega, by omega, by omega, fun r => by rw [e6]; omega, fun r => by rw [n 204 r (by omega)]; omega, ⟨n 902 0 (by omega), n 903 0 (by omega), fun x => n 907 x (by omega)⟩, e5⟩, fun x hx1 => ?_, d1 ▸ rfl⟩
    · rw [n1] at hr
      have ri := i3 r hr
      have t0 : tN B 5 r ≠ 0 → tN A 5 r ≠ 0 := fun a a0 => by
        by_cases y : r = q
        · rw [y, n5q] at a; exact a rfl
        · by_cases y2 : r = d
          · rw [y2] at a0; omega
          · rw [n5 r y y2] at a; exact a a0
      refine ri.mv (fun g _ _ => by rw [e1]) (by rw [e2]) (by omega) (Nat.le_refl _) (n 7 _ (by omega)) (n 8 _ (by omega)) t0 (fun _ _ => n 6 _ (by omega)) (fun k6 a b s => ?_)
      by_cases y : tN A 8 (hv A 405 r) = d
      · exfalso
        have e9 : hv A 405 r = hv A 405 q := by
          rw [y, dt] at s; omega
        have := ri.2.2.2.2.2.1 (t0 a) b
        rw [e9, q6] at this
        rw [← this, n5q] at a
        exact a rfl
      · rw [n5 _ (fun e => by rw [e] at s; omega) y]; exact s
    · rw [← Option.some.inj hx1]
      exact ⟨d2, by omega, n5d⟩
  · rw [if_neg c1]
    exact ⟨h.gone j _, Cs.gone j, (fun d hd => by cases hd), rfl⟩
/-- one from the time to live; dead at its end -/
def ttF (A : Ta) (p : Nat) : Ta := uN (uI A 404 p (tI A 404 p - 1)) 5 p (if tI A 404 p - 1 ≤ 0 then 0 else 3)
theorem tt_ok (h : Iv P z c A) {p : Nat} (hp : p < tN A 1 0) (hp3 : tN A 5 p = 3) :
    Iv P z c (ttF A p) ∧ Cs A (ttF A p) 0 0 0 0 ∧ tN (ttF A p) 1 0 = tN A 1 0 ∧ tI (ttF A p) 402 p = tI A 402 p ∧ tI (ttF A p) 404 p = tI A 404 p - 1 ∧ (¬ tI A 404 p - 1 ≤ 0 → tN (ttF A p) 5 p = 3) ∧ tW (ttF A p) = tW A := by
  obtain ⟨i1, i2, i3, i4, i5, i6⟩ := h
  obtain ⟨a1, ⟨a2, a3, a4, a5, a6, a7, a8, a9, a10⟩, a11, a12, a13, a14, a15, a16⟩ := i3 p hp
  have ht := a13 (by omega)
  have e4 : tI A 404 p - 1 = Int32.ofNat (hv A 404 p - 1) := by rw [a1 404 (by omega) (by omega)]; exact j_s1 ht
  have c4 : tI A 404 p - 1 ≤ 0 ↔ hv A 404 p - 1 = 0 := by
    rw [e4, show (0 : Int32) = Int32.ofNat 0 from rfl, j_ll (by omega) (by omega)]; omega
  unfold ttF
  have eI : ∀ g x, tI (uN (uI A 404 p (tI A 404 p - 1)) 5 p (if tI A 404 p - 1 ≤ 0 then 0 else 3)) g x = if g = 404 ∧ x = p then tI A 404 p - 1 else tI A g x := fun g x => by rw [tI_uN, tI_uI]
  have n : ∀ g x, g ≠ 5 → tN (uN (uI A 404 p (tI A 404 p - 1)) 5 p (if tI A 404 p - 1 ≤ 0 then 0 else 3)) g x = tN A g x := fun g x hg => by rw [tN_uN, if_neg (fun r => hg r.1), tN_uI]
  have n5 : ∀ x, x ≠ p → tN (uN (uI A 404 p (tI A 404 p - 1)) 5 p (if tI A 404 p - 1 ≤ 0 then 0 else 3)) 5 x = tN A 5 x := fun x h1 => by rw [tN_uN, if_neg (fun r => h1 r.2), tN_uI]
  have n5p : tN (uN (uI A 404 p (tI A 404 p - 1)) 5 p (if tI A 404 p - 1 ≤ 0 then 0 else 3)) 5 p = if tI A 404 p - 1 ≤ 0 then 0 else 3 := by rw [tN_uN, if_pos ⟨rfl, rfl⟩]
  have eL : tR (uN (uI A 404 p (tI A 404 p - 1)) 5 p (if tI A 404 p - 1 ≤ 0 then 0 else 3)) = tR A ∧ tW (uN (uI A 404 p (tI A 404 p - 1)) 5 p (if tI A 404 p - 1 ≤ 0 then 0 else 3)) = tW A ∧ tK (uN (uI A 404 p (tI A 404 p - 1)) 5 p (if tI A 404 p - 1 ≤ 0 then 0 else 3)) = tK A ∧ tM (uN (uI A 404 p (tI A 404 p - 1)) 5 p (if tI A 404 p - 1 ≤ 0 then 0 else 3)) = tM A ∧ tO (uN (uI A 404 p (tI A 404 p - 1)) 5 p (if tI A 404 p - 1 ≤ 0 then 0 else 3)) = tO A ∧ tF (uN (uI A 404 p (tI A 404 p - 1)) 5 p (if tI A 404 p - 1 ≤ 0 then 0 else 3)) = tF A := ⟨rfl, rfl, rfl, rfl, rfl, rfl⟩
  generalize uN (uI A 404 p (tI A 404 p - 1)) 5 p (if tI A 404 p - 1 ≤ 0 then 0 else 3) = B at *
  obtain ⟨l1, l2, l3, l4, l5, l6⟩ := eL
  have n1 := n 1 0 (by omega)
  have n9 := n 901 0 (by omega)
  have hx : ∀ x, tN A 5 x ≠ 3 → tN B 5 x = tN A 5 x := fun x hx => n5 x (fun e => by rw [e] at hx; omega)
  have eIp : ∀ g, g ≠ 404 → tI B g p = tI A g p := fun g hg => by rw [eI, if_neg (fun q => hg q.1)]
  have eIo : ∀ g x, x ≠ p → tI B g x = tI A g x := fun g x hx => by rw [eI, if_neg (fun q => hx q.2)]
  refine ⟨⟨i1.mv l2 l3 (by omega) (fun r x hr _ hx1 => hx x (by omega)), i2.mv l6 (by omega) (fun r _ => by rw [l1]) (fun r h1 h2 => by omega), fun r hr => ?_, i4.mv i1 l6 l2 l3 l4 l5 (by omega) (by omega) (fun x _ hx1 => by rw [hx x (by omega)]; exact hx1) (fun r x _ _ hx1 => ?_), i5, by omega⟩, ⟨by omega, by omega, by rw [n 3 0 (by omega)]; omega, by omega, by omega, fun r => by rw [l5]; omega, fun r => by rw [n 204 r (by omega)]; omega, ⟨n 902 0 (by omega), n 903 0 (by omega), fun x => n 907 x (by omega)⟩, l4⟩, n1, eIp 402 (by omega), by rw [eI, if_pos ⟨rfl, rfl⟩], fun q => by rw [n5p, if_neg q], l2⟩
  · rw [n1] at hr
    by_cases d : r = p
    · subst d
      refine Hq.mk (k := hv A 400 r) (f := hv A 401 r) (t := hv A 402 r) (s := hv A 403 r) (tt := hv A 404 r - 1) (m := hv A 405 r) (a := hv A 406 r) (l := hv A 407 r) (v := hv A 408 r) (o := hv A 409 r) ((eIp 400 (by omega)).trans (a1 400 (by omega) (by omega))) ((eIp 401 (by omega)).trans (a1 401 (by omega) (by omega))) ((eIp 402 (by omega)).trans (a1 402 (by omega) (by omega))) ((eIp 403 (by omega)).trans (a1 403 (by omega) (by omega))) (by rw [eI, if_pos ⟨rfl, rfl⟩]; exact e4) ((eIp 405 (by omega)).trans (a1 405 (by omega) (by omega))) ((eIp 406 (by omega)).trans (a1 406 (by omega) (by omega))) ((eIp 407 (by omega)).trans (a1 407 (by omega) (by omega))) ((eIp 408 (by omega)).trans (a1 408 (by omega) (by omega))) ((eIp 409 (by omega)).trans (a1 409 (by omega) (by omega)))
        (by omega) (by omega) a3 (by rw [n 7 _ (by omega)]; exact a4) a5 a6 a7 i5 a8 a9 (by omega) (hv_lt _ _ _) a11 a12 (fun q => ?_) (fun _ q => by rw [n 6 _ (by omega)]; exact a14 (by omega) q) (fun q => ?_) (fun q _ q2 => ?_)
      · rw [n5p] at q
        have : ¬ tI A 404 r - 1 ≤ 0 := fun e => by rw [if_pos e] at q; exact q rfl
        rw [c4] at this
        omega
      · obtain ⟨d, d1, d2, d3⟩ := a15 q
        exact ⟨d, by rw [l1]; exact d1, d2, by rw [n 8 _ (by omega)]; exact d3⟩
      · have := a16 q (by omega) q2
        rw [n 8 _ (by omega), hx _ (by omega)]; exact this
    · refine (i3 r hr).mv (fun g _ _ => eIo g r d) (by rw [l1]) (by omega) (Nat.le_refl _) (n 7 _ (by omega)) (n 8 _ (by omega)) (fun q q0 => q (by rw [n5 r d]; exact q0)) (fun _ _ => n 6 _ (by omega)) (fun _ _ _ q => by rw [hx _ (by omega)]; exact q)
  · have : x ≠ p := fun e => by rw [e] at hx1; omega
    exact ⟨eIo _ _ this, eIo _ _ this⟩
/-- what comes, in the abstract -/
def cmF (P : Nat) (z : Wd) (j : Nat) : Nat → Option Nat → Ta → Option Nat × Ta
  | 0, _, A => (none, A)
  | _ + 1, none, A => (none, A)
  | k + 1, some p, A =>
    if owv P z j (tI A 402 p) = true then
      match (gaF A j p).1 with
      | none => (none, (gaF A j p).2)
      | some q => if tI (gaF A j p).2 400 q = 6 then cmF P z j k (unT P z (gaF A j p).2 j q).1 (unT P z (gaF A j p).2 j q).2 else acF (gaF A j p).2 j q
    else if wd_I z 301 (mA P j) = 0 then (none, uN A 204 j (tN A 204 j + 1))
    else if tI (ttF A p) 404 p ≤ 0 then coF P z (ttF A p) j p 3 0 else (some p, ttF A p)
theorem cmF_n (k : Nat) : cmF P z j k none A = (none, A) := by cases k <;> rfl
theorem k6_iff (h : Iv P z c A) {p : Nat} (hp : p < tN A 1 0) : tI A 400 p = 6 ↔ hv A 400 p = 6 := by
  have a1 := (h.2.2.1 p hp).1 400 (by omega) (by omega)
  have := hv_lt A 400 p
  rw [a1, show (6 : Int32) = Int32.ofNat 6 from rfl, j_ee this (by omega)]
theorem cm_ok (hz : PS P z) (hj : j < 8) : ∀ (k : Nat) (A : Ta) (p : Nat), Iv P z c A → p < tN A 1 0 → tN A 5 p = 3 → tN A 901 0 + 1 ≤ 1000000000 →
    Iv P z c (cmF P z j k (some p) A).2 ∧ Cs A (cmF P z j k (some p) A).2 1 0 1 (3 * k) ∧ ∀ q, (cmF P z j k (some p) A).1 = some q → Gp P z (cmF P z j k (some p) A).2 j q := by
  intro k
  induction k with
  | zero => intro A p h _ _ _; exact ⟨h, (Cs.rf A).le (by omega) (by omega) (by omega) (by omega), fun q hq => by cases hq⟩
  | succ k ih =>
    intro A p h hp hp3 h9
    rw [cmF]
    by_cases c1 : owv P z j (tI A 402 p) = true
    · rw [if_pos c1]
      obtain ⟨g1, g2, g3, g4⟩ := ga_ok h hj hp hp3
      cases hr : (gaF A j p).1 with
      | none => exact ⟨g1, g2.le (by omega) (by omega) (by omega) (by omega), fun q hq => by cases hq⟩
      | some q =>
        dsimp only
        obtain ⟨r1, r2, r3, r4, r5, r6⟩ := g4 q hr
        have r3' : tN (gaF A j p).2 5 q = 3 := by rw [r1]; exact r3
        have r4' : hv (gaF A j p).2 407 q = 0 := by rw [r1]; exact r4
        have hq : q < tN (gaF A j p).2 1 0 := by rw [r2, r1]; exact hp
        have n9 : tN (gaF A j p).2 901 0 + 1 ≤ 1000000000 := by have := g2.2.2.2.2.1; omega
        have k6 := k6_iff g1 hq
        generalize (gaF A j p).2 = B at *
        by_cases c2 : tI B 400 q = 6
        · rw [if_pos c2]
          obtain ⟨u1, u2, u3, -⟩ := un_ok (j := j) g1 hq r3' (k6.mp c2) r4'
          cases hd : (unT P z B j q).1 with
          | none =>
            rw [cmF_n]
            exact ⟨u1, (g2.tr u2).le (by omega) (by omega) (by omega) (by omega), fun q hq => by cases hq⟩
          | some d =>
            obtain ⟨d1, d2, d3⟩ := u3 d hd
            generalize (unT P z B j q).2 = C at *
            obtain ⟨k1, k2, k3⟩ := ih C d u1 d2 d3 (by have := u2.2.2.2.2.1; omega)
            exact ⟨k1, ((g2.tr u2).tr k2).le (by omega) (by omega) (by omega) (by omega), k3⟩
        · rw [if_neg c2]
          obtain ⟨a1, a2, a3, -⟩ := ac_ok g1 hj hq (by omega) (fun e => c2 (k6.mpr e)) n9
          refine ⟨a1, (g2.tr a2).le (by omega) (by omega) (by omega) (by omega), fun r hr => ?_⟩
          obtain ⟨-, -, t2, t3, t4, -⟩ := a3 r hr
          refine ⟨t2, t3, fun _ => ?_⟩
          unfold hv
          rw [t4]
          decide
    rw [if_neg c1]
    by_cases c2 : wd_I z 301 (mA P j) = 0
    · rw [if_pos c2]
      exact ⟨h.gone j _, (Cs.gone j).le (by omega) (by omega) (by omega) (by omega), fun q hq => by cases hq⟩
    rw [if_neg c2]
    obtain ⟨t1, t2, t3, t4, t5, t6, t7⟩ := tt_ok h hp hp3
    by_cases c3 : tI (ttF A p) 404 p ≤ 0
    · rw [if_pos c3]
      obtain ⟨g1, g2, -, -, -, -, g3⟩ := co_ok t1 hz hj (p := p) (k := 3) (a := 0) (by rw [t3]; exact hp) (by omega) (by omega) (by omega) (by omega) (by have := t2.2.2.2.2.1; omega)
      refine ⟨g1, (t2.tr g2).le (by omega) (by omega) (by omega) (by omega), fun q hq => ?_⟩
      obtain ⟨-, -, q3, q4, q5, -⟩ := g3 q hq
      refine ⟨q3, q4, fun _ => ?_⟩
      unfold hv
      show (tI (coF P z (ttF A p) j p (Int32.ofNat 3) (Int32.ofNat 0)).2 400 q).toNatClampNeg ≠ 6
      rw [q5]
      decide
    · rw [if_neg c3]
      refine ⟨t1, t2.le (by omega) (by omega) (by omega) (by omega), fun q hq => ?_⟩
      rw [← Option.some.inj hq]
      refine ⟨by show p < tN (ttF A p) 1 0; rw [t3]; exact hp, t6 (by rw [← t5]; exact c3), fun e => ?_⟩
      have e' : owv P z j (tI (ttF A p) 402 p) = true := e
      rw [t4] at e'
      exact absurd e' c1
end CM
