/-! ===== PURE: GO OUT, in the abstract ===== -/
section GO
variable {P T X i j n c : Nat} {z w u : Wd} {b : Be} {A A' : Ta}
theorem gc_iv (hz : PS P z) (hj : j < 8) {p q k0 mo : Nat} (hq : Pq P z j k0 q) (hmo : 1 ≤ mo) (hmo2 : mo < 1000) : ∀ (k x : Nat) (A : Ta), Iv P z c A → p < tN A 1 0 → tN A 5 p = 0 → 1 ≤ hv A 404 p → x ≤ 20000 →
    (x = 0 → hv A 407 p = 0 → tN A 6 (hv A 405 p) = p ∧ (hv A 400 p = 6 → tN A 5 (tN A 8 (hv A 405 p)) = 100 + hv A 405 p)) → Iv P z c (gcF P z j p q (Int32.ofNat mo) k A (Int32.ofNat x)) ∧ Cs A (gcF P z j p q (Int32.ofNat mo) k A (Int32.ofNat x)) k k 0 k := by
  intro k
  induction k with
  | zero => intro x A h _ _ _ _ _; exact ⟨h, Cs.rf A⟩
  | succ k ih =>
    intro x A h hp hp0 ht hx h0
    have a1 := (h.2.2.1 p hp).1
    have hc := h.2.2.2.2.1
    have hs := (h.2.2.1 p hp).2.1.2.2.2.2.2.1
    rw [gcF]
    by_cases d : tI A 403 p ≤ Int32.ofNat x
    · rw [if_pos d]; exact ⟨h, (Cs.rf A).le (by omega) (by omega) (by omega) (by omega)⟩
    rw [if_neg d]
    rw [a1 403 (by omega) (by omega), j_ll (by omega) (by omega)] at d
    obtain ⟨g1, g2⟩ := ct_iv h hp hp0 ht (by omega) hmo hmo2 h0
    have n1 : tN (ctA A p (Int32.ofNat x) (Int32.ofNat mo)) 1 0 = tN A 1 0 + 1 := by rw [ct_N (by omega), if_neg (by omega), if_pos ⟨rfl, rfl⟩]
    have n5 : tN (ctA A p (Int32.ofNat x) (Int32.ofNat mo)) 5 (tN A 1 0) = 3 := by rw [ct_N (by omega), if_pos ⟨rfl, rfl⟩]
    have n5p : tN (ctA A p (Int32.ofNat x) (Int32.ofNat mo)) 5 p = 0 := by rw [ct_N (by omega), if_neg (by omega), if_neg (by omega)]; exact hp0
    have eI : ∀ g, tI (ctA A p (Int32.ofNat x) (Int32.ofNat mo)) g p = tI A g p := fun g => ct_I hp
    generalize ctA A p (Int32.ofNat x) (Int32.ofNat mo) = B at *
    obtain ⟨k1, k2, -, -, -⟩ := gt_iv g1 hz hj (p := tN A 1 0) (by omega) n5 hq
    obtain ⟨o1, o2, o3, o4, o5, o6, o7, o8, o9⟩ := gt_ok (P := P) (z := z) (q := q) g1.1 g1.2.1 hj (p := tN A 1 0) (by omega) n5
    have e5 := o7 p (by omega)
    generalize gtF P z B j (tN A 1 0) q = C at *
    rw [j_ad]
    have eI2 : ∀ g, tI C g p = tI A g p := fun g => by rw [o3]; exact eI g
    obtain ⟨r1, r2⟩ := ih (x + mo) C k1 (by rw [o5]; omega) (by rw [e5]; exact n5p) (by unfold hv; rw [eI2]; exact ht) (by omega) (fun e => by omega)
    exact ⟨r1, ((g2.tr k2).tr r2).le (by omega) (by omega) (by omega) (by omega)⟩
theorem gb_iv (h : Iv P z c A) (hz : PS P z) (hj : j < 8) {p q k0 : Nat} (hp : p < tN A 1 0) (hp3 : tN A 5 p = 3) (hq : Pq P z j k0 q) :
    Iv P z c (gbF P z A j p q) ∧ Cs A (gbF P z A j p q) (c / 8 + 1) (c / 8 + 1) 0 (c / 8 + 1) ∧ (hv A 403 p ≤ 8 → (tW (gbF P z A j p q) j).length ≤ (tW A j).length + 1 ∧ Cs A (gbF P z A j p q) 0 1 0 1) := by
  obtain ⟨k, hk1, hk2, hk⟩ := wiv_ok hz (wd_I z 701 q)
  have hh := h.2.2.1 p hp
  have a1 := hh.1
  have hc := h.2.2.2.2.1
  have hs := hh.2.1.2.2.2.2.2.1
  have hmo : ((wiv P z (wd_I z 701 q) - 4) / 4 * 4) = Int32.ofNat ((k - 4) / 4 * 4) := by
    rw [hk, show (4 : Int32) = Int32.ofNat 4 from rfl, j_sb (by omega), j_di (by omega) (by omega), j_ml]
  have e3 : tI A 403 p + 4 = Int32.ofNat (hv A 403 p + 4) := by rw [a1 403 (by omega) (by omega)]; exact j_ad _ 4
  have hkp : kp A p ≤ c / 8 + 1 := by
    show hv A 403 p / 8 + 1 ≤ _
    have := Nat.div_le_div_right (c := 8) (show hv A 403 p ≤ c by omega)
    omega
  unfold gbF
  rw [hmo]
  by_cases d : tI A 403 p + 4 ≤ wiv P z (wd_I z 701 q)
  · rw [if_pos d]
    obtain ⟨g1, g2, g3, g4, -⟩ := gt_iv h hz hj hp hp3 hq
    exact ⟨g1, g2.le (by omega) (by omega) (by omega) (by omega), fun _ => ⟨g3, g2⟩⟩
  · rw [if_neg d]
    rw [e3, hk, j_ll (by omega) (by omega)] at d
    have h' := h.tag (v := 0) hp3
    have t5 : tN (uN A 5 p 0) 5 p = 0 := by rw [tN_uN, if_pos ⟨rfl, rfl⟩]
    have t6 : ∀ g x, g ≠ 5 → tN (uN A 5 p 0) g x = tN A g x := fun g x hg => by rw [tN_uN, if_neg (fun q => hg q.1)]
    have t7 : ∀ x, tN A 5 x ≠ 3 → tN (uN A 5 p 0) 5 x = tN A 5 x := fun x hx => by
      rw [tN_uN, if_neg]
      intro q
      rw [q.2] at hx
      exact hx hp3
    have t8 : tI (uN A 5 p 0) = tI A := tI_uN _ _ _ _
    have cg := Cs.tag (A := A) p 0
    generalize uN A 5 p 0 = B at *
    have v4 : ∀ g, hv B g p = hv A g p := fun g => hv_c (by rw [t8])
    obtain ⟨g1, g2⟩ := gc_iv hz hj hq (mo := (k - 4) / 4 * 4) (by omega) (by omega) (kp A p) 0 B h' (by rw [t6 1 0 (by omega)]; exact hp) t5 (by rw [v4]; exact hh.2.2.2.2.1 (by omega)) (by omega) (fun _ l0 => by
      rw [v4] at l0 ⊢
      refine ⟨by rw [t6 6 _ (by omega)]; exact hh.2.2.2.2.2.1 (by omega) l0, fun k6 => ?_⟩
      rw [v4] at k6
      have := hh.2.2.2.2.2.2.2 k6 (by omega) l0
      rw [t6 8 _ (by omega), t7 _ (by omega)]; exact this)
    exact ⟨g1, (cg.tr g2).le (by omega) (by omega) (by omega) (by omega), fun h8 => by omega⟩
/-- one turn of GO OUT -/
def goS (P : Nat) (z : Wd) (A : Ta) (j p : Nat) : Option Nat × Ta :=
  if owv P z j (tI A 402 p) = true then acF A j p
  else if ptv P z j (tI A 402 p) = -2 ∧ cwP P z j (tI A 402 p) = true then (some (tN A 1 0), wrF P z A j p)
  else match pov P z j (ptv P z j (tI A 402 p)) with
  | none => coF P z A j p 4 0
  | some q => if tI A 408 p = 0 ∨ tI A 403 p + 4 ≤ wiv P z (wd_I z 701 q) then (none, gbF P z A j p q) else coF P z A j p 5 (wiv P z (wd_I z 701 q))
def goF (P : Nat) (z : Wd) (j : Nat) : Nat → Option Nat → Ta → Ta
  | 0, _, A => A
  | _ + 1, none, A => A
  | k + 1, some p, A => goF P z j k (goS P z A j p).1 (goS P z A j p).2
/-- may GO OUT -/
def Gp (P : Nat) (z : Wd) (A : Ta) (j p : Nat) : Prop := p < tN A 1 0 ∧ tN A 5 p = 3 ∧ (owv P z j (tI A 402 p) = true → hv A 400 p ≠ 6)
def rk1 (P : Nat) (z : Wd) (A : Ta) (j p : Nat) : Prop := owv P z j (tI A 402 p) = false ∧ (pov P z j (ptv P z j (tI A 402 p))).isSome = true ∧ tI A 408 p = 0
noncomputable def rkF (P : Nat) (z : Wd) (A : Ta) (j p : Nat) : Nat := @ite _ (rk1 P z A j p) (Classical.propDecidable _) 1 (if isC (tI A 400 p) = true then 2 else if tI A 400 p = 1 then 4 else 3)
theorem rkF_4 {p : Nat} : rkF P z A j p ≤ 4 := by unfold rkF; split; omega; split; omega; split <;> omega
theorem rkF_1 {p : Nat} (h : rk1 P z A j p) : rkF P z A j p = 1 := by unfold rkF; rw [if_pos h]
theorem rkF_n {p : Nat} (h : ¬ rk1 P z A j p) : rkF P z A j p = if isC (tI A 400 p) = true then 2 else if tI A 400 p = 1 then 4 else 3 := by unfold rkF; rw [if_neg h]
theorem rkF_0 {p : Nat} : 1 ≤ rkF P z A j p := by unfold rkF; split; omega; split; omega; split <;> omega
/-- a turn keeps what is right; only a wrapped one grows, and goes by a port next -/
theorem gs_ok (h : Iv P z c A) (hz : PS P z) (hj : j < 8) {p : Nat} (hp : Gp P z A j p) (hc : c + 4 ≤ 10000) (h9 : tN A 901 0 + 1 ≤ 1000000000) :
    Cs A (goS P z A j p).2 (c / 8 + 1) (c / 8 + 1) 1 (c / 8 + 1) ∧ ((goS P z A j p).1 ≠ none → Cs A (goS P z A j p).2 1 0 1 1) ∧
    (Iv P z c (goS P z A j p).2 ∨ (Iv P z (c + 4) (goS P z A j p).2 ∧ ∀ q, (goS P z A j p).1 = some q → rk1 P z (goS P z A j p).2 j q)) ∧ (rk1 P z A j p → Iv P z c (goS P z A j p).2 ∧ (goS P z A j p).1 = none) ∧
    ∀ q, (goS P z A j p).1 = some q → Gp P z (goS P z A j p).2 j q ∧ rkF P z (goS P z A j p).2 j q < rkF P z A j p := by
  obtain ⟨hp1, hp3, hp6⟩ := hp
  have hh := h.2.2.1 p hp1
  have a1 := hh.1
  unfold goS
  by_cases c1 : owv P z j (tI A 402 p) = true
  · rw [if_pos c1]
    obtain ⟨g1, g2, g3, -⟩ := ac_ok h hj hp1 (by omega) (hp6 c1) h9
    have hn : ¬ rk1 P z A j p := fun q => by rw [q.1] at c1; cases c1
    refine ⟨g2.le (by omega) (by omega) (by omega) (by omega), fun _ => g2.le (by omega) (by omega) (by omega) (by omega), Or.inl g1, fun q => absurd q hn, fun q hq => ?_⟩
    obtain ⟨q0, q1, q2, q3, q4, -⟩ := g3 q hq
    refine ⟨⟨q2, q3, fun _ => ?_⟩, ?_⟩
    · unfold hv
      rw [q4]
      decide
    · rw [rkF_n hn, q0, if_neg (by decide), if_pos rfl]
      by_cases r : rk1 P z (acF A j p).2 j q
      · rw [rkF_1 r]; omega
      · rw [rkF_n r, q4, if_neg (by decide), if_neg (by decide)]; omega
  rw [if_neg c1]
  have c1' : owv P z j (tI A 402 p) = false := by cases e : owv P z j (tI A 402 p) with | true => exact absurd e c1 | false => rfl
  by_cases c2 : ptv P z j (tI A 402 p) = -2 ∧ cwP P z j (tI A 402 p) = true
  · rw [if_pos c2]
    obtain ⟨g1, g2, g3, g4, g5, g6, g7, g8, g9, -⟩ := wr_ok h hz hj hp1 hp3 c2.1 c2.2 hc h9
    have hn : ¬ rk1 P z A j p := fun q => by
      have := q.2.1
      rw [c2.1] at this
      cases this
    have hr : rk1 P z (wrF P z A j p) j (tN A 1 0) := ⟨g8, g9, g6⟩
    refine ⟨g2.le (by omega) (by omega) (by omega) (by omega), fun _ => g2.le (by omega) (by omega) (by omega) (by omega), Or.inr ⟨g1, fun q hq => ?_⟩, fun q => absurd q hn, fun q hq => ?_⟩
    · rw [← Option.some.inj hq]; exact hr
    · rw [← Option.some.inj hq]
      refine ⟨⟨g3, g4, fun q => by rw [g8] at q; cases q⟩, ?_⟩
      rw [rkF_1 hr, rkF_n hn]
      split; omega; split <;> omega
  rw [if_neg c2]
  have comp : ∀ (k a : Nat), 3 ≤ k → k ≤ 5 → a ≤ 200 → (k = 5 → 12 ≤ a) → ¬ rk1 P z A j p →
      Cs A (coF P z A j p (Int32.ofNat k) (Int32.ofNat a)).2 (c / 8 + 1) (c / 8 + 1) 1 (c / 8 + 1) ∧ ((coF P z A j p (Int32.ofNat k) (Int32.ofNat a)).1 ≠ none → Cs A (coF P z A j p (Int32.ofNat k) (Int32.ofNat a)).2 1 0 1 1) ∧
      (Iv P z c (coF P z A j p (Int32.ofNat k) (Int32.ofNat a)).2 ∨ (Iv P z (c + 4) (coF P z A j p (Int32.ofNat k) (Int32.ofNat a)).2 ∧ ∀ q, (coF P z A j p (Int32.ofNat k) (Int32.ofNat a)).1 = some q → rk1 P z (coF P z A j p (Int32.ofNat k) (Int32.ofNat a)).2 j q)) ∧ (rk1 P z A j p → Iv P z c (coF P z A j p (Int32.ofNat k) (Int32.ofNat a)).2 ∧ (coF P z A j p (Int32.ofNat k) (Int32.ofNat a)).1 = none) ∧
      ∀ q, (coF P z A j p (Int32.ofNat k) (Int32.ofNat a)).1 = some q → Gp P z (coF P z A j p (Int32.ofNat k) (Int32.ofNat a)).2 j q ∧ rkF P z (coF P z A j p (Int32.ofNat k) (Int32.ofNat a)).2 j q < rkF P z A j p := by
    intro k a hk3 hk5 ha ha5 hn
    obtain ⟨g1, g2, -, -, -, -, g3⟩ := co_ok h hz hj (p := p) hp1 hk3 hk5 ha ha5 h9
    refine ⟨g2.le (by omega) (by omega) (by omega) (by omega), fun _ => g2.le (by omega) (by omega) (by omega) (by omega), Or.inl g1, fun q => absurd q hn, fun q hq => ?_⟩
    obtain ⟨q1, q2, q3, q4, q5, q6⟩ := g3 q hq
    have hkc : isC (Int32.ofNat k) = true := by
      have : k = 3 ∨ k = 4 ∨ k = 5 := by omega
      rcases this with rfl | rfl | rfl <;> decide
    refine ⟨⟨q3, q4, fun _ => ?_⟩, ?_⟩
    · unfold hv
      rw [q5, j_nn (by omega)]; omega
    · rw [rkF_n hn, q1, if_neg (by decide)]
      by_cases r : rk1 P z (coF P z A j p (Int32.ofNat k) (Int32.ofNat a)).2 j q
      · rw [rkF_1 r]; split <;> omega
      · rw [rkF_n r, q5, hkc, if_pos rfl]; split <;> omega
  cases hq : pov P z j (ptv P z j (tI A 402 p)) with
  | none =>
    exact comp 4 0 (by omega) (by omega) (by omega) (by omega) (fun r => by rw [rk1, hq] at r; cases r.2.1)
  | some q =>
    dsimp only
    obtain ⟨k, k1, -⟩ := pov_P hj hq
    by_cases c3 : tI A 408 p = 0 ∨ tI A 403 p + 4 ≤ wiv P z (wd_I z 701 q)
    · rw [if_pos c3]
      obtain ⟨g1, g2, -⟩ := gb_iv h hz hj hp1 hp3 k1
      exact ⟨g2.le (by omega) (by omega) (by omega) (by omega), fun r => absurd rfl r, Or.inl g1, fun _ => ⟨g1, rfl⟩, fun q hq => by cases hq⟩
    · rw [if_neg c3]
      obtain ⟨a, ha1, ha2, ha⟩ := wiv_ok hz (wd_I z 701 q)
      rw [ha]
      exact comp 5 a (by omega) (by omega) ha2 (fun _ => ha1) (fun r => c3 (Or.inl r.2.2))
theorem goF_n (k : Nat) : goF P z j k none A = A := by cases k <;> rfl
/-- GO OUT keeps what is right -/
theorem go_ok (hz : PS P z) (hj : j < 8) (hc : c + 8 ≤ 10000) : ∀ (k : Nat) (A : Ta) (p : Nat), Iv P z c A → Gp P z A j p → tN A 901 0 + k ≤ 1000000000 →
    Iv P z (c + 4) (goF P z j k (some p) A) ∧ Cs A (goF P z j k (some p) A) ((c + 4) / 8 + 1 + k) ((c + 4) / 8 + 1) k ((c + 4) / 8 + 1 + k) := by
  intro k
  induction k with
  | zero => intro A p h _ _; exact ⟨h.le (by omega) (by omega), (Cs.rf A).le (by omega) (by omega) (by omega) (by omega)⟩
  | succ k ih =>
    intro A p h hp h9
    obtain ⟨g1, g2, g3, g4, g5⟩ := gs_ok h hz hj hp (by omega) (by omega)
    have hc8 : c / 8 ≤ (c + 4) / 8 := Nat.div_le_div_right (by omega)
    rw [goF]
    cases hr : (goS P z A j p).1 with
    | none =>
      rw [goF_n]
      refine ⟨?_, g1.le (by omega) (by omega) (by omega) (by omega)⟩
      rcases g3 with q | q
      · exact q.le (by omega) (by omega)
      · exact q.1
    | some r =>
      obtain ⟨r1, r2⟩ := g5 r hr
      have cs := g2 (by rw [hr]; exact fun e => by cases e)
      generalize (goS P z A j p).2 = B at *
      rcases g3 with q | q
      · obtain ⟨k1, k2⟩ := ih B r q r1 (by have := cs.2.2.2.2.1; omega)
        exact ⟨k1, (cs.tr k2).le (by omega) (by omega) (by omega) (by omega)⟩
      · have q1 := q.2 r hr
        cases k with
        | zero => exact ⟨q.1, cs.le (by omega) (by omega) (by omega) (by omega)⟩
        | succ k =>
          rw [goF]
          obtain ⟨l1, l2, l3, l4, l5⟩ := gs_ok q.1 hz hj r1 (by omega) (by have := cs.2.2.2.2.1; omega)
          obtain ⟨m1, m2⟩ := l4 q1
          rw [m2, goF_n]
          exact ⟨m1, (cs.tr l1).le (by omega) (by omega) (by omega) (by omega)⟩
end GO
