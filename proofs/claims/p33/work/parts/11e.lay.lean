/-! ===== PURE: the ways laid anew ===== -/
section LY
variable {P n i : Nat} {w u v : Wd}
theorem j_ix {k N : Nat} (hk : k < N) (hN : N < 2147483648) : ¬ (Int32.ofNat k < 0 ∨ N ≤ k) := fun q => q.elim (j_n0 (by omega)) (fun q => by omega)
/-- v is w but for the ways of machine i -/
def Lw (P i : Nat) (w v : Wd) : Prop := (∀ g a, wd_I v g a = wd_I w g a) ∧ (∀ g a, wd_R v g a = wd_R w g a) ∧ (∀ a x, wd_Q v a x = wd_Q w a x) ∧ (∀ a, wd_N v a = wd_N w a) ∧ (wd_H v = wd_H w ∧ wd_M v = wd_M w ∧ wd_S v = wd_S w) ∧ ∀ a x, a ≠ mA P i + 6 → a ≠ mA P i + 7 → a ≠ mA P i + 8 → wd_A v a x = wd_A w a x
theorem Lw.rf : Lw P i w w := ⟨fun _ _ => rfl, fun _ _ => rfl, fun _ _ => rfl, fun _ => rfl, ⟨rfl, rfl, rfl⟩, fun _ _ _ _ _ => rfl⟩
theorem Lw.tr (h : Lw P i w u) (k : Lw P i u v) : Lw P i w v := ⟨fun g a => (k.1 g a).trans (h.1 g a), fun g a => (k.2.1 g a).trans (h.2.1 g a), fun a x => (k.2.2.1 a x).trans (h.2.2.1 a x), fun a => (k.2.2.2.1 a).trans (h.2.2.2.1 a), ⟨k.2.2.2.2.1.1.trans h.2.2.2.2.1.1, k.2.2.2.2.1.2.1.trans h.2.2.2.2.1.2.1, k.2.2.2.2.1.2.2.trans h.2.2.2.2.1.2.2⟩, fun a x h1 h2 h3 => (k.2.2.2.2.2 a x h1 h2 h3).trans (h.2.2.2.2.2 a x h1 h2 h3)⟩
theorem Lw.pa (h : Lw P i w v) (hA : PA P w) : PA P v := by
  obtain ⟨h1, h2, h3, h4, h5, h6⟩ := h
  obtain ⟨a1, a2, a3⟩ := hA
  refine ⟨by rw [h2, h2, h2, h4, h4, h4]; exact a1, fun k hk => ?_, fun k hk => ?_⟩
  · rw [h3, h2, h2, h2, h2, h2, h2, h2, h2]; exact a2 k hk
  · rw [h4, h4, h4, h4, h4, h4, h4, h4]; exact a3 k hk
theorem Lw.pc (h : Lw P i w v) {j : Nat} (hC : PC P w j) : PC P v j := by
  obtain ⟨h1, h2, h3, h4, h5, h6⟩ := h
  obtain ⟨c1, ⟨k, k1, k2, k3⟩, ⟨p, p1, p2, p3, p4⟩, r, r1, r2, r3⟩ := hC
  have e : ∀ d, 2 ≤ d → d ≤ 5 → ∀ x, wd_A v (mA P j + d) x = wd_A w (mA P j + d) x := fun d d1 d2 x => h6 _ x (by unfold mA; omega) (by unfold mA; omega) (by unfold mA; omega)
  refine ⟨by rw [h1]; exact c1, ⟨k, k1, by rw [h1]; exact k2, fun t ht => by rw [e 5 (by omega) (by omega)]; exact k3 t ht⟩, ⟨p, p1, by rw [h1]; exact p2, fun t ht => ?_, fun t h1' h2' => by rw [h3]; exact p4 t h1' h2'⟩, r, r1, by rw [h1]; exact r2, fun t ht => ?_⟩
  · obtain ⟨q, l, q1, q2, q3⟩ := p3 t ht
    exact ⟨q, l, by rw [h3]; exact q1, q2, by rw [h1]; exact q3⟩
  · rw [e 3 (by omega) (by omega), e 4 (by omega) (by omega), h1]; exact r3 t ht
/-- -1, or the number of a port -/
def Po (P i : Nat) (w : Wd) (r : Int32) : Prop := r = -1 ∨ ∃ k q l, k < 4 ∧ r = Int32.ofNat k ∧ wd_Q w (mA P i + 1) k = some q ∧ l ≤ 8 ∧ wd_I w 703 q = Int32.ofNat l
theorem x_netHas (a b c : Int32) : ∃ r, f_X3_netHas n w a b c = some (r, w) := by
  unfold f_X3_netHas
  split
  · exact ⟨1, rfl⟩
  · exact ⟨0, rfl⟩
theorem PC.port (hC : PC P w i) {k q : Nat} (hk : k < 4) (h : wd_Q w (mA P i + 1) k = some q) : ∃ l, l ≤ 8 ∧ wd_I w 703 q = Int32.ofNat l := by
  obtain ⟨-, -, ⟨p, p1, p2, p3, p4⟩, -⟩ := hC
  by_cases e : k < p
  · obtain ⟨q', l, q1, q2, q3⟩ := p3 k e
    rw [h] at q1
    rw [Option.some.inj q1]; exact ⟨l, q2, q3⟩
  · have := p4 k (by omega) hk
    rw [h] at this; cases this
theorem x_pwn (hA : PA P w) (hC : PC P w i) (hi : i < 8) (hn : 6 ≤ n) (x : Int32) : ∃ r, f_X3_portWithNetOf n w (mA P i) x = some (r, w) ∧ Po P i w r := by
  obtain ⟨-, a2, a3⟩ := hA
  have e302 := (a2 i hi).2.1
  have eN := (a3 i hi).1
  have key : ∀ (k t m : Nat) (best bl : Int32), t + k = 4 → k < m → Po P i w best → ∃ r, wd_lp6 (f_X3_portWithNetOf_l7 n) m (mA P i) x best bl (Int32.ofNat t) w = some (r, w) ∧ Po P i w r := by
    intro k
    induction k with
    | zero =>
      intro t m best bl ht hm hb
      obtain ⟨m, rfl⟩ : ∃ r, m = r + 1 := ⟨m - 1, by omega⟩
      refine ⟨best, ?_, hb⟩
      rw [wd_lp6, f_X3_portWithNetOf_l7, if_pos (by rw [show (4 : Int32) = Int32.ofNat 4 from rfl, j_ll (by omega) (by omega)]; omega)]
    | succ k ih =>
      intro t m best bl ht hm hb
      obtain ⟨m, rfl⟩ : ∃ r, m = r + 1 := ⟨m - 1, by omega⟩
      rw [wd_lp6, f_X3_portWithNetOf_l7, if_neg (by rw [show (4 : Int32) = Int32.ofNat 4 from rfl, j_ll (by omega) (by omega)]; omega), e302, Option.bind_some, j_gd (by rw [eN]; exact j_in (by omega) (by omega)), wd_let, j_nn (by omega)]
      have go : ∀ best' bl', Po P i w best' → ∃ r, f_X3_portWithNetOf_j62 n (wd_lp6 (f_X3_portWithNetOf_l7 n) m) (mA P i) x best' bl' (Int32.ofNat t) w = some (r, w) ∧ Po P i w r := fun best' bl' hb' => by
        rw [f_X3_portWithNetOf_j62, wd_let, j_a1]
        exact ih (t + 1) m best' bl' (by omega) (by omega) hb'
      cases hq : wd_Q w (mA P i + 1) t with
      | none => rw [wd_on_N]; exact go _ _ hb
      | some q =>
        rw [wd_on_S]
        by_cases c1 : wd_I w 703 q ≤ bl
        · rw [if_pos c1]; exact go _ _ hb
        · rw [if_neg c1]
          obtain ⟨r, hr⟩ := x_netHas (n := n) (w := w) (wd_I w 702 q) (wd_I w 703 q) x
          rw [hr, wd_b2_s]
          by_cases c2 : r = 0
          · rw [if_pos c2]; exact go _ _ hb
          · rw [if_neg c2, wd_let]
            obtain ⟨l, l1, l2⟩ := hC.port (by omega) hq
            exact go _ _ (Or.inr ⟨t, q, l, by omega, rfl, hq, l1, l2⟩)
  exact key 4 0 n (-1) (-1) (by omega) (by omega) (Or.inl rfl)
theorem x_rf (hA : PA P w) (hi : i < 8) {rc : Nat} (h7 : wd_I w 307 (mA P i) = Int32.ofNat rc) (hrc : rc ≤ 6) (hn : 8 ≤ n) (x : Int32) : ∃ r, f_X3_routeFor n w (mA P i) x = some (r, w) ∧ (r = -1 ∨ ∃ t, t < rc ∧ r = Int32.ofNat t) := by
  obtain ⟨-, a2, a3⟩ := hA
  obtain ⟨-, -, e304, e305, -⟩ := a2 i hi
  obtain ⟨-, eN2, eN3, -⟩ := a3 i hi
  have key : ∀ (k t m : Nat) (best bl : Int32), t + k = rc → k < m → (best = -1 ∨ ∃ t, t < rc ∧ best = Int32.ofNat t) → ∃ r, wd_lp6 (f_X3_routeFor_l7 n) m (mA P i) x best bl (Int32.ofNat t) w = some (r, w) ∧ (r = -1 ∨ ∃ t, t < rc ∧ r = Int32.ofNat t) := by
    intro k
    induction k with
    | zero =>
      intro t m best bl ht hm hb
      obtain ⟨m, rfl⟩ : ∃ r, m = r + 1 := ⟨m - 1, by omega⟩
      refine ⟨best, ?_, hb⟩
      rw [wd_lp6, f_X3_routeFor_l7, h7, if_pos (by rw [j_ll (by omega) (by omega)]; omega)]
    | succ k ih =>
      intro t m best bl ht hm hb
      obtain ⟨m, rfl⟩ : ∃ r, m = r + 1 := ⟨m - 1, by omega⟩
      rw [wd_lp6, f_X3_routeFor_l7, h7, if_neg (by rw [j_ll (by omega) (by omega)]; omega), e305, Option.bind_some, j_gd (by rw [eN3]; exact j_in (by omega) (by omega)), j_nn (by omega)]
      have go : ∀ best' bl', (best' = -1 ∨ ∃ t, t < rc ∧ best' = Int32.ofNat t) → ∃ r, f_X3_routeFor_j59 n (wd_lp6 (f_X3_routeFor_l7 n) m) (mA P i) x best' bl' (Int32.ofNat t) w = some (r, w) ∧ (r = -1 ∨ ∃ t, t < rc ∧ r = Int32.ofNat t) := fun best' bl' hb' => by
        rw [f_X3_routeFor_j59, wd_let, j_a1]
        exact ih (t + 1) m best' bl' (by omega) (by omega) hb'
      by_cases c1 : wd_A w (mA P i + 3) t ≤ bl
      · rw [if_pos c1]; exact go _ _ hb
      · rw [if_neg c1, e304, Option.bind_some, j_gd (by rw [eN2]; exact j_ix (by omega) (by omega)), Option.bind_some, j_gd (by rw [eN3]; exact j_ix (by omega) (by omega))]
        obtain ⟨r, hr⟩ := x_netHas (n := n) (w := w) (wd_A w (mA P i + 2) t) (wd_A w (mA P i + 3) t) x
        rw [hr, wd_b2_s]
        by_cases c2 : r = 0
        · rw [if_pos c2]; exact go _ _ hb
        · rw [if_neg c2, e305, Option.bind_some, j_gd (by rw [eN3]; exact j_ix (by omega) (by omega)), wd_let]
          exact go _ _ (Or.inr ⟨t, by omega, rfl⟩)
  exact key rc 0 n (-1) (-1) (by omega) (by omega) (Or.inl rfl)
def lwW (P i : Nat) (w : Wd) (x : Nat) (p h l : Int32) : Wd := wd_sA (wd_sA (wd_sA w (mA P i + 6) x p) (mA P i + 7) x h) (mA P i + 8) x l
theorem lwW_A {x a y : Nat} {p h l : Int32} : wd_A (lwW P i w x p h l) a y = if a = mA P i + 8 ∧ y = x then l else if a = mA P i + 7 ∧ y = x then h else if a = mA P i + 6 ∧ y = x then p else wd_A w a y := by
  unfold lwW
  rw [a_sA, a_sA, a_sA]
theorem x_lw (hA : PA P w) (hi : i < 8) {x : Nat} (hx : x < 256) (p h l : Int32) : f_X3_layWay n w (mA P i) (Int32.ofNat x) p h l = some (lwW P i w x p h l) ∧ Lw P i w (lwW P i w x p h l) := by
  obtain ⟨-, a2, a3⟩ := hA
  obtain ⟨-, -, -, -, -, -, e1, e2, e3⟩ := a2 i hi
  obtain ⟨-, -, -, -, -, n1, n2, n3⟩ := a3 i hi
  refine ⟨?_, fun _ _ => rfl, fun _ _ => rfl, fun _ _ => rfl, fun _ => rfl, ⟨rfl, rfl, rfl⟩, fun a y h1 h2 h3 => by rw [lwW_A, if_neg (fun q => h3 q.1), if_neg (fun q => h2 q.1), if_neg (fun q => h1 q.1)]⟩
  have hg : ∀ (u : Wd) (a : Nat), wd_N u a = 256 → ¬ (Int32.ofNat x < 0 ∨ wd_N u a ≤ (Int32.ofNat x).toNatClampNeg) := fun u a hu => by rw [hu]; exact j_in hx (by omega)
  have hg2 : ∀ (u : Wd) (a : Nat), wd_N u a = 256 → ¬ (Int32.ofNat x < 0 ∨ wd_N u a ≤ x) := fun u a hu => by rw [hu]; exact j_ix hx (by omega)
  rw [f_X3_layWay, e1, Option.bind_some, j_gd (hg _ _ n1), wd_let, j_nn (by omega), show wd_R (wd_sA w (mA P i + 6) x p) 311 (mA P i) = some (mA P i + 7) from e2, Option.bind_some, j_gd (hg2 (wd_sA w (mA P i + 6) x p) _ n2), wd_let, show wd_R (wd_sA (wd_sA w (mA P i + 6) x p) (mA P i + 7) x h) 312 (mA P i) = some (mA P i + 8) from e3, Option.bind_some, j_gd (hg2 (wd_sA (wd_sA w (mA P i + 6) x p) (mA P i + 7) x h) _ n3), wd_let]
  rfl
/-- what is right of a way -/
def Vk (P i : Nat) (w : Wd) (p h l : Int32) : Prop := (p = -1 ∧ h = -1 ∧ l = -1) ∨ (∃ k, k ≤ 8 ∧ l = Int32.ofNat k) ∧ ((p = -2 ∧ ∃ t, h = Int32.ofNat t ∧ t < 2 ∧ h < wd_I w 309 (mA P i)) ∨ ∃ k q y, k < 4 ∧ p = Int32.ofNat k ∧ wd_Q w (mA P i + 1) k = some q ∧ y < 256 ∧ h = Int32.ofNat y)
theorem x_lay1 (hA : PA P w) (hC : PC P w i) (hi : i < 8) (hn : 10 ≤ n) {t : Nat} (ht : t < 256) : ∃ p h l, Vk P i w p h l ∧ ∀ rec, f_X3_layWays_l2 n rec (mA P i) (Int32.ofNat t) w = rec (mA P i) (Int32.ofNat (t + 1)) (lwW P i w t p h l) := by
  obtain ⟨-, a2, a3⟩ := id hA
  obtain ⟨-, e302, -, e305, e306, -⟩ := a2 i hi
  obtain ⟨eN1, -, eN3, eN4, -⟩ := a3 i hi
  obtain ⟨r, r1, r2⟩ := x_pwn (n := n) hA hC hi (by omega) (Int32.ofNat t)
  obtain ⟨rc, rc1, rc2, rc3⟩ := hC.2.2.2
  obtain ⟨ro, ro1, ro2⟩ := x_rf (n := n) hA hi rc2 rc1 (by omega) (Int32.ofNat t)
  have stp : ∀ p h l, ∀ rec : Nat → Int32 → Wd → Option Wd, (Option.bind (f_X3_layWay n w (mA P i) (Int32.ofNat t) p h l) fun w21 => f_X3_layWays_j86 n rec (mA P i) (Int32.ofNat t) w21) = rec (mA P i) (Int32.ofNat (t + 1)) (lwW P i w t p h l) := fun p h l rec => by
    rw [(x_lw (n := n) hA hi ht p h l).1, Option.bind_some, f_X3_layWays_j86, wd_let, j_a1]
  -- the port itself
  have hport : ∃ o y, f_X3_port n w (mA P i) r = some (o, w) ∧ (∀ rec, (wd_on o (f_X3_layWays_j33 n rec (-1 : Int32) (mA P i) (Int32.ofNat t) r none w) fun a8 => f_X3_layWays_j33 n rec (wd_I w 703 a8) (mA P i) (Int32.ofNat t) r (some a8) w) = f_X3_layWays_j33 n rec y (mA P i) (Int32.ofNat t) r o w) ∧ ((o = none ∧ r = -1 ∧ y = -1) ∨ ∃ k q l, k < 4 ∧ o = some q ∧ r = Int32.ofNat k ∧ wd_Q w (mA P i + 1) k = some q ∧ l ≤ 8 ∧ y = Int32.ofNat l) := by
    rcases r2 with e | ⟨k, q, l, k1, k2, k3, k4, k5⟩
    · refine ⟨none, -1, ?_, fun rec => rfl, Or.inl ⟨rfl, e, rfl⟩⟩
      rw [e, f_X3_port, if_pos (by decide)]; rfl
    · refine ⟨some q, wd_I w 703 q, ?_, fun rec => rfl, Or.inr ⟨k, q, l, k1, rfl, k2, k3, k4, k5⟩⟩
      rw [k2, f_X3_port, if_neg (j_n0 (by omega)), if_neg (by rw [show (4 : Int32) = Int32.ofNat 4 from rfl, j_ll (by omega) (by omega)]; omega), e302, Option.bind_some, j_gd (by rw [eN1]; exact j_in (by omega) (by omega)), j_nn (by omega), k3]
  obtain ⟨o, y, o1, o2, o3⟩ := hport
  -- without a route
  have j69 : ∃ p h l, Vk P i w p h l ∧ ∀ rec, f_X3_layWays_j69 n rec (mA P i) (Int32.ofNat t) r o y w = rec (mA P i) (Int32.ofNat (t + 1)) (lwW P i w t p h l) := by
    rcases o3 with ⟨e1, e2, e3⟩ | ⟨k, q, l, k1, e1, e2, e3, e4, e5⟩
    · refine ⟨-1, -1, -1, Or.inl ⟨rfl, rfl, rfl⟩, fun rec => ?_⟩
      rw [e1, e2, e3, f_X3_layWays_j69, wd_on_N, f_X3_layWays_j81]
      exact stp _ _ _ rec
    · refine ⟨Int32.ofNat k, Int32.ofNat t, Int32.ofNat l, Or.inr ⟨⟨l, e4, rfl⟩, Or.inr ⟨k, q, t, k1, rfl, e3, ht, rfl⟩⟩, fun rec => ?_⟩
      rw [e1, e2, e5, f_X3_layWays_j69, wd_on_S, f_X3_layWays_j81]
      exact stp _ _ _ rec
  have main : ∃ p h l, Vk P i w p h l ∧ ∀ rec, f_X3_layWays_j33 n rec y (mA P i) (Int32.ofNat t) r o w = rec (mA P i) (Int32.ofNat (t + 1)) (lwW P i w t p h l) := by
    rcases ro2 with e | ⟨s, s1, s2⟩
    · obtain ⟨p, h, l, v1, v2⟩ := j69
      refine ⟨p, h, l, v1, fun rec => ?_⟩
      rw [f_X3_layWays_j33, ro1, wd_b2_s, e, if_pos (by decide)]
      exact v2 rec
    · obtain ⟨⟨l, l1, l2⟩, hvia⟩ := rc3 s s1
      by_cases c1 : wd_A w (mA P i + 3) s ≤ y
      · obtain ⟨p, h, l, v1, v2⟩ := j69
        refine ⟨p, h, l, v1, fun rec => ?_⟩
        rw [f_X3_layWays_j33, ro1, wd_b2_s, s2, if_neg (j_n0 (by omega)), e305, Option.bind_some, j_gd (by rw [eN3]; exact j_in (by omega) (by omega)), j_nn (by omega), if_pos c1]
        exact v2 rec
      · have pre : ∀ rec : Nat → Int32 → Wd → Option Wd, f_X3_layWays_j33 n rec y (mA P i) (Int32.ofNat t) r o w = Option.bind (f_X3_layByRoute n w (mA P i) (Int32.ofNat t) ro) fun w21 => f_X3_layWays_j86 n rec (mA P i) (Int32.ofNat t) w21 := fun rec => by
          rw [f_X3_layWays_j33, ro1, wd_b2_s, s2, if_neg (j_n0 (by omega)), e305, Option.bind_some, j_gd (by rw [eN3]; exact j_in (by omega) (by omega)), j_nn (by omega), if_neg c1]
        have bind3 : ∀ p h l, (Option.bind (f_X3_layWay n w (mA P i) (Int32.ofNat t) p h l) fun w12 => some w12) = f_X3_layWay n w (mA P i) (Int32.ofNat t) p h l := fun p h l => by
          rw [(x_lw (n := n) hA hi ht p h l).1, Option.bind_some]
        have hby : ∃ p h l, Vk P i w p h l ∧ f_X3_layByRoute n w (mA P i) (Int32.ofNat t) ro = f_X3_layWay n w (mA P i) (Int32.ofNat t) p h l := by
          unfold f_X3_layByRoute
          rw [e306, Option.bind_some, s2, j_gd (by rw [eN4]; exact j_in (by omega) (by omega)), wd_let, j_nn (by omega)]
          rcases hvia with ⟨y', y1, y2⟩ | ⟨y1, t', t1, t2, t3⟩
          · rw [y2, if_pos (by rw [show (0 : Int32) = Int32.ofNat 0 from rfl, j_ll (by omega) (by omega)]; omega)]
            obtain ⟨r', r1', r2'⟩ := x_pwn (n := n) hA hC hi (by omega) (Int32.ofNat y')
            rw [r1', wd_b2_s]
            rcases r2' with e | ⟨k, q, l', k1, k2, k3, k4, k5⟩
            · rw [e, if_neg (by decide)]
              exact ⟨-1, -1, -1, Or.inl ⟨rfl, rfl, rfl⟩, bind3 _ _ _⟩
            · rw [k2, if_pos (by rw [show (0 : Int32) = Int32.ofNat 0 from rfl, j_ll (by omega) (by omega)]; omega), e305, Option.bind_some, j_gd (by rw [eN3]; exact j_ix (by omega) (by omega))]
              exact ⟨Int32.ofNat k, Int32.ofNat y', wd_A w (mA P i + 3) s, Or.inr ⟨⟨l, l1, l2⟩, Or.inr ⟨k, q, y', k1, rfl, k3, y1, rfl⟩⟩, bind3 _ _ _⟩
          · rw [if_neg (by rw [j_le]; rw [j_lt] at y1; simp at y1 ⊢; omega), e305, Option.bind_some, j_gd (by rw [eN3]; exact j_ix (by omega) (by omega))]
            exact ⟨-2, _, wd_A w (mA P i + 3) s, Or.inr ⟨⟨l, l1, l2⟩, Or.inl ⟨rfl, t', t2, t1, by rw [t2]; exact t3⟩⟩, bind3 _ _ _⟩
        obtain ⟨p, h, l', v1, v2⟩ := hby
        refine ⟨p, h, l', v1, fun rec => ?_⟩
        rw [pre, v2]
        exact stp _ _ _ rec
  obtain ⟨p, h, l, v1, v2⟩ := main
  refine ⟨p, h, l, v1, fun rec => ?_⟩
  rw [f_X3_layWays_l2, if_neg (by rw [show (256 : Int32) = Int32.ofNat 256 from rfl, j_ll (by omega) (by omega)]; omega), r1, wd_b2_s, o1, wd_b2_s, o2]
  exact v2 rec
theorem Vk.lw (h : Lw P i w v) {p h' l : Int32} (k : Vk P i w p h' l) : Vk P i v p h' l := by
  unfold Vk
  rw [h.1]
  rcases k with k | ⟨k1, k2 | ⟨a, q, y, k3, k4, k5, k6⟩⟩
  · exact Or.inl k
  · exact Or.inr ⟨k1, Or.inl k2⟩
  · exact Or.inr ⟨k1, Or.inr ⟨a, q, y, k3, k4, by rw [h.2.2.1]; exact k5, k6⟩⟩
theorem x_layWays (hA : PA P w) (hC : PC P w i) (hi : i < 8) (hn : 300 ≤ n) : ∃ v, f_X3_layWays n w (mA P i) = some v ∧ Lw P i w v ∧ ∀ x, x < 256 → PE P v i x := by
  have key : ∀ (k t m : Nat) (u : Wd), t + k = 256 → k < m → PA P u → PC P u i → (∀ x, x < t → PE P u i x) → ∃ v, wd_lp3 (f_X3_layWays_l2 n) m (mA P i) (Int32.ofNat t) u = some v ∧ Lw P i u v ∧ ∀ x, x < 256 → PE P v i x := by
    intro k
    induction k with
    | zero =>
      intro t m u ht hm _ _ hE
      obtain ⟨m, rfl⟩ : ∃ r, m = r + 1 := ⟨m - 1, by omega⟩
      refine ⟨u, ?_, Lw.rf, fun x hx => hE x (by omega)⟩
      rw [wd_lp3, f_X3_layWays_l2, if_pos (by rw [show (256 : Int32) = Int32.ofNat 256 from rfl, j_ll (by omega) (by omega)]; omega)]
    | succ k ih =>
      intro t m u ht hm hA' hC' hE
      obtain ⟨m, rfl⟩ : ∃ r, m = r + 1 := ⟨m - 1, by omega⟩
      obtain ⟨p, h, l, v1, v2⟩ := x_lay1 (n := n) hA' hC' hi (by omega) (t := t) (by omega)
      have hL := (x_lw (n := n) hA' hi (x := t) (by omega) p h l).2
      have hE' : ∀ x, x < t + 1 → PE P (lwW P i u t p h l) i x := fun x hx => by
        have e6 : wd_A (lwW P i u t p h l) (mA P i + 6) x = if x = t then p else wd_A u (mA P i + 6) x := by
          rw [lwW_A, if_neg (by omega), if_neg (by omega)]
          by_cases e : x = t
          · rw [if_pos ⟨rfl, e⟩, if_pos e]
          · rw [if_neg (fun q => e q.2), if_neg e]
        have e7 : wd_A (lwW P i u t p h l) (mA P i + 7) x = if x = t then h else wd_A u (mA P i + 7) x := by
          rw [lwW_A, if_neg (by omega)]
          by_cases e : x = t
          · rw [if_pos ⟨rfl, e⟩, if_pos e]
          · rw [if_neg (fun q => e q.2), if_neg (by omega), if_neg e]
        have e8 : wd_A (lwW P i u t p h l) (mA P i + 8) x = if x = t then l else wd_A u (mA P i + 8) x := by
          rw [lwW_A]
          by_cases e : x = t
          · rw [if_pos ⟨rfl, e⟩, if_pos e]
          · rw [if_neg (fun q => e q.2), if_neg (by omega), if_neg (by omega), if_neg e]
        unfold PE
        rw [e6, e7, e8]
        by_cases e : x = t
        · rw [if_pos e, if_pos e, if_pos e]
          exact v1.lw hL
        · rw [if_neg e, if_neg e, if_neg e]
          exact hE x (by omega)
      obtain ⟨v, g1, g2, g3⟩ := ih (t + 1) m (lwW P i u t p h l) (by omega) (by omega) (hL.pa hA') (hL.pc hC') hE'
      exact ⟨v, by rw [wd_lp3, v2]; exact g1, hL.tr g2, g3⟩
  exact key 256 0 n w (by omega) (by omega) hA hC (fun x hx => by omega)
end LY
