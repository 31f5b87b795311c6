/-! ===== PURE: the digest depends on plan and traffic alone ===== -/
section DG
variable {n c B nm s j : Nat} {z w u : Wd} {b1 b2 : Be} {A1 A2 : Ta}
/-- a world with this plan and this traffic -/
def Cw (B nm : Nat) (z : Wd) (b1 : Be) (A1 : Ta) (w : Wd) : Prop := ∃ b2 A2 s, Nw B 2 nm s z w b1 A1 b2 A2
/-- a part of a frame -/
def pv (A : Ta) (f : (Nat → Int32) × Option Nat) (k : Nat) : Int32 :=
  if k < 4 then f.1 k else match f.2 with
  | none => if k = 4 then f.1 4 else if k = 7 then -1 else 0
  | some p => if k = 4 then tI A 405 p else if k = 5 then tI A 403 p else if k = 6 then tI A 407 p else tI A 400 p
theorem o_part {P T X : Nat} {b : Be} {A : Ta} (hT : Tm P T X z w b A) {a : Nat} {f : (Nat → Int32) × Option Nat} (h1 : ∀ g, g < 5 → wd_I w g a = f.1 g) (h2 : wd_R w 5 a = f.2.map (b_pa b)) (h3 : ∀ p, f.2 = some p → p < tN A 1 0) {k : Nat} (hk : k < 8) : f_X0_part n w a (Int32.ofNat k) = some (pv A f k, w) := by
  have hc : k = 0 ∨ k = 1 ∨ k = 2 ∨ k = 3 ∨ k = 4 ∨ k = 5 ∨ k = 6 ∨ k = 7 := by omega
  have ne : ∀ (x y : Nat), x < 100 → y < 100 → x ≠ y → ¬ Int32.ofNat x = Int32.ofNat y := fun x y hx hy h e => h (by rw [j_ee (by omega) (by omega)] at e; exact e)
  have n0 : ∀ k, k < 100 → k ≠ 0 → ¬ Int32.ofNat k = (0 : Int32) := fun k hk h e => ne k 0 hk (by omega) h e
  have n1 : ∀ k, k < 100 → k ≠ 1 → ¬ Int32.ofNat k = (1 : Int32) := fun k hk h e => ne k 1 hk (by omega) h e
  have n2 : ∀ k, k < 100 → k ≠ 2 → ¬ Int32.ofNat k = (2 : Int32) := fun k hk h e => ne k 2 hk (by omega) h e
  have n3 : ∀ k, k < 100 → k ≠ 3 → ¬ Int32.ofNat k = (3 : Int32) := fun k hk h e => ne k 3 hk (by omega) h e
  have n4 : ∀ k, k < 100 → k ≠ 4 → ¬ Int32.ofNat k = (4 : Int32) := fun k hk h e => ne k 4 hk (by omega) h e
  have n5 : ∀ k, k < 100 → k ≠ 5 → ¬ Int32.ofNat k = (5 : Int32) := fun k hk h e => ne k 5 hk (by omega) h e
  have n6 : ∀ k, k < 100 → k ≠ 6 → ¬ Int32.ofNat k = (6 : Int32) := fun k hk h e => ne k 6 hk (by omega) h e
  have n7 : ∀ k, k < 100 → k ≠ 7 → ¬ Int32.ofNat k = (7 : Int32) := fun k hk h e => ne k 7 hk (by omega) h e
  have p0 : ∀ k, k = 0 → Int32.ofNat k = (0 : Int32) := fun k h => by rw [h]; rfl
  have p1 : ∀ k, k = 1 → Int32.ofNat k = (1 : Int32) := fun k h => by rw [h]; rfl
  have p2 : ∀ k, k = 2 → Int32.ofNat k = (2 : Int32) := fun k h => by rw [h]; rfl
  have p3 : ∀ k, k = 3 → Int32.ofNat k = (3 : Int32) := fun k h => by rw [h]; rfl
  have p4 : ∀ k, k = 4 → Int32.ofNat k = (4 : Int32) := fun k h => by rw [h]; rfl
  have p5 : ∀ k, k = 5 → Int32.ofNat k = (5 : Int32) := fun k h => by rw [h]; rfl
  have p6 : ∀ k, k = 6 → Int32.ofNat k = (6 : Int32) := fun k h => by rw [h]; rfl
  have p7 : ∀ k, k = 7 → Int32.ofNat k = (7 : Int32) := fun k h => by rw [h]; rfl
  unfold f_X0_part
  rcases hc with rfl | rfl | rfl | rfl | hc
  · rw [if_pos (p0 0 rfl), h1 0 (by omega)]; rfl
  · rw [if_neg (n0 1 (by omega) (by omega)), if_pos (p1 1 rfl), h1 1 (by omega)]; rfl
  · rw [if_neg (n0 2 (by omega) (by omega)), if_neg (n1 2 (by omega) (by omega)), if_pos (p2 2 rfl), h1 2 (by omega)]; rfl
  · rw [if_neg (n0 3 (by omega) (by omega)), if_neg (n1 3 (by omega) (by omega)), if_neg (n2 3 (by omega) (by omega)), if_pos (p3 3 rfl), h1 3 (by omega)]; rfl
  · rw [if_neg (n0 k (by omega) (by omega)), if_neg (n1 k (by omega) (by omega)), if_neg (n2 k (by omega) (by omega)), if_neg (n3 k (by omega) (by omega))]
    unfold pv
    rw [if_neg (by omega), h2]
    cases hf : f.2 with
    | none =>
      rw [Option.map_none, wd_on_N]
      unfold f_X0_partWithout
      dsimp only
      by_cases e4 : k = 4
      · rw [if_pos (p4 k e4), wd_b2_s, if_pos e4, h1 4 (by omega)]
      · rw [if_neg (n4 k (by omega) e4), if_neg e4]
        by_cases e7 : k = 7
        · rw [if_pos (p7 k e7), wd_b2_s, if_pos e7]
        · rw [if_neg (n7 k (by omega) e7), wd_b2_s, if_neg e7]
    | some p =>
      have hp := (hT.2.2.2.1 p (h3 p hf)).1
      rw [Option.map_some, wd_on_S]
      unfold f_X0_partOf
      dsimp only
      by_cases e4 : k = 4
      · rw [if_pos (p4 k e4), Option.bind_some, wd_b2_s, if_pos e4, hp 405 (by omega) (by omega)]
      rw [if_neg (n4 k (by omega) e4), if_neg e4]
      by_cases e5 : k = 5
      · rw [if_pos (p5 k e5), Option.bind_some, wd_b2_s, if_pos e5, hp 403 (by omega) (by omega)]
      rw [if_neg (n5 k (by omega) e5), if_neg e5]
      by_cases e6 : k = 6
      · rw [if_pos (p6 k e6), Option.bind_some, wd_b2_s, if_pos e6, hp 407 (by omega) (by omega)]
      rw [if_neg (n6 k (by omega) e6), if_neg e6, Option.bind_some, wd_b2_s, hp 400 (by omega) (by omega)]
/-- what a frame adds to a digest: k parts from t on -/
def dgP (A : Ta) (f : (Nat → Int32) × Option Nat) : Nat → Nat → Int64 → Int64
  | 0, _, x => x
  | k + 1, t, x => dgP A f k (t + 1) (x * 31 + (pv A f t).toInt64)
theorem dg_100 {P T X : Nat} {b : Be} {A : Ta} {a : Nat} {f : (Nat → Int32) × Option Nat} (hT : Tm P T X z w b A) (h1 : ∀ g, g < 5 → wd_I w g a = f.1 g) (h2 : wd_R w 5 a = f.2.map (b_pa b)) (h3 : ∀ p, f.2 = some p → p < tN A 1 0) (rec : Nat → Int64 → Option Nat → Wd → Option (Int64 × Wd)) : ∀ (k t m : Nat) (x : Int64), t + k = 8 → k < m →
    wd_lp5 (f_X11_digest_l100 n rec) m B x (some a) (Int32.ofNat t) w = rec B (dgP A f k t x) (wd_R w 6 a) w := by
  intro k
  induction k with
  | zero =>
    intro t m x ht hm
    obtain ⟨m, rfl⟩ : ∃ r, m = r + 1 := ⟨m - 1, by omega⟩
    rw [wd_lp5, f_X11_digest_l100, if_pos (by rw [show (8 : Int32) = Int32.ofNat 8 from rfl, j_ll (by omega) (by omega)]; omega), Option.bind_some, wd_let]
    rfl
  | succ k ih =>
    intro t m x ht hm
    obtain ⟨m, rfl⟩ : ∃ r, m = r + 1 := ⟨m - 1, by omega⟩
    rw [wd_lp5, f_X11_digest_l100, if_neg (by rw [show (8 : Int32) = Int32.ofNat 8 from rfl, j_ll (by omega) (by omega)]; omega), Option.bind_some, o_part hT h1 h2 h3 (by omega), wd_b2_s, wd_let, wd_let, j_a1, ih (t + 1) m _ (by omega) (by omega)]
    rfl
/-- a note's parts -/
theorem dg_66 (hj : j < nm) {f : Nat → Int32} {t : Nat} (ht10 : t < 10) (hf : (tO A1 j)[t]? = some f) (rec : Nat → Option Nat → Int64 → Int32 → Wd → Option (Int64 × Wd)) : ∀ (k y m : Nat) (x : Int64), y + k = 6 → k < m → ∃ x', ∀ w, Cw B nm z b1 A1 w →
    wd_lp6 (f_X11_digestHost_l66 n rec) m B (some (hA (B + 77) j)) x (Int32.ofNat t) (Int32.ofNat y) w = rec B (some (hA (B + 77) j)) x' (Int32.ofNat (t + 1)) w := by
  intro k
  induction k with
  | zero =>
    intro y m x hy hm
    obtain ⟨m, rfl⟩ : ∃ r, m = r + 1 := ⟨m - 1, by omega⟩
    refine ⟨x, fun w _ => ?_⟩
    rw [wd_lp6, f_X11_digestHost_l66, if_pos (by rw [show (6 : Int32) = Int32.ofNat 6 from rfl, j_ll (by omega) (by omega)]; omega), wd_let, j_a1]
  | succ k ih =>
    intro y m x hy hm
    obtain ⟨m, rfl⟩ : ∃ r, m = r + 1 := ⟨m - 1, by omega⟩
    obtain ⟨x', hx'⟩ := ih (y + 1) m (x * 31 + (f y).toInt64) (by omega) (by omega)
    refine ⟨x', fun w hw => ?_⟩
    obtain ⟨b2, A2, s, h⟩ := id hw
    rw [wd_lp6, f_X11_digestHost_l66, if_neg (by rw [show (6 : Int32) = Int32.ofNat 6 from rfl, j_ll (by omega) (by omega)]; omega), Option.bind_some, o_notePart h.2.1 (by have := h.mm.2; omega) ht10 hf (by omega), wd_b2_s, wd_let, wd_let, j_a1]
    exact hx' w hw
theorem dg_106 (hj : j < nm) : ∀ (k t m : Nat) (x : Int64), t + k = 32 → k < m → ∃ x', ∀ w, Cw B nm z b1 A1 w → PS (B + 1) z → wd_lp5 (f_X11_digestHost_l106 n) m B (some (hA (B + 77) j)) x (Int32.ofNat t) w = some (x', w) := by
  intro k
  induction k with
  | zero =>
    intro t m x ht hm
    obtain ⟨m, rfl⟩ : ∃ r, m = r + 1 := ⟨m - 1, by omega⟩
    refine ⟨x, fun w _ _ => ?_⟩
    rw [wd_lp5, f_X11_digestHost_l106, if_pos (by rw [show (32 : Int32) = Int32.ofNat 32 from rfl, j_ll (by omega) (by omega)]; omega)]
  | succ k ih =>
    intro t m x ht hm
    obtain ⟨m, rfl⟩ : ∃ r, m = r + 1 := ⟨m - 1, by omega⟩
    cases hp : pmv (B + 1) z (Int32.ofNat t) with
    | none =>
      obtain ⟨x', hx'⟩ := ih (t + 1) m x (by omega) (by omega)
      refine ⟨x', fun w hw hz => ?_⟩
      obtain ⟨b2, A2, s, h⟩ := id hw
      rw [wd_lp5, f_X11_digestHost_l106, if_neg (by rw [show (32 : Int32) = Int32.ofNat 32 from rfl, j_ll (by omega) (by omega)]; omega), h.2.2.2.2.1.1, Option.bind_some, p_portWithMark hz h.2.1.1, wd_b2_s, hp, wd_on_N, f_X11_digestHost_j148, wd_let, j_a1]
      exact hx' w hw hz
    | some q =>
      obtain ⟨x', hx'⟩ := ih (t + 1) m (x * 31 + (kmv A1 j (wd_I z 702 q)).toInt64) (by omega) (by omega)
      have hq : Pq (B + 1) z (t / 4) (t % 4) q := by
        unfold pmv at hp
        rw [if_neg (j_n0 (by omega)), if_pos (by rw [show (32 : Int32) = Int32.ofNat 32 from rfl, j_lx (by omega) (by omega)]; omega), j_nn (by omega)] at hp
        exact ⟨by omega, by omega, hp⟩
      refine ⟨x', fun w hw hz => ?_⟩
      obtain ⟨b2, A2, s, h⟩ := id hw
      rw [wd_lp5, f_X11_digestHost_l106, if_neg (by rw [show (32 : Int32) = Int32.ofNat 32 from rfl, j_ll (by omega) (by omega)]; omega), h.2.2.2.2.1.1, Option.bind_some, p_portWithMark hz h.2.1.1, wd_b2_s, hp, wd_on_S, Option.bind_some, (h.2.1.1 q hq.pl).1 702, o_knownMark h.2.1 (by have := h.mm.2; omega), wd_b2_s, wd_let, f_X11_digestHost_j148, wd_let, j_a1]
      exact hx' w hw hz
theorem dg_48 (hj : j < nm) (hn : 40 ≤ n) (hng : b_ng b1 203 j = 0) : ∀ (k t m : Nat) (x : Int64), t + k = 3 → k < m → ∃ x', ∀ w, Cw B nm z b1 A1 w → PS (B + 1) z → wd_lp5 (f_X11_digestHost_l48 n) m B (some (hA (B + 77) j)) x (Int32.ofNat t) w = some (x', w) := by
  intro k
  induction k with
  | zero =>
    intro t m x ht hm
    obtain ⟨m, rfl⟩ : ∃ r, m = r + 1 := ⟨m - 1, by omega⟩
    obtain ⟨x', hx'⟩ := dg_106 (n := n) (B := B) (z := z) (b1 := b1) (A1 := A1) hj 32 0 n x (by omega) (by omega)
    refine ⟨x', fun w hw hz => ?_⟩
    rw [wd_lp5, f_X11_digestHost_l48, if_pos (by rw [show (3 : Int32) = Int32.ofNat 3 from rfl, j_ll (by omega) (by omega)]; omega), f_X11_digestHost_j103]
    exact hx' w hw hz
  | succ k ih =>
    intro t m x ht hm
    obtain ⟨m, rfl⟩ : ∃ r, m = r + 1 := ⟨m - 1, by omega⟩
    by_cases e : t < (tO A1 j).length
    · obtain ⟨f, hf⟩ : ∃ f, (tO A1 j)[t]? = some f := ⟨_, List.getElem?_eq_getElem e⟩
      obtain ⟨x1, hx1⟩ := dg_66 (n := n) (B := B) (z := z) (b1 := b1) hj (t := t) (by omega) hf (wd_lp5 (f_X11_digestHost_l48 n) m) 6 0 n x (by omega) (by omega)
      obtain ⟨x', hx'⟩ := ih (t + 1) m x1 (by omega) (by omega)
      refine ⟨x', fun w hw hz => ?_⟩
      obtain ⟨b2, A2, s, h⟩ := id hw
      rw [wd_lp5, f_X11_digestHost_l48, if_neg (by rw [show (3 : Int32) = Int32.ofNat 3 from rfl, j_ll (by omega) (by omega)]; omega), Option.bind_some, o_isTold h.2.1 (by have := h.mm.2; omega) (by omega), wd_b2_s, decide_eq_true (show t < 10 ∧ t < b_ng b1 203 j + (tO A1 j).length by omega), if_neg (by decide)]
      exact (hx1 w hw).trans (hx' w hw hz)
    · obtain ⟨x', hx'⟩ := dg_106 (n := n) (B := B) (z := z) (b1 := b1) (A1 := A1) hj 32 0 n x (by omega) (by omega)
      refine ⟨x', fun w hw hz => ?_⟩
      obtain ⟨b2, A2, s, h⟩ := id hw
      rw [wd_lp5, f_X11_digestHost_l48, if_neg (by rw [show (3 : Int32) = Int32.ofNat 3 from rfl, j_ll (by omega) (by omega)]; omega), Option.bind_some, o_isTold h.2.1 (by have := h.mm.2; omega) (by omega), wd_b2_s, decide_eq_false (show ¬ (t < 10 ∧ t < b_ng b1 203 j + (tO A1 j).length) by omega), if_pos (by decide), f_X11_digestHost_j103]
      exact hx' w hw hz
theorem dg_host (hj : j < nm) (hn : 40 ≤ n) (hng : b_ng b1 203 j = 0) (x : Int64) : ∃ x', ∀ w, Cw B nm z b1 A1 w → PS (B + 1) z → f_X11_digestHost n w B x (some (hA (B + 77) j)) = some (x', w) := by
  obtain ⟨x', hx'⟩ := dg_48 (n := n) (B := B) (z := z) (b1 := b1) (A1 := A1) hj hn hng 3 0 n (((x * 31 + (Int32.ofNat (tW A1 j).length).toInt64) * 31 + (Int32.ofNat (tK A1 j).length).toInt64) * 31 + (Int32.ofNat (b_ng b1 203 j + (tO A1 j).length)).toInt64) (by omega) (by omega)
  refine ⟨x', fun w hw hz => ?_⟩
  obtain ⟨b2, A2, s, h⟩ := id hw
  obtain ⟨s1, s2, s3, s4, s5⟩ := h.2.1.2.2.2.2.2.2 j (by have := h.mm.2; omega)
  rw [f_X11_digestHost, Option.bind_some, wd_let, wd_let, wd_let, s3.1, s4.1, s5.1]
  exact hx' w hw hz
theorem dg_172 (hn : 40 ≤ n) (hng : ∀ j, b_ng b1 203 j = 0) (hnm : nm ≤ 8) : ∀ (k t m : Nat) (x : Int64), t + k = nm → k < m → ∃ x', ∀ w, Cw B nm z b1 A1 w → PS (B + 1) z → wd_lp4 (f_X11_digest_l172 n) m B x (Int32.ofNat t) w = some (x', w) := by
  intro k
  induction k with
  | zero =>
    intro t m x ht hm
    obtain ⟨m, rfl⟩ : ∃ r, m = r + 1 := ⟨m - 1, by omega⟩
    refine ⟨x, fun w hw _ => ?_⟩
    obtain ⟨b2, A2, s, h⟩ := id hw
    rw [wd_lp4, f_X11_digest_l172, h.2.2.2.2.1.1, Option.bind_some, h.mm.1, if_pos (by rw [j_ll (by omega) (by omega)]; omega)]
  | succ k ih =>
    intro t m x ht hm
    obtain ⟨m, rfl⟩ : ∃ r, m = r + 1 := ⟨m - 1, by omega⟩
    obtain ⟨x1, hx1⟩ := dg_host (n := n) (B := B) (z := z) (b1 := b1) (A1 := A1) (nm := nm) (j := t) (by omega) hn (hng t) x
    obtain ⟨x', hx'⟩ := ih (t + 1) m x1 (by omega) (by omega)
    refine ⟨x', fun w hw hz => ?_⟩
    obtain ⟨b2, A2, s, h⟩ := id hw
    rw [wd_lp4, f_X11_digest_l172, h.2.2.2.2.1.1, Option.bind_some, h.mm.1, if_neg (by rw [j_ll (by omega) (by omega)]; omega), x_hostOf h (by omega), wd_b2_s, hx1 w hw hz, wd_b2_s, wd_let, j_a1]
    exact hx' w hw hz
theorem dg_137 (hn : 40 ≤ n) (hng : ∀ j, b_ng b1 203 j = 0) (hnm : nm ≤ 8) : ∀ (k t m : Nat) (x : Int64), t + k = 2 → k < m → ∃ x', ∀ w, Cw B nm z b1 A1 w → PS (B + 1) z → wd_lp4 (f_X11_digest_l137 n) m B x (Int32.ofNat t) w = some (x', w) := by
  intro k
  induction k with
  | zero =>
    intro t m x ht hm
    obtain ⟨m, rfl⟩ : ∃ r, m = r + 1 := ⟨m - 1, by omega⟩
    obtain ⟨x', hx'⟩ := dg_172 (n := n) (B := B) (z := z) (b1 := b1) (A1 := A1) (nm := nm) hn hng hnm nm 0 n x (by omega) (by omega)
    refine ⟨x', fun w hw hz => ?_⟩
    obtain ⟨b2, A2, s, h⟩ := id hw
    rw [wd_lp4, f_X11_digest_l137, h.2.2.2.2.1.1, Option.bind_some, (pw_p0 h.2.1.1).1, h.1.2.1.1, if_pos (by rw [j_ll (by omega) (by omega)]; omega)]
    exact hx' w hw hz
  | succ k ih =>
    intro t m x ht hm
    obtain ⟨m, rfl⟩ : ∃ r, m = r + 1 := ⟨m - 1, by omega⟩
    obtain ⟨x', hx'⟩ := ih (t + 1) m (x * 31 + (Int32.ofNat (b_ng b1 907 t + tN A1 907 t)).toInt64) (by omega) (by omega)
    refine ⟨x', fun w hw hz => ?_⟩
    obtain ⟨b2, A2, s, h⟩ := id hw
    rw [wd_lp4, f_X11_digest_l137, h.2.2.2.2.1.1, Option.bind_some, (pw_p0 h.2.1.1).1, h.1.2.1.1, if_neg (by rw [j_ll (by omega) (by omega)]; omega), h.2.2.2.2.1.2.1, Option.bind_some, o_carriedOn h.2.1 (by omega), wd_b2_s, wd_let, wd_let, j_a1]
    exact hx' w hw hz
theorem dg_93 (hn : 40 ≤ n) (hng : ∀ j, b_ng b1 203 j = 0) (hnm : nm ≤ 8) : ∀ (l : List Nat) (fs : List ((Nat → Int32) × Option Nat)) (m : Nat) (x : Int64), l.length < m → (∀ f, f ∈ fs → ∀ p, f.2 = some p → p < tN A1 1 0) → ∃ x', ∀ w o, Cw B nm z b1 A1 w → PS (B + 1) z → ls_c (wd_R w 6) o l → ls_2 (fun a f => (∀ g, g < 5 → wd_I w g a = f.1 g) ∧ wd_R w 5 a = f.2.map (b_pa b1)) l fs →
    wd_lp4 (f_X11_digest_l93 n) m B x o w = some (x', w) := by
  intro l
  induction l with
  | nil =>
    intro fs m x hm _
    obtain ⟨m, rfl⟩ : ∃ r, m = r + 1 := ⟨m - 1, by simp at hm; omega⟩
    obtain ⟨x', hx'⟩ := dg_137 (n := n) (B := B) (z := z) (b1 := b1) (A1 := A1) (nm := nm) hn hng hnm 2 0 n x (by omega) (by omega)
    refine ⟨x', fun w o hw hz ho _ => ?_⟩
    have ho' : o = none := ho
    rw [ho', wd_lp4, f_X11_digest_l93, wd_on_N]
    exact hx' w hw hz
  | cons a l ih =>
    intro fs m x hm hfs
    obtain ⟨m, rfl⟩ : ∃ r, m = r + 1 := ⟨m - 1, by simp at hm; omega⟩
    cases fs with
    | nil => exact ⟨0, fun w o _ _ _ h2 => h2.elim⟩
    | cons f fs =>
      rw [List.length_cons] at hm
      obtain ⟨x', hx'⟩ := ih fs m (dgP A1 f 8 0 x) (by omega) (fun g hg => hfs g (List.mem_cons_of_mem _ hg))
      refine ⟨x', fun w o hw hz ho h2 => ?_⟩
      obtain ⟨b2, A2, s, h⟩ := id hw
      have ho' : o = some a := ho.1
      rw [ho', wd_lp4, f_X11_digest_l93, wd_on_S]
      refine (dg_100 (n := n) (B := B) h.2.1 h2.1.1 h2.1.2 (hfs f (List.mem_cons_self ..)) (wd_lp4 (f_X11_digest_l93 n) m) 8 0 n x (by omega) (by omega)).trans ?_
      exact hx' w _ hw hz ho.2 h2.2
theorem x_digest (hI : Iv (B + 1) z c A1) (h3 : 3 ≤ nm) (hnm : nm ≤ 8) (hn : 200000 ≤ n) (hlen : (b_fl b1).length < n) (hng : ∀ j, b_ng b1 203 j = 0) : ∃ d, ∀ w b2 A2 s, Nw B 2 nm s z w b1 A1 b2 A2 → f_X11_digest n w B = some (d, w) := by
  obtain ⟨d, hd⟩ := dg_93 (n := n) (B := B) (z := z) (b1 := b1) (A1 := A1) (nm := nm) (by omega) hng hnm (b_fl b1) (tF A1) n ((((((58062 : Int64) * 31 + (Int32.ofNat nm).toInt64) * 31 + (Int32.ofNat (tN A1 901 0)).toInt64) * 31 + (Int32.ofNat (b_ng b1 902 0 + tN A1 902 0)).toInt64) * 31 + (Int32.ofNat (gsum b1 A1 8 0)).toInt64) * 31 + (Int32.ofNat (tF A1).length).toInt64) hlen (fun f hf p hp => hI.2.1.1 f hf p hp)
  refine ⟨d, fun w b2 A2 s h => ?_⟩
  obtain ⟨r1, r2, r3, r4, r5⟩ := h.2.1.2.2.2.2.2.1
  have c1 := h.2.1.2.2.1
  rw [f_X11_digest, h.2.2.2.2.1.1, Option.bind_some, h.mm.1, wd_let, h.2.2.2.2.1.2.1, Option.bind_some, c1.2.1, wd_let, Option.bind_some, c1.2.2.1, wd_let, Option.bind_some, o_goneInAll h.2.1 (by omega), wd_b2_s, wd_let, h.2.2.2.2.1.2.1, Option.bind_some, c1.1.1, Option.bind_some, fl_len h.2.1, wd_let, Option.bind_some, c1.1.1, Option.bind_some, wd_let]
  exact hd w _ ⟨b2, A2, s, h⟩ (h.1.ps h3) r1 r5
end DG
