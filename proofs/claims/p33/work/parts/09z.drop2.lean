/-! ===== PURE: all dropped, taken over; begun anew ===== -/
section DR
variable {P T X j n : Nat} {z w u : Wd} {b : Be} {A A' : Ta}
theorem Tm.ge (hT : Tm P T X z w b A) {a : Nat} (h : Dm T b a) : T ≤ a := by
  rcases h with h | ⟨i, hi, rfl⟩ | h
  · exact h.1
  · have := hT.2.1.2.1 i hi; omega
  · have := hT.2.1.2.2.1 a h; omega
theorem Tm.k3 (hT : Tm P T X z w b A) (hj : j < 8) : (tK A j).length ≤ 3 := (hT.2.2.2.2.2.2 j hj).2.2.2.1.2.1
/-- the pool begins at its first again -/
theorem o_takeBack (hT : Tm P T X z w b A) (hp : b_ph b = []) : Tm P T X z (wd_sR w 601 (T + 2) none) b (uN A 1 0 0) ∧ Rl T w b (wd_sR w 601 (T + 2) none) b := by
  have hD : Dm T b (T + 2) := Or.inl ⟨by omega, by omega⟩
  obtain ⟨t1, ⟨d1, d2, d3, d4, d5, d6, d7, d8, d9, d10⟩, t3, t4, t5, t6, t7⟩ := hT
  have hag := ag_sR (g := 601) (v := none) hD (fun c _ => ag.rf w c)
  refine ⟨⟨fun a ha => (t1 a ha).tr (hag a fun q => (d6 a q).2 ha), ⟨d1, d2, d3, d4, d5, d6, d7, d8, fun a ha => ?_, d10⟩, t3, fun i hi => absurd (show i < 0 from hi) (Nat.not_lt_zero _), ⟨Nat.zero_le _, t5.2.1, ?_, t5.2.2.2⟩, t6, t7⟩, ⟨⟨⟨fun _ _ => rfl, Nat.le_refl _, rfl, Nat.le_refl _, fun a _ hn => hag a hn, fun a ha => Or.inl ha, rfl, rfl, Nat.le_refl _⟩, rfl, fun a ha => ⟨rfl, by rw [r_sR, if_neg (by omega)], by rw [r_sR, if_neg (by omega)]⟩⟩, rfl, fun a ha => ⟨fun g hg => rfl, by rw [r_sR, if_neg (by omega)]⟩⟩⟩
  · rw [hp] at ha; exact absurd ha List.not_mem_nil
  · rw [r_sR, if_pos ⟨rfl, rfl⟩]; rfl
def dkA : Nat → Nat → Ta → Ta
  | 0, _, A => A
  | k + 1, s, A => dkA k (s + 1) (dwA A s)
theorem dkA_o : ∀ (k s : Nat) (A : Ta), tI (dkA k s A) = tI A ∧ tR (dkA k s A) = tR A ∧ tM (dkA k s A) = tM A ∧ tO (dkA k s A) = tO A ∧ tN (dkA k s A) = tN A ∧ tF (dkA k s A) = tF A ∧ ∀ i, (s ≤ i ∧ i < s + k → tW (dkA k s A) i = [] ∧ tK (dkA k s A) i = []) ∧ (¬ (s ≤ i ∧ i < s + k) → tW (dkA k s A) i = tW A i ∧ tK (dkA k s A) i = tK A i) := by
  intro k
  induction k with
  | zero => intro s A; exact ⟨rfl, rfl, rfl, rfl, rfl, rfl, fun i => ⟨fun h => by omega, fun _ => ⟨rfl, rfl⟩⟩⟩
  | succ k ih =>
    intro s A
    obtain ⟨h1, h2, h3, h4, h5, h6, h7⟩ := ih (s + 1) (dwA A s)
    refine ⟨h1, h2, h3, h4, h5, h6, fun i => ⟨fun h => ?_, fun h => ?_⟩⟩
    · by_cases e : i = s
      · have := (h7 i).2 (by omega)
        show tW (dkA k (s + 1) (dwA A s)) i = [] ∧ tK (dkA k (s + 1) (dwA A s)) i = []
        rw [this.1, this.2]
        unfold dwA
        rw [tW_uK, tW_uW, if_pos e, tK_uK, if_pos e]
        exact ⟨rfl, rfl⟩
      · exact (h7 i).1 (by omega)
    · have := (h7 i).2 (by omega)
      show tW (dkA k (s + 1) (dwA A s)) i = _ ∧ tK (dkA k (s + 1) (dwA A s)) i = _
      rw [this.1, this.2]
      unfold dwA
      rw [tW_uK, tW_uW, if_neg (by omega), tK_uK, if_neg (by omega), tK_uW]
      exact ⟨rfl, rfl⟩
theorem o_dropAll (hT : Tm P T X z w b A) (hn : 9 ≤ n) (hh : b_fh b = []) (hp : b_ph b = []) :
    ∃ v b', f_X9_dropAllUnderWay n w T = some v ∧ Tm P T X z v b' (uN (dkA 8 0 (uN (uF A []) 3 0 0)) 1 0 0) ∧ Rl T w b v b' ∧ b_fh b' = [] ∧ b_ph b' = [] := by
  have h900 := hT.2.2.1.1.1
  obtain ⟨v, h1, h2, h3⟩ := o_clear (n := n) hT hh
  unfold f_X9_dropAllUnderWay
  rw [h900, Option.bind_some, h1, Option.bind_some]
  have hbh : b_fh (v_rw b [] [] (b_fl b ++ b_fs b)) = [] ∧ b_ph (v_rw b [] [] (b_fl b ++ b_fs b)) = [] := ⟨rfl, hp⟩
  generalize v_rw b [] [] (b_fl b ++ b_fs b) = c at *
  generalize uN (uF A []) 3 0 0 = B at *
  have key : ∀ (k s m : Nat) (x : Wd) (C : Ta), s + k = 8 → k < m → Tm P T X z x c C → ∃ y, wd_lp3 (f_X9_dropAllUnderWay_l9 n) m T (Int32.ofNat s) x = some y ∧ Tm P T X z y c (uN (dkA k s C) 1 0 0) ∧ Rl T x c y c := by
    intro k
    induction k with
    | zero =>
      intro s m x C hs hm hx
      obtain ⟨m, rfl⟩ : ∃ k, m = k + 1 := ⟨m - 1, by omega⟩
      obtain ⟨g1, g2⟩ := o_takeBack hx hbh.2
      refine ⟨_, ?_, g1, g2⟩
      rw [wd_lp3, f_X9_dropAllUnderWay_l9, if_pos (by rw [show (8 : Int32) = Int32.ofNat 8 from rfl, j_ll (by omega) (by omega)]; omega), hx.2.2.1.1.2.2.1, Option.bind_some, f_X6_takeBackAll, wd_let, Option.bind_some]
    | succ k ih =>
      intro s m x C hs hm hx
      obtain ⟨m, rfl⟩ : ∃ k, m = k + 1 := ⟨m - 1, by omega⟩
      obtain ⟨y, g1, g2, g3⟩ := o_dropWK (n := n) hx (j := s) (by omega)
      obtain ⟨y2, k1, k2, k3⟩ := ih (s + 1) m y (dwA C s) (by omega) (by omega) g2
      refine ⟨y2, ?_, k2, g3.tr k3⟩
      have q := hx.2.2.1.1
      rw [wd_lp3, f_X9_dropAllUnderWay_l9, if_neg (by rw [show (8 : Int32) = Int32.ofNat 8 from rfl, j_ll (by omega) (by omega)]; omega), q.2.2.2.1, Option.bind_some, j_gd (by rw [q.2.2.2.2.2.1]; exact j_in (by omega) (by omega)), j_nn (by omega), q.2.2.2.2.2.2.2 s (by omega), Option.bind_some, g1, Option.bind_some, wd_let, j_a1]
      exact k1
  obtain ⟨y, k1, k2, k3⟩ := key 8 0 n v B (by omega) (by omega) h2
  exact ⟨y, c, k1, k2, h3.tr k3, hbh.1, hbh.2⟩
/-- nothing under way, nothing noted, marks M, k packets -/
def A0 (M : Nat → Nat → Int32) (k : Nat) : Ta := (fun _ _ => 0, fun _ _ => none, fun _ => [], fun _ => [], M, fun _ => [], fun g _ => if g = 901 then k else 0, [])
def ngB (b : Be) (A : Ta) : Be := v_ng b (fun g i => b_ng b g i + (if g = 203 then (tO A i).length else tN A g i))
theorem Tm.base (hT : Tm P T X z w b A) (hN : tN A 1 0 = 0) (h3 : tN A 3 0 = 0) (hF : tF A = []) (hWK : ∀ i, i < 8 → tW A i = [] ∧ tK A i = []) (hp : b_ph b = []) (M : Nat → Nat → Int32) (hM : ∀ i x, i < 8 → x < 256 → tM A i x = M i x) :
    Tm P T X z w (ngB b A) (A0 M (tN A 901 0)) := by
  obtain ⟨t1, ⟨d1, d2, d3, d4, d5, d6, d7, d8, d9, d10⟩, t3, t4, t5, t6, t7⟩ := hT
  refine ⟨t1, ⟨d1, d2, d3, d4, d5, d6, d7, d8, fun a ha => ?_, ?_⟩, ⟨t3.1, t3.2.1, t3.2.2.1, t3.2.2.2.1, t3.2.2.2.2⟩, fun i hi => absurd (show i < 0 from hi) (Nat.not_lt_zero _), ⟨Nat.zero_le _, t5.2.1, ?_, t5.2.2.2⟩, ⟨t6.1, t6.2.1, t6.2.2.1, t6.2.2.2.1, ?_⟩, fun i hi => ?_⟩
  · have : b_ph b = [] := hp
    rw [show b_ph (ngB b A) = b_ph b from rfl, this] at ha; exact absurd ha List.not_mem_nil
  · show (b_fl b).length + (b_fh b).length ≤ 0
    rw [h3] at d10; exact d10
  · have := t5.2.2.1
    rw [hN, if_pos rfl] at this
    rw [this]; rfl
  · have := t6.2.2.2.2
    rw [hF] at this
    show ls_2 _ (b_fl b) []
    cases hl : b_fl b with
    | nil => trivial
    | cons a l => rw [hl] at this; exact this.elim
  · obtain ⟨s1, s2, s3, s4, s5⟩ := t7 i hi
    obtain ⟨hW, hK⟩ := hWK i hi
    unfold Sw at s3
    unfold Sh at s4
    unfold So at s5
    rw [hW] at s3
    rw [hK] at s4
    exact ⟨s1, ⟨fun x hx => (s2.1 x hx).trans (hM i x hi hx), s2.2⟩, s3, ⟨s4.1, s4.2.1, s4.2.2.1, s4.2.2.2.1, fun k e he => by cases he⟩, ⟨s5.1, s5.2.1, fun k f _ hf => by cases hf⟩⟩
def tkA (M : Nat → Nat → Int32) : Nat → Nat → Ta → Ta
  | 0, _, A => A
  | k + 1, s, A => tkA M k (s + 1) (uMf A s (M s))
theorem tkA_o (M : Nat → Nat → Int32) : ∀ (k s : Nat) (A : Ta), tN (tkA M k s A) = tN A ∧ tO (tkA M k s A) = tO A ∧ ∀ i x, s ≤ i ∧ i < s + k → tM (tkA M k s A) i x = M i x := by
  have pre : ∀ (k s : Nat) (A : Ta) (i x : Nat), i < s → tM (tkA M k s A) i x = tM A i x := by
    intro k
    induction k with
    | zero => intro s A i x _; rfl
    | succ k ih =>
      intro s A i x h
      show tM (tkA M k (s + 1) (uMf A s (M s))) i x = _
      rw [ih (s + 1) _ i x (by omega), tM_uMf, if_neg (by omega)]
  intro k
  induction k with
  | zero => intro s A; exact ⟨rfl, rfl, fun i x h => by omega⟩
  | succ k ih =>
    intro s A
    obtain ⟨h1, h2, h3⟩ := ih (s + 1) (uMf A s (M s))
    refine ⟨h1, h2, fun i x h => ?_⟩
    by_cases e : i = s
    · show tM (tkA M k (s + 1) (uMf A s (M s))) i x = _
      rw [pre _ _ _ _ _ (by omega), tM_uMf, if_pos e, e]
    · exact h3 i x (by omega)
/-- what the machines of the other traffic know, and how many packets came to be, taken over -/
theorem o_takeOver (hT : Tm P T X z w b A) (hn : 9 ≤ n) {O k : Nat} {M : Nat → Nat → Int32} (hO : O + 61 ≤ T) (hOH : O + 61 ≤ wd_H w) (h901 : wd_I w 901 O = Int32.ofNat k) (h906 : wd_R w 906 O = some (O + 3)) (hN3 : wd_N w (O + 3) = 8) (hQ : ∀ i, i < 8 → wd_Q w (O + 3) i = some (hA O i))
    (h205 : ∀ i, i < 8 → wd_R w 205 (hA O i) = some (hA O i + 1) ∧ wd_N w (hA O i + 1) = 256) (hM : ∀ i x, i < 8 → x < 256 → wd_A w (hA O i + 1) x = M i x)
    (hcp : ∀ (f g : Nat → Int32) (x : Nat), x < 256 → va_cpy f g 0 0 256 x = f x) :
    ∃ v, f_X9_takeOver n w T (some O) = some v ∧ Tm P T X z v b (tkA M 8 0 (uN A 901 0 k)) ∧ Rl T w b v b := by
  unfold f_X9_takeOver
  rw [Option.bind_some, wd_let, h901]
  obtain ⟨g1, g2⟩ := o_s901 hT k
  generalize uN A 901 0 k = B at *
  generalize hu : wd_sI w 901 T (Int32.ofNat k) = u at *
  have hlt : ∀ a, a < O + 61 → ¬ Dm T b a := fun a ha q => by have := hT.ge q; omega
  have key : ∀ (k s m : Nat) (x : Wd) (C : Ta), s + k = 8 → k < m → Tm P T X z x b C → Rl T w b x b → ∃ y, wd_lp4 (f_X9_takeOver_l10 n) m T (some O) (Int32.ofNat s) x = some y ∧ Tm P T X z y b (tkA M k s C) ∧ Rl T w b y b := by
    intro k
    induction k with
    | zero =>
      intro s m x C hs hm hx hr
      obtain ⟨m, rfl⟩ : ∃ k, m = k + 1 := ⟨m - 1, by omega⟩
      refine ⟨x, ?_, hx, hr⟩
      rw [wd_lp4, f_X9_takeOver_l10, if_pos (by rw [show (8 : Int32) = Int32.ofNat 8 from rfl, j_ll (by omega) (by omega)]; omega)]
    | succ k ih =>
      intro s m x C hs hm hx hr
      obtain ⟨m, rfl⟩ : ∃ k, m = k + 1 := ⟨m - 1, by omega⟩
      have e : ∀ a, a < O + 61 → ag w x a := fun a ha => hr.1.1.2.2.2.2.1 a (by omega) (hlt a ha)
      have eh : hA O s + 7 ≤ O + 61 := by unfold hA; omega
      have e0 := e O (by omega)
      have e3 := e (O + 3) (by omega)
      have es := e (hA O s) (by omega)
      have es1 := e (hA O s + 1) (by omega)
      obtain ⟨y, g1, g2, g3⟩ := o_learnAllOf (n := n) hx (j := s) (by omega) (o := hA O s) (by rw [es.2.1]; exact (h205 s (by omega)).1) (by rw [es1.2.2.2.2]; exact (h205 s (by omega)).2) (M s) (fun x hx => by rw [es1.2.2.1]; exact hM s x (by omega) hx) hcp
      obtain ⟨y2, k1, k2, k3⟩ := ih (s + 1) m y (uMf C s (M s)) (by omega) (by omega) g2 (hr.tr g3)
      refine ⟨y2, ?_, k2, k3⟩
      have q := hx.2.2.1.1
      rw [wd_lp4, f_X9_takeOver_l10, if_neg (by rw [show (8 : Int32) = Int32.ofNat 8 from rfl, j_ll (by omega) (by omega)]; omega), q.2.2.2.1, Option.bind_some, j_gd (by rw [q.2.2.2.2.2.1]; exact j_in (by omega) (by omega)), Option.bind_some, e0.2.1, h906, Option.bind_some, j_gd (by rw [e3.2.2.2.2, hN3]; exact j_in (by omega) (by omega)), j_nn (by omega), q.2.2.2.2.2.2.2 s (by omega), Option.bind_some, e3.2.2.2.1, hQ s (by omega), g1, Option.bind_some, wd_let, j_a1]
      exact k1
  exact key 8 0 n u B (by omega) (by omega) g1 g2
end DR
