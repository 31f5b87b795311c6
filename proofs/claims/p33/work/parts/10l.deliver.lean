/-! ===== PURE: a step ===== -/
section DL
variable {P T X i j n c : Nat} {z w u : Wd} {b : Be} {A A' : Ta}
/-- a packet delivered -/
def dpF (P : Nat) (z : Wd) (A : Ta) (f : (Nat → Int32) × Option Nat) : Ta := match f.2 with
  | none => A
  | some p => goF P z ((f.1 2).toNatClampNeg / 4) 4 (cmF P z ((f.1 2).toNatClampNeg / 4) (tN A 1 0) (some p) A).1 (cmF P z ((f.1 2).toNatClampNeg / 4) (tN A 1 0) (some p) A).2
def cuA (A : Ta) (g x : Nat) : Ta := uN A g x (tN A g x + 1)
/-- what the first frame brings about -/
def dnF (P : Nat) (z : Wd) (A : Ta) (f : (Nat → Int32) × Option Nat) (F : List ((Nat → Int32) × Option Nat)) : Ta :=
  if f.1 3 = 1 then hqF P z (cuA (cuA (tfA A f F) 902 0) 907 (f.1 0).toNatClampNeg) f
  else if f.1 3 = 2 then hrF z (cuA (cuA (tfA A f F) 902 0) 907 (f.1 0).toNatClampNeg) f
  else dpF P z (cuA (cuA (cuA (tfA A f F) 902 0) 907 (f.1 0).toNatClampNeg) 903 0) f
/-- how a step counts -/
def Cd (A A' : Ta) : Prop := tN A' 902 0 = tN A 902 0 + 1 ∧ tN A' 907 0 + tN A' 907 1 = tN A 907 0 + tN A 907 1 + 1 ∧ tN A 903 0 ≤ tN A' 903 0 ∧ tN A' 903 0 ≤ tN A 903 0 + 1
theorem cu_t (g x : Nat) (hg : g = 902 ∨ g = 903 ∨ g = 907) : Ct A (cuA A g x) 0 0 0 0 := by
  unfold cuA
  have n : ∀ f y, f < 902 → tN (uN A g x (tN A g x + 1)) f y = tN A f y := fun f y hf => by rw [tN_uN, if_neg (by omega)]
  exact ⟨by rw [n 1 0 (by omega)]; omega, by rw [n 1 0 (by omega)]; omega, by rw [n 3 0 (by omega)]; omega, by rw [n 901 0 (by omega)]; omega, by rw [n 901 0 (by omega)]; omega, fun r => by rw [tO_uN]; omega, fun r => by rw [n 204 r (by omega)]; omega⟩
theorem cu_n {g x f y : Nat} : tN (cuA A g x) f y = if f = g ∧ y = x then tN A g x + 1 else tN A f y := by unfold cuA; rw [tN_uN]
theorem tf_n {f : (Nat → Int32) × Option Nat} {F : List ((Nat → Int32) × Option Nat)} (g x : Nat) (hg : g ≠ 5) : tN (tfA A f F) g x = tN A g x := by
  unfold tfA
  cases f.2 with
  | none => rfl
  | some p =>
    show tN (uN (uF A F) 5 p 3) g x = _
    rw [tN_uN, if_neg (fun q => hg q.1), tN_uF]
theorem tf_t {f : (Nat → Int32) × Option Nat} {F : List ((Nat → Int32) × Option Nat)} : Ct A (tfA A f F) 0 0 0 0 := by
  have hO : tO (tfA A f F) = tO A := by unfold tfA; cases f.2 <;> rfl
  exact ⟨by rw [tf_n 1 0 (by omega)]; omega, by rw [tf_n 1 0 (by omega)]; omega, by rw [tf_n 3 0 (by omega)]; omega, by rw [tf_n 901 0 (by omega)]; omega, by rw [tf_n 901 0 (by omega)]; omega, fun r => by rw [hO]; omega, fun r => by rw [tf_n 204 r (by omega)]; omega⟩
/-- the count of what a cable carried -/
theorem o_c907 (hT : Tm P T X z w b A) {c : Nat} (hc : c < 8) : Tm P T X z (wd_sA w (T + 4) c (wd_A w (T + 4) c + 1)) b (cuA A 907 c) ∧ Rl T w b (wd_sA w (T + 4) c (wd_A w (T + 4) c + 1)) b := by
  have hD : Dm T b (T + 4) := Or.inl ⟨by omega, by omega⟩
  obtain ⟨t1, t2, t3, t4, t5, t6, t7⟩ := hT
  have hag : ∀ a, ¬ Dm T b a → ag w (wd_sA w (T + 4) c (wd_A w (T + 4) c + 1)) a := fun a ha => ⟨fun _ => rfl, fun _ => rfl, fun x => by rw [a_sA, if_neg]; exact fun q => ha (q.1 ▸ hD), fun _ => rfl, rfl⟩
  have n : ∀ f y, f ≠ 907 → tN (cuA A 907 c) f y = tN A f y := fun f y hf => by rw [cu_n, if_neg (fun q => hf q.1)]
  refine ⟨⟨fun a ha => (t1 a ha).tr (hag a fun q => (t2.2.2.2.2.2.1 a q).2 ha), ?_, ⟨t3.1, ?_, ?_, ?_, fun x hx => ?_⟩, ?_, ?_, t6, fun i hi => ?_⟩, ⟨⟨⟨fun _ _ => rfl, Nat.le_refl _, rfl, Nat.le_refl _, fun a _ hn => hag a hn, fun a ha => Or.inl ha, rfl, rfl, Nat.le_refl _⟩, rfl, fun a ha => ⟨rfl, rfl, rfl⟩⟩, rfl, fun a ha => ⟨fun g hg => rfl, rfl⟩⟩⟩
  · obtain ⟨d1, d2, d3, d4, d5, d6, d7, d8, d9, d10⟩ := t2
    exact ⟨d1, d2, d3, d4, d5, d6, d7, d8, fun a ha => by rw [n 1 0 (by omega)]; obtain ⟨r, r1, r2, r3⟩ := d9 a ha; exact ⟨r, r1, r2, by rw [n 5 r (by omega)]; exact r3⟩, by rw [n 3 0 (by omega)]; exact d10⟩
  · rw [n 901 0 (by omega)]; exact t3.2.1
  · rw [n 902 0 (by omega)]; exact t3.2.2.1
  · rw [n 903 0 (by omega)]; exact t3.2.2.2.1
  · rw [a_sA, cu_n]
    by_cases e : x = c
    · rw [if_pos ⟨rfl, e⟩, if_pos ⟨rfl, e⟩, t3.2.2.2.2 c hc, j_a1, e]; rfl
    · rw [if_neg (fun q => e q.2), if_neg (fun q => e q.2)]; exact t3.2.2.2.2 x hx
  · intro i hi
    rw [n 1 0 (by omega)] at hi
    exact t4 i hi
  · obtain ⟨p1, p2, p3, p4⟩ := t5
    exact ⟨by rw [n 1 0 (by omega)]; exact p1, p2, by rw [n 1 0 (by omega)]; exact p3, p4⟩
  · obtain ⟨s1, s2, s3, s4, s5⟩ := t7 i hi
    refine ⟨s1, ⟨fun x hx => ?_, ?_⟩, s3, s4, ⟨s5.1, s5.2.1, fun k f hk hf x hx => ?_⟩⟩
    · rw [a_sA, if_neg (by unfold hA; omega)]; exact s2.1 x hx
    · rw [n 204 i (by omega)]; exact s2.2
    · rw [a_sA, if_neg (by unfold hA; omega)]; exact s5.2.2 k f hk hf x hx
/-- where the row is empty -/
theorem o_noStep (hT : Tm P T X z w b A) (hF : tF A = []) : f_X9_deliverNext n w T = some (0, w) := by
  obtain ⟨r1, r2, r3, r4, r5⟩ := hT.2.2.2.2.2.1
  have hl : b_fl b = [] := by
    rw [hF] at r5
    cases h : b_fl b with
    | nil => rfl
    | cons a l => rw [h] at r5; exact r5.elim
  rw [hl] at r1
  have h8 : wd_R w 800 (T + 1) = none := r1
  rw [f_X9_deliverNext, hT.2.2.1.1.1, Option.bind_some, f_X8_takeFirst, wd_let, h8, wd_on_N, wd_b2_s, wd_on_N]
/-- a step's room -/
def Bs (X : Nat) (b : Be) (A : Ta) (c m : Nat) : Prop := Bg X b A ((c / 8 + 8) * m) ((c / 8 + 8) * m) (6 * m)
theorem o_step (hT : Tm P T X z w b A) (h : Iv P z c A) (hz : PS P z) (hh : b_fh b = []) (hp : b_ph b = []) (hn : X + 10 ≤ n) (hX : X < 900000) (hc : c + 12 ≤ 10000) {f : (Nat → Int32) × Option Nat} {F : List ((Nat → Int32) × Option Nat)} (hF : tF A = f :: F) (hB : Bg X b A ((c + 4) / 8 + 7) ((c + 4) / 8 + 7) 7) :
    ∃ v b', f_X9_deliverNext n w T = some (1, v) ∧ Tm P T X z v b' (dnF P z A f F) ∧ Rl T w b v b' ∧ Iv P z (c + 4) (dnF P z A f F) ∧ Ct A (dnF P z A f F) ((c + 4) / 8 + 7) ((c + 4) / 8 + 7) 7 (3 * X + (c + 4) / 8 + 7) ∧ Cd A (dnF P z A f F) := by
  obtain ⟨a, l, w1, t1, t2, t3, t4, t5, t6, t7⟩ := o_takeFirst (n := n) hT hF
  have hfq := h.2.2.2.1.1 f (by rw [hF]; exact List.mem_cons_self ..)
  obtain ⟨⟨i0, k0, q0, hq0, f0, f1, f4⟩, hsort⟩ := hfq
  -- its tag
  have hT1 : Tm P T X z w1 (v_rw b l (a :: b_fh b) (b_fs b)) (tfA A f F) := by
    unfold tfA
    cases hf2 : f.2 with
    | none => exact t3
    | some p =>
      refine t3.tag ?_
      rw [tN_uF]
      rcases hsort with q | q | ⟨-, -, r, r1, r2, r3⟩
      · rw [q.2.2] at hf2; cases hf2
      · rw [q.2.2] at hf2; cases hf2
      · rw [r1] at hf2; rw [← Option.some.inj hf2]; omega
  have hI1 := h.tf hF
  have c1 := tf_t (A := A) (f := f) (F := F)
  have hbh : b_fh (v_rw b l (a :: b_fh b) (b_fs b)) = a :: b_fh b := rfl
  have hbp : b_ph (v_rw b l (a :: b_fh b) (b_fs b)) = [] := hp
  have hbn : b_ng (v_rw b l (a :: b_fh b) (b_fs b)) = b_ng b := rfl
  have n1 : ∀ g x, g ≠ 5 → tN (tfA A f F) g x = tN A g x := fun g x hg => tf_n g x hg
  have hp5 : ∀ p, f.2 = some p → p < tN A 1 0 ∧ tN (tfA A f F) 5 p = 3 := fun p hp' => by
    refine ⟨h.2.1.1 f (by rw [hF]; exact List.mem_cons_self ..) p hp', ?_⟩
    unfold tfA
    rw [hp']
    show tN (uN (uF A F) 5 p 3) 5 p = 3
    rw [tN_uN, if_pos ⟨rfl, rfl⟩]
  unfold dnF
  rw [f_X9_deliverNext, hT.2.2.1.1.1, Option.bind_some, t1, wd_b2_s, wd_on_S, wd_let]
  generalize v_rw b l (a :: b_fh b) (b_fs b) = b1 at *
  generalize tfA A f F = B at *
  obtain ⟨g1, g2⟩ := o_c902 hT1
  have hI2 : Iv P z c (cuA B 902 0) := hI1.cnt (Or.inl rfl)
  have g1' : Tm P T X z (wd_sI w1 902 T (wd_I w1 902 T + 1)) b1 (cuA B 902 0) := g1
  have c2 := cu_t (A := B) 902 0 (by omega)
  have fr := g2.2.2 a (by rw [hbh]; exact List.mem_cons_self ..)
  have n2 : ∀ g x, tN (cuA B 902 0) g x = if g = 902 ∧ x = 0 then tN B 902 0 + 1 else tN B g x := fun g x => cu_n
  generalize wd_sI w1 902 T (wd_I w1 902 T + 1) = w2 at *
  generalize cuA B 902 0 = B2 at *
  -- its cable
  have hcab : ∃ cb, cb < 2 ∧ f.1 0 = Int32.ofNat cb := by
    rw [f0]
    rcases (hz.2.2.2.2.2.1 i0 k0 q0 hq0.1 hq0.2.1 hq0.2.2).2.1 with q | q
    · exact ⟨0, by omega, q⟩
    · exact ⟨1, by omega, q⟩
  obtain ⟨cb, cb2, ecb⟩ := hcab
  have e0 : wd_I w2 0 a = Int32.ofNat cb := by rw [fr.1 0 (by omega), t6 0 (by omega)]; exact ecb
  obtain ⟨k1, k2⟩ := o_c907 g1' (c := cb) (by omega)
  have fr2 := k2.2.2 a (by rw [hbh]; exact List.mem_cons_self ..)
  have hI3 : Iv P z c (cuA B2 907 cb) := hI2.cnt (Or.inr (Or.inr rfl))
  have c3 := cu_t (A := B2) 907 cb (by omega)
  have n3 : ∀ g x, tN (cuA B2 907 cb) g x = if g = 907 ∧ x = cb then tN B2 907 cb + 1 else tN B2 g x := fun g x => cu_n
  have e907 := g1'.2.2.1.1.2.2.2.2.1
  have eN7 := g1'.2.2.1.1.2.2.2.2.2.2.1
  rw [show (f.1 0).toNatClampNeg = cb by rw [ecb, j_nn (by omega)]]
  rw [e0, if_neg (j_n0 (by omega)), if_neg (by rw [show (8 : Int32) = Int32.ofNat 8 from rfl, j_ll (by omega) (by omega)]; omega), e907, Option.bind_some, j_gd (by rw [eN7]; exact j_in (by omega) (by omega)), j_gd (by rw [eN7]; exact j_in (by omega) (by omega)), j_nn (by omega), wd_let]
  generalize wd_sA w2 (T + 4) cb (wd_A w2 (T + 4) cb + 1) = w3 at *
  generalize cuA B2 907 cb = B3 at *
  have hfr : ∀ g, g < 5 → wd_I w3 g a = f.1 g := fun g hg => by rw [fr2.1 g hg, fr.1 g hg]; exact t6 g hg
  have hfr5 : wd_R w3 5 a = f.2.map (b_pa b) := by rw [fr2.2, fr.2]; exact t7
  have hR3 : Rl T w1 b1 w3 b1 := g2.tr k2
  have cT : Ct A B3 0 0 0 0 := ((c1.tr c2).tr c3)
  have nn : ∀ g x, g ≠ 5 → g ≠ 902 → g ≠ 907 → tN B3 g x = tN A g x := fun g x h1 h2 h3 => by rw [n3, if_neg (fun q => h3 q.1), n2, if_neg (fun q => h2 q.1), n1 g x h1]
  have n902 : tN B3 902 0 = tN A 902 0 + 1 := by rw [n3, if_neg (by omega), n2, if_pos ⟨rfl, rfl⟩, n1 902 0 (by omega)]
  have n907 : tN B3 907 0 + tN B3 907 1 = tN A 907 0 + tN A 907 1 + 1 := by
    have e : cb = 0 ∨ cb = 1 := by omega
    rcases e with e | e
    · rw [e] at n3
      rw [n3 907 0, n3 907 1, if_pos ⟨rfl, rfl⟩, if_neg (by omega), n2 907 0, n2 907 1, if_neg (by omega), if_neg (by omega), n1 907 0 (by omega), n1 907 1 (by omega)]; omega
    · rw [e] at n3
      rw [n3 907 0, n3 907 1, if_neg (by omega), if_pos ⟨rfl, rfl⟩, n2 907 0, n2 907 1, if_neg (by omega), if_neg (by omega), n1 907 0 (by omega), n1 907 1 (by omega)]; omega
  have hB3 : Bg X b1 B3 ((c + 4) / 8 + 7) ((c + 4) / 8 + 7) 7 := (hB.le (a' := 0 + ((c + 4) / 8 + 7)) (f' := 0 + ((c + 4) / 8 + 7)) (g' := 0 + 7) (by omega) (by omega) (by omega)).ct cT hbn
  -- the end
  have fin : ∀ (y : Wd) (b2 : Be) (D : Ta), Tm P T X z y b2 D → Rl T w3 b1 y b2 → ∃ v b', f_X9_deliverNext_j122 n T (some a) y = some (1, v) ∧ Tm P T X z v b' D ∧ Rl T w b v b' := by
    intro y b2 D y1 y2
    have hb2 : b_fh b2 = a :: b_fh b := y2.2.1.trans hbh
    obtain ⟨v, v1, v2, v3, v4⟩ := o_reuse (n := n) y1 hb2
    refine ⟨v, _, ?_, v2, ⟨(t4.tr ((hR3.tr y2).1)).tr v3, rfl, ?_⟩⟩
    · rw [f_X9_deliverNext_j122, y1.2.2.1.1.1, Option.bind_some, v1, Option.bind_some]
    · rw [hh]; exact fun _ q => absurd q List.not_mem_nil
  rw [f_X9_deliverNext_j53, Option.bind_some, hfr 3 (by omega)]
  have n3l : tN B3 3 0 + 6 ≤ X := by have := hB3.2.1; omega
  rcases hsort with s | s | ⟨s1, s2, p, s3, -⟩
  · rw [s.1, if_pos rfl, if_pos rfl]
    obtain ⟨y, b2, y1, y2, y3, y4, y5, y6⟩ := o_hearQ (n := n) k1 hI3 hz (a := a) (f := f) (by rw [hbh]; exact List.mem_cons_self ..) hfr (by omega)
    obtain ⟨v, b', r1, r2, r3⟩ := fin y b2 _ y2 y3
    refine ⟨v, b', ?_, r2, r3, y4.le (by omega) (by omega), (cT.tr y5).le (by omega) (by omega) (by omega) (by omega), ?_, ?_, ?_⟩
    · rw [y1, Option.bind_some]; exact r1
    · rw [y6.1]; exact n902
    · rw [y6.2.2 0, y6.2.2 1]; exact n907
    · rw [y6.2.1, nn 903 0 (by omega) (by omega) (by omega)]; omega
  · rw [s.1, if_neg (by decide), if_pos rfl, if_neg (by decide), if_pos rfl]
    obtain ⟨y, b2, y1, y2, y3, y4, y5, y6⟩ := o_hearR (n := n) k1 hI3 hz (a := a) (f := f) (by rw [hbh]; exact List.mem_cons_self ..) hbp hfr ⟨i0, k0, q0, hq0, f1, f4 s.1⟩ s.2.1 (by omega) n3l
    obtain ⟨v, b', r1, r2, r3⟩ := fin y b2 _ y2 y3
    refine ⟨v, b', ?_, r2, r3, y4.le (by omega) (by omega), (cT.tr y5).le (by omega) (by omega) (by omega) (by omega), ?_, ?_, ?_⟩
    · rw [y1, Option.bind_some]; exact r1
    · rw [y6.1]; exact n902
    · rw [y6.2.2 0, y6.2.2 1]; exact n907
    · rw [y6.2.1, nn 903 0 (by omega) (by omega) (by omega)]; omega
  · rw [s1, if_neg (by decide), if_neg (by decide), if_neg (by decide), if_neg (by decide), wd_let]
    obtain ⟨m1, m2⟩ := o_c903 k1
    have m1' : Tm P T X z (wd_sI w3 903 T (wd_I w3 903 T + 1)) b1 (cuA B3 903 0) := m1
    have hI4 : Iv P z c (cuA B3 903 0) := hI3.cnt (Or.inr (Or.inl rfl))
    have c4 := cu_t (A := B3) 903 0 (by omega)
    have n4 : ∀ g x, tN (cuA B3 903 0) g x = if g = 903 ∧ x = 0 then tN B3 903 0 + 1 else tN B3 g x := fun g x => cu_n
    have fr3 := m2.2.2 a (by rw [hbh]; exact List.mem_cons_self ..)
    obtain ⟨p1, p2⟩ := hp5 p s3
    obtain ⟨i2, k2', q2, hm1, hm2⟩ := s2
    have i8 := hm1.1
    have k8 := hm1.2.1
    have ej : (f.1 2).toNatClampNeg / 4 = i2 := by rw [hm2, j_nn (by omega)]; omega
    unfold dpF
    rw [s3, ej]
    dsimp only
    have cT4 : Ct A (cuA B3 903 0) 0 0 0 0 := cT.tr c4
    have hB4 : Bg X b1 (cuA B3 903 0) ((c + 4) / 8 + 7) ((c + 4) / 8 + 7) 7 := (hB3.le (a' := 0 + ((c + 4) / 8 + 7)) (f' := 0 + ((c + 4) / 8 + 7)) (g' := 0 + 7) (by omega) (by omega) (by omega)).ct c4 rfl
    have p4 : p < tN (cuA B3 903 0) 1 0 := by rw [n4, if_neg (by omega), nn 1 0 (by omega) (by omega) (by omega)]; exact p1
    have p5 : tN (cuA B3 903 0) 5 p = 3 := by rw [n4, if_neg (by omega), n3, if_neg (by omega), n2, if_neg (by omega)]; exact p2
    have e2 : wd_I (wd_sI w3 903 T (wd_I w3 903 T + 1)) 2 a = Int32.ofNat (4 * i2 + k2') := by rw [fr3.1 2 (by omega), hfr 2 (by omega)]; exact hm2
    have e5 : wd_R (wd_sI w3 903 T (wd_I w3 903 T + 1)) 5 a = some (b_pa b1 p) := by
      rw [fr3.2, hfr5, s3, Option.map_some, t4.1.1 p (hT.pn p1)]
    generalize wd_sI w3 903 T (wd_I w3 903 T + 1) = w4 at *
    have n902' : tN (cuA B3 903 0) 902 0 = tN A 902 0 + 1 := by rw [n4, if_neg (by omega)]; exact n902
    have n907' : tN (cuA B3 903 0) 907 0 + tN (cuA B3 903 0) 907 1 = tN A 907 0 + tN A 907 1 + 1 := by rw [n4, n4, if_neg (by omega), if_neg (by omega)]; exact n907
    have n903' : tN (cuA B3 903 0) 903 0 = tN A 903 0 + 1 := by rw [n4, if_pos ⟨rfl, rfl⟩, nn 903 0 (by omega) (by omega) (by omega)]
    generalize cuA B3 903 0 = B4 at *
    obtain ⟨y, b2, y1, y2, y3, y4, y5, y6⟩ := o_come (n := n) hz i8 hn hX m1' hI4 p4 p5 (hB4.le (by omega) (by omega) (by omega))
    have hB5 := (hB4.le (a' := 1 + ((c + 4) / 8 + 5)) (f' := 0 + ((c + 4) / 8 + 5)) (g' := 1 + 5) (by omega) (by omega) (by omega)).cs y5 y3.ng
    obtain ⟨y', b3, r1, r2, r3, r4, r5⟩ := o_goOut (n := n) y2 y4 hz i8 hn (by omega) hc (o := (cmF P z i2 (tN B4 1 0) (some p) B4).1) y6 hB5
    generalize hD : goF P z i2 4 (cmF P z i2 (tN B4 1 0) (some p) B4).1 (cmF P z i2 (tN B4 1 0) (some p) B4).2 = D at *
    obtain ⟨v, b', x1, x2, x3⟩ := fin y' b3 D r2 ((m2.tr y3).tr r3)
    refine ⟨v, b', ?_, x2, x3, r4, ((cT4.tr y5.t).tr r5.t).le (by omega) (by omega) (by omega) (by omega), ?_, ?_, ?_⟩
    · rw [e2, o_hostWithMark m1' (m := 4 * i2 + k2') (by omega), wd_b2_s, wd_on_S, show (4 * i2 + k2') / 4 = i2 by omega, e5, y1, wd_b2_s, r1, Option.bind_some]
      exact x1
    · rw [r5.e.1, y5.e.1]; exact n902'
    · rw [r5.e.2.2 0, r5.e.2.2 1, y5.e.2.2 0, y5.e.2.2 1]; exact n907'
    · rw [r5.e.2.1, y5.e.2.1, n903']; omega
end DL
