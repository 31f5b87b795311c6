/-! ===== PURE: a trial's ask, and that of an own address ===== -/
section TR
variable {P T X R i j n c : Nat} {z w u : Wd} {b : Be} {A A' : Ta}
/-- marks that are right -/
def Mq (P : Nat) (z : Wd) (M : Nat → Nat → Int32) : Prop := ∀ i x, i < 8 → x < 256 → M i x = -1 ∨ ∃ q, wd_Q z (P + 3) x = some q ∧ M i x = wd_I z 700 q
theorem A0_iv {M : Nat → Nat → Int32} {k : Nat} (hM : Mq P z M) (hk : k ≤ 1000000000) (hc : c ≤ 10000) : Iv P z c (A0 M k) := by
  refine ⟨⟨fun i hi => ⟨fun e he => absurd he List.not_mem_nil, List.nodup_nil, Nat.zero_le _⟩, fun i hi e he => absurd he List.not_mem_nil⟩, ⟨fun f hf => absurd hf List.not_mem_nil, fun i hi => absurd (show i < 0 from hi) (Nat.not_lt_zero _)⟩, fun i hi => absurd (show i < 0 from hi) (Nat.not_lt_zero _), ⟨fun f hf => absurd hf List.not_mem_nil, List.nodup_nil, fun i hi e he => absurd he List.not_mem_nil, fun i hi e he => absurd he List.not_mem_nil, fun i hi => ⟨fun i k e f _ he => (by cases he), Nat.zero_le _⟩, hM, fun i hi f hf => absurd hf List.not_mem_nil⟩, hc, hk⟩
def akL (P : Nat) (z : Wd) (M : Nat → Nat → Int32) (k j to size tt v : Nat) : Int32 × Ta := laF P z (A0 M k) j 1 (Int32.ofNat to) (Int32.ofNat size) (Int32.ofNat tt) (Int32.ofNat v)
def akF (P : Nat) (z : Wd) (M : Nat → Nat → Int32) (k j to size tt v : Nat) : Ta × Ts :=
  askF P z j (akL P z M k j to size tt v).1 200 ((akL P z M k j to size tt v).2, lkD (akL P z M k j to size tt v).1 (tO (akL P z M k j to size tt v).2 j) ((tO (akL P z M k j to size tt v).2 j).length - 0) (0, -1, -1, -1))
theorem o_ask (hT : Tm P T X z w b A) (hI : Ix A) (hz : PS P z) (hj : j < 8) (hR : Rx P T R z) (h4 : wd_R w 1004 R = some T) (hRH : R < wd_H w) (hh : b_fh b = []) (hp : b_ph b = []) (hX : X = 30000) (hn : 40000 ≤ n) {M : Nat → Nat → Int32} (hM : ∀ i x, i < 8 → x < 256 → tM A i x = M i x) (hMq : Mq P z M) (h9 : tN A 901 0 + 40000 ≤ 1000000000) (hr : ∀ i, i < 8 → b_ng b 203 i + (tO A i).length + 2000 < 1073741824)
    {to size tt v : Nat} (ht : to < 256) (hs : size ≤ 200) (ht1 : 1 ≤ tt) (ht2 : tt ≤ 40) (hv : v ≤ 1) :
    ∃ y b', f_X10_ask n w R (Int32.ofNat j) (Int32.ofNat to) (Int32.ofNat size) (Int32.ofNat tt) (Int32.ofNat v) = some y ∧ Tm P T X z y b' (akF P z M (tN A 901 0) j to size tt v).1 ∧ (∃ nu, Rt R y (akF P z M (tN A 901 0) j to size tt v).2 nu) ∧ Tsq (akF P z M (tN A 901 0) j to size tt v).2 ∧ Rr T R w b y b' ∧ b_fh b' = [] ∧ b_ph b' = [] ∧ wd_R y 1004 R = some T ∧
      Iv P z 1100 (akF P z M (tN A 901 0) j to size tt v).1 ∧ tN (akF P z M (tN A 901 0) j to size tt v).1 901 0 ≤ tN A 901 0 + 30000 ∧ ∀ i, i < 8 → b_ng b' 203 i + (tO (akF P z M (tN A 901 0) j to size tt v).1 i).length ≤ b_ng b 203 i + (tO A i).length + 1500 := by
  have hD := hT.nR hR
  -- the fields set
  have o1 : Wo R w (wd_sI (wd_sI (wd_sI (wd_sI w 1000 R 0) 1001 R (-1)) 1002 R (-1)) 1003 R (-1)) := (((Wo.sI (w := w) 1000 0).tr (Wo.sI 1001 (-1))).tr (Wo.sI 1002 (-1))).tr (Wo.sI 1003 (-1))
  have t0 : wd_I (wd_sI (wd_sI (wd_sI (wd_sI w 1000 R 0) 1001 R (-1)) 1002 R (-1)) 1003 R (-1)) 1000 R = 0 ∧ wd_I (wd_sI (wd_sI (wd_sI (wd_sI w 1000 R 0) 1001 R (-1)) 1002 R (-1)) 1003 R (-1)) 1001 R = -1 ∧ wd_I (wd_sI (wd_sI (wd_sI (wd_sI w 1000 R 0) 1001 R (-1)) 1002 R (-1)) 1003 R (-1)) 1002 R = -1 ∧ wd_I (wd_sI (wd_sI (wd_sI (wd_sI w 1000 R 0) 1001 R (-1)) 1002 R (-1)) 1003 R (-1)) 1003 R = -1 := by
    refine ⟨?_, ?_, ?_, ?_⟩
    · rw [i_sI, if_neg (by omega), i_sI, if_neg (by omega), i_sI, if_neg (by omega), i_sI, if_pos ⟨rfl, rfl⟩]
    · rw [i_sI, if_neg (by omega), i_sI, if_neg (by omega), i_sI, if_pos ⟨rfl, rfl⟩]
    · rw [i_sI, if_neg (by omega), i_sI, if_pos ⟨rfl, rfl⟩]
    · rw [i_sI, if_pos ⟨rfl, rfl⟩]
  unfold f_X10_ask
  rw [wd_let, wd_let, wd_let, wd_let]
  generalize wd_sI (wd_sI (wd_sI (wd_sI w 1000 R 0) 1001 R (-1)) 1002 R (-1)) 1003 R (-1) = w1 at *
  have hT1 := o1.tm hT hI hR
  have h41 : wd_R w1 1004 R = some T := by rw [o1.2.1]; exact h4
  have hRH1 : R < wd_H w1 := by rw [o1.2.2.1]; exact hRH
  -- all dropped
  obtain ⟨w2, b2, d1, d2, d3, d4, d5⟩ := o_dropAll (n := n) hT1 (by omega) hh hp
  obtain ⟨q1, q2, q3, q4, q5, q6, q7⟩ := dkA_o 8 0 (uN (uF A []) 3 0 0)
  have eN : ∀ g x, g ≠ 1 → g ≠ 3 → tN (uN (dkA 8 0 (uN (uF A []) 3 0 0)) 1 0 0) g x = tN A g x := fun g x h1 h3 => by rw [tN_uN, if_neg (fun q => h1 q.1), q5, tN_uN, if_neg (fun q => h3 q.1), tN_uF]
  have eO : tO (uN (dkA 8 0 (uN (uF A []) 3 0 0)) 1 0 0) = tO A := by rw [tO_uN, q4]; rfl
  have e1 : tN (uN (dkA 8 0 (uN (uF A []) 3 0 0)) 1 0 0) 1 0 = 0 := by rw [tN_uN, if_pos ⟨rfl, rfl⟩]
  have e3 : tN (uN (dkA 8 0 (uN (uF A []) 3 0 0)) 1 0 0) 3 0 = 0 := by rw [tN_uN, if_neg (by omega), q5, tN_uN, if_pos ⟨rfl, rfl⟩]
  have eF : tF (uN (dkA 8 0 (uN (uF A []) 3 0 0)) 1 0 0) = [] := by rw [tF_uN, q6, tF_uN, tF_uF]
  have eM : tM (uN (dkA 8 0 (uN (uF A []) 3 0 0)) 1 0 0) = tM A := by rw [tM_uN, q3]; rfl
  have eWK : ∀ i, i < 8 → tW (uN (dkA 8 0 (uN (uF A []) 3 0 0)) 1 0 0) i = [] ∧ tK (uN (dkA 8 0 (uN (uF A []) 3 0 0)) 1 0 0) i = [] := fun i hi => by rw [tW_uN, tK_uN]; exact (q7 i).1 (by omega)
  have hbase := d2.base e1 e3 eF eWK d5 M (fun i x hi hx => by rw [eM]; exact hM i x hi hx)
  have e9 := eN 901 0 (by omega) (by omega)
  rw [e9] at hbase
  have hng0 : ∀ i, b_ng (ngB b2 (uN (dkA 8 0 (uN (uF A []) 3 0 0)) 1 0 0)) 203 i = b_ng b 203 i + (tO A i).length := fun i => by
    show b_ng b2 203 i + (if (203 : Nat) = 203 then (tO (uN (dkA 8 0 (uN (uF A []) 3 0 0)) 1 0 0) i).length else _) = _
    rw [if_pos rfl, eO, d3.ng]
  have hRr0 : Rr T R w b w2 (ngB b2 (uN (dkA 8 0 (uN (uF A []) 3 0 0)) 1 0 0)) := o1.r.tr (d3.r hRH1 (hT1.nR hR))
  have f0 : b_fh (ngB b2 (uN (dkA 8 0 (uN (uF A []) 3 0 0)) 1 0 0)) = [] := d4
  have p0 : b_ph (ngB b2 (uN (dkA 8 0 (uN (uF A []) 3 0 0)) 1 0 0)) = [] := d5
  have rR : (∀ g, wd_I w2 g R = wd_I w1 g R) ∧ wd_R w2 1004 R = some T := by
    have e := d3.1.1.2.2.2.2.1 R hRH1 (hT1.nR hR)
    exact ⟨e.1, by rw [e.2.1]; exact h41⟩
  have hRH2 : R < wd_H w2 := by have := d3.1.1.2.2.2.1; omega
  rw [h41, Option.bind_some, d1, Option.bind_some, rR.2, Option.bind_some]
  clear q1 q2 q3 q4 q5 q6 q7 eN eO e1 e3 eF eM eWK e9
  generalize ngB b2 (uN (dkA 8 0 (uN (uF A []) 3 0 0)) 1 0 0) = b0 at *
  have hIA := A0_iv (c := 200) (k := tN A 901 0) hMq (by omega) (by omega)
  have hOA : ∀ i, tO (A0 M (tN A 901 0)) i = [] := fun _ => rfl
  have hNA : tN (A0 M (tN A 901 0)) 901 0 = tN A 901 0 := rfl
  rw [o_host hbase hj, wd_b2_s, wd_on_S, wd_let]
  have hB0 : Bg X b0 (A0 M (tN A 901 0)) (31 + 200 * 132) (31 + 200 * 132) (6 + 200 * 7) := by
    refine ⟨?_, ?_, ?_, fun i hi => ?_⟩
    · show 0 + _ ≤ X
      omega
    · show 0 + _ ≤ X
      omega
    · rw [hNA]; omega
    · rw [hOA, hng0]
      have := hr i hi
      simp
      omega
  have e203 : wd_I w2 203 (hA T j) = Int32.ofNat (b_ng b0 203 j + 0) := (hbase.2.2.2.2.2.2 j hj).2.2.2.2.1
  rw [e203]
  have o2 : Wo R w2 (wd_sI w2 1006 R (Int32.ofNat (b_ng b0 203 j + 0))) := Wo.sI _ _
  have hT3 := o2.tm hbase hIA.1 hR
  have e6 : wd_I (wd_sI w2 1006 R (Int32.ofNat (b_ng b0 203 j + 0))) 1006 R = Int32.ofNat (b_ng b0 203 j + 0) := by rw [i_sI, if_pos ⟨rfl, rfl⟩]
  have eo : ∀ g, g ≠ 1006 → wd_I (wd_sI w2 1006 R (Int32.ofNat (b_ng b0 203 j + 0))) g R = wd_I w1 g R := fun g hg => by rw [i_sI, if_neg (fun q => hg q.1)]; exact rR.1 g
  generalize wd_sI w2 1006 R (Int32.ofNat (b_ng b0 203 j + 0)) = w3 at *
  have h43 : wd_R w3 1004 R = some T := by rw [o2.2.1]; exact rR.2
  have hRH3 : R < wd_H w3 := by rw [o2.2.2.1]; exact hRH2
  rw [h43, Option.bind_some]
  unfold akF akL
  -- sent
  obtain ⟨y, b3, y1, y2, y3, y4, y5, -⟩ := o_launch (n := n) hT3 hIA hz hj (by omega) (by omega) (by omega) (k := 1) (by omega) ht hs ht1 ht2 hv (hB0.le (by omega) (by omega) (by omega))
  rw [show f_X9_launch n w3 T (some (hA T j)) 1 (Int32.ofNat to) (Int32.ofNat size) (Int32.ofNat tt) (Int32.ofNat v) = some ((laF P z (A0 M (tN A 901 0)) j 1 (Int32.ofNat to) (Int32.ofNat size) (Int32.ofNat tt) (Int32.ofNat v)).1, y) from y1, wd_b2_s, wd_let]
  have y2' : Tm P T X z y b3 (laF P z (A0 M (tN A 901 0)) j 1 (Int32.ofNat to) (Int32.ofNat size) (Int32.ofNat tt) (Int32.ofNat v)).2 := y2
  have y4' : Iv P z (200 + 4) (laF P z (A0 M (tN A 901 0)) j 1 (Int32.ofNat to) (Int32.ofNat size) (Int32.ofNat tt) (Int32.ofNat v)).2 := y4
  have y5' : Cs (A0 M (tN A 901 0)) (laF P z (A0 M (tN A 901 0)) j 1 (Int32.ofNat to) (Int32.ofNat size) (Int32.ofNat tt) (Int32.ofNat v)).2 ((200 + 4) / 8 + 6) ((200 + 4) / 8 + 6) 6 ((200 + 4) / 8 + 6) := y5
  generalize laF P z (A0 M (tN A 901 0)) j 1 (Int32.ofNat to) (Int32.ofNat size) (Int32.ofNat tt) (Int32.ofNat v) = L at *
  have eR := y3.1.1.2.2.2.2.1 R hRH3 (hT3.nR hR)
  have o3 : Wo R y (wd_sI y 1005 R L.1) := Wo.sI _ _
  have hT4 := o3.tm y2' y4'.1 hR
  have r4 : Rt R (wd_sI y 1005 R L.1) (0, -1, -1, -1) L.1 := ⟨by rw [i_sI, if_neg (by omega), eR.1, eo _ (by omega)]; exact t0.1, by rw [i_sI, if_neg (by omega), eR.1, eo _ (by omega)]; exact t0.2.1, by rw [i_sI, if_neg (by omega), eR.1, eo _ (by omega)]; exact t0.2.2.1, by rw [i_sI, if_neg (by omega), eR.1, eo _ (by omega)]; exact t0.2.2.2, by rw [i_sI, if_pos ⟨rfl, rfl⟩]⟩
  have e64 : wd_I (wd_sI y 1005 R L.1) 1006 R = Int32.ofNat (b_ng b3 203 j + 0) := by rw [i_sI, if_neg (by omega), eR.1, y3.ng]; exact e6
  generalize wd_sI y 1005 R L.1 = w5 at *
  have hl := y5'.2.2.2.2.2.1 j
  rw [hOA] at hl
  obtain ⟨w6, k1, k2, k3, k4⟩ := o_look (n := n) hT4 hj hR y4'.1 (len := 0) (Nat.zero_le _) (by simp at hl; omega) r4 e64 (by omega)
  rw [k1, Option.bind_some]
  have hT6 := k2.tm hT4 y4'.1 hR
  have hq0 : Tsq (0, -1, -1, -1) := ⟨Or.inl rfl, Or.inl rfl, fun q => absurd rfl q⟩
  have hq6 := tsq_D (nu := L.1) (y4'.2.2.2.1.2.2.2.2.2.2 j hj) ((tO L.2 j).length - 0) (0, -1, -1, -1) hq0
  have hng3 : ∀ i, b_ng b3 203 i = b_ng b 203 i + (tO A i).length := fun i => by rw [y3.ng]; exact hng0 i
  have hph3 : b_ph b3 = [] := y3.1.2.1.trans p0
  have hfh3 : b_fh b3 = [] := y3.2.1.trans f0
  have hB6 : Bg X b3 L.2 (200 * 132) (200 * 132) (200 * 7) := (hB0.le (a' := ((200 + 4) / 8 + 6) + 200 * 132) (f' := ((200 + 4) / 8 + 6) + 200 * 132) (g' := 6 + 200 * 7) (by omega) (by omega) (by omega)).cs y5' y3.ng
  have h46 : wd_R w6 1004 R = some T := by rw [k2.2.1, o3.2.1, eR.2.1]; exact h43
  have hRH6 : R < wd_H w6 := by rw [k2.2.2.1, o3.2.2.1]; have := y3.1.1.2.2.2.1; omega
  obtain ⟨x, b4, x1, x2, x3, x4, x5, x6, x7, x8, x9, x10⟩ := o_askL (n := n) hz hj hR (by omega) (by omega) (nu := L.1) (K := 132) 200 0 n w6 b3 L.2 _ 204 (by omega) (by omega) hT6 y4' hfh3 hph3 k3 hq6 k4 h46 hRH6 (by omega) (by omega) hB6
  refine ⟨x, b4, x1, x2, ⟨_, x3⟩, x4, ((((hRr0.tr o2.r).tr (y3.r hRH3 (hT3.nR hR))).tr o3.r).tr k2.r).tr x5, x6, x7, by rw [x5.2.2.2.2.2.2 1004]; exact h46, x9.le (by omega) (by omega), ?_, fun i hi => ?_⟩
  · have g1 := x10.2.2.2.2.1
    have g2 := y5'.2.2.2.2.1
    rw [hNA] at g2
    omega
  · have g1 := (x10.2.2.2.2.2.1 i).2
    have g2 := (y5'.2.2.2.2.2.1 i).2
    rw [hOA] at g2
    rw [x8, hng3]
    simp at g2
    omega
/-- asked of an own address: it answers itself -/
theorem own_ask (hz : PS P z) (hj : j < 8) {M : Nat → Nat → Int32} {k to size tt v : Nat} (hMq : Mq P z M) (hk : k + 40000 ≤ 1000000000) (ht : to < 256) (hs : size ≤ 200) (ht1 : 1 ≤ tt) (ht2 : tt ≤ 40) (hv1 : v ≤ 1) (ho : owv P z j (Int32.ofNat to) = true) :
    (akF P z M k j to size tt v).2 = (1, 2, Int32.ofNat to, Int32.ofNat k) := by
  have hIA := A0_iv (P := P) (z := z) (c := 200) (k := k) hMq (by omega) (by omega)
  have hso : soV P z j (Int32.ofNat to) = Int32.ofNat to := by unfold soV; rw [if_pos ho]
  have h0 : 0 ≤ Int32.ofNat to := by rw [show (0 : Int32) = Int32.ofNat 0 from rfl, j_ll (by omega) (by omega)]; omega
  obtain ⟨i1, i2, i3, i4⟩ := la_iv (j := j) hIA (k := 1) (f := to) (t := to) (s := size) (tt := tt) (v := v) (by omega) ht ht hs ht1 ht2 hv1 (show k + 1 ≤ _ by omega)
  have eI : ∀ g, g ≠ 404 → g ≠ 408 → tI (laA (A0 M k) 1 (Int32.ofNat to) (Int32.ofNat to) (Int32.ofNat size) (Int32.ofNat tt) (Int32.ofNat v)) g (tN (A0 M k) 1 0) = hdB 1 (Int32.ofNat to) (Int32.ofNat to) (Int32.ofNat size) (Int32.ofNat (tN (A0 M k) 901 0)) g := fun g hg hg2 => by
    unfold laA
    rw [tI_uI, if_neg (fun q => hg2 q.1), tI_uI, if_neg (fun q => hg q.1), br_I, if_pos rfl]
  have eF : tF (laA (A0 M k) 1 (Int32.ofNat to) (Int32.ofNat to) (Int32.ofNat size) (Int32.ofNat tt) (Int32.ofNat v)) = [] := by
    unfold laA
    rw [tF_uI, tF_uI, br_L.2.2.2.2]; rfl
  have eO : tO (laA (A0 M k) 1 (Int32.ofNat to) (Int32.ofNat to) (Int32.ofNat size) (Int32.ofNat tt) (Int32.ofNat v)) j = [] := by
    unfold laA
    rw [tO_uI, tO_uI, br_L.2.2.2.1]; rfl
  have i1' : Iv P z 200 (laA (A0 M k) 1 (Int32.ofNat to) (Int32.ofNat to) (Int32.ofNat size) (Int32.ofNat tt) (Int32.ofNat v)) := i1
  have i3' : Gp P z (laA (A0 M k) 1 (Int32.ofNat to) (Int32.ofNat to) (Int32.ofNat size) (Int32.ofNat tt) (Int32.ofNat v)) j (tN (A0 M k) 1 0) := i3
  have i4' : tN (laA (A0 M k) 1 (Int32.ofNat to) (Int32.ofNat to) (Int32.ofNat size) (Int32.ofNat tt) (Int32.ofNat v)) 901 0 = k + 1 := i4
  have hL : ∃ D, laF P z (A0 M k) j 1 (Int32.ofNat to) (Int32.ofNat size) (Int32.ofNat tt) (Int32.ofNat v) = (Int32.ofNat k, D) ∧ tF D = [] ∧ ∃ f, tO D j = [f] ∧ f 0 = 2 ∧ f 1 = Int32.ofNat to ∧ f 5 = Int32.ofNat k := by
    unfold laF
    rw [hso, if_pos h0]
    refine ⟨_, rfl, ?_⟩
    generalize laA (A0 M k) 1 (Int32.ofNat to) (Int32.ofNat to) (Int32.ofNat size) (Int32.ofNat tt) (Int32.ofNat v) = B at *
    generalize hp : tN (A0 M k) 1 0 = p at *
    have k0 : tI B 400 p = 1 := eI 400 (by omega) (by omega)
    have k1 : tI B 401 p = Int32.ofNat to := eI 401 (by omega) (by omega)
    have k2 : tI B 402 p = Int32.ofNat to := eI 402 (by omega) (by omega)
    have k5 : tI B 405 p = Int32.ofNat k := eI 405 (by omega) (by omega)
    obtain ⟨g1, g2, g3, g4, g5, g6, g7, g8⟩ := ac_ok i1' hj i3'.1 (by rw [i3'.2.1]; omega) (by unfold hv; rw [k0]; decide) (by omega)
    have hq : (acF B j p).1 = some (tN B 1 0) := by unfold acF; rw [if_pos k0]
    have hF2 : tF (acF B j p).2 = [] := by unfold acF; rw [if_pos k0]; dsimp only; rw [tF_uI, br_L.2.2.2.2]; exact eF
    obtain ⟨-, -, q2, q3, q4, q5, q6, q7, q8⟩ := g3 _ hq
    have hO2 : tO (acF B j p).2 j = [] := by rw [g7 k0]; exact eO
    rw [goF, show goS P z B j p = acF B j p by unfold goS; rw [k2, if_pos ho], hq]
    generalize (acF B j p).2 = C at *
    generalize tN B 1 0 = q at *
    have o2 : owv P z j (tI C 402 q) = true := by rw [q5, k1]; exact ho
    have n2 : tI C 400 q ≠ 1 := by rw [q4]; decide
    have hn : acF C j q = (none, uO C j (nt C q :: tO C j)) := by unfold acF; rw [if_neg n2]
    rw [goF, show goS P z C j q = acF C j q by unfold goS; rw [if_pos o2], hn]
    dsimp only
    rw [goF_n]
    refine ⟨by rw [tF_uO]; exact hF2, nt C q, by rw [tO_uO, if_pos rfl, hO2], q4, by show tI C 401 q = _; rw [q6, k2], by show tI C 406 q = _; rw [q8, k5]⟩
  obtain ⟨D, l1, l2, f, l3, l4, l5, l6⟩ := hL
  unfold akF akL
  rw [l1]
  dsimp only
  rw [l3]
  have e1 : lkD (Int32.ofNat k) [f] ([f].length - 0) (0, -1, -1, -1) = (1, 2, Int32.ofNat to, Int32.ofNat k) := by
    show lk1 (Int32.ofNat k) f (0, -1, -1, -1) = _
    refine Prod.ext (lk1_b (fun q => q.2 ⟨l4, l6⟩)) ?_
    rw [lk1_c ⟨rfl, Or.inl ⟨l4, l6⟩⟩, l4, l5, l6]
  rw [e1]
  show (askF P z j (Int32.ofNat k) (199 + 1) (D, (1, 2, Int32.ofNat to, Int32.ofNat k))).2 = _
  rw [askF]
  dsimp only
  rw [l2]
end TR
