/-! ===== PURE: by a port, whole or in pieces ===== -/
section BP
variable {P T X i j n : Nat} {z w u : Wd} {b : Be} {A A' : Ta}
theorem Ix.nw (hI : Ix A) (hd : Nat → Int32) (ins : Option Nat) (v : Nat) : Ix (uN (nwA A hd ins) 5 (tN A 1 0) v) := by
  have h1 : tN (uN (nwA A hd ins) 5 (tN A 1 0) v) 1 0 = tN A 1 0 + 1 := rfl
  have h5 : ∀ c, c < tN A 1 0 → tN (uN (nwA A hd ins) 5 (tN A 1 0) v) 5 c = tN A 5 c := fun c hc => by
    rw [tN_uN, if_neg (by omega)]; rfl
  refine ⟨fun i hi => ?_, fun i hi e he => ?_⟩
  · obtain ⟨g1, g2, g3⟩ := hI.1 i hi
    rw [h1]
    exact ⟨fun e he => ⟨Nat.lt_succ_of_lt (g1 e he).1, by rw [h5 _ (g1 e he).1]; exact (g1 e he).2⟩, g2, g3⟩
  · obtain ⟨g1, g2⟩ := hI.2 i hi e he
    rw [h1]
    exact ⟨fun c hc => ⟨Nat.lt_succ_of_lt (g1 c hc).1, by rw [h5 _ (g1 c hc).1]; exact (g1 c hc).2⟩, g2⟩
theorem Iy.nw (hJ : Iy A) (hd : Nat → Int32) (ins : Option Nat) (hins : ∀ c, ins = some c → c < tN A 1 0) (v : Nat) : Iy (uN (nwA A hd ins) 5 (tN A 1 0) v) := by
  have h1 : tN (uN (nwA A hd ins) 5 (tN A 1 0) v) 1 0 = tN A 1 0 + 1 := rfl
  refine ⟨fun f hf i hi => ?_, fun i hi c hc => ?_⟩
  · rw [h1]; exact Nat.lt_succ_of_lt (hJ.1 f hf i hi)
  · rw [h1] at hi ⊢
    have hc' : (if i = tN A 1 0 then ins else tR A 410 i) = some c := hc
    by_cases e : i = tN A 1 0
    · rw [if_pos e] at hc'; exact Nat.lt_succ_of_lt (hins c hc')
    · rw [if_neg e] at hc'; exact Nat.lt_succ_of_lt (hJ.2 i (by omega) c hc')
theorem Ix.tag (hI : Ix A) {p v : Nat} (hp3 : tN A 5 p = 3) : Ix (uN A 5 p v) := by
  have h5 : ∀ c, tN A 5 c ≠ 3 → tN (uN A 5 p v) 5 c = tN A 5 c := fun c hc => by
    rw [tN_uN, if_neg (fun q => hc (by rw [q.2]; exact hp3))]
  refine ⟨fun i hi => ?_, fun i hi e he => ?_⟩
  · obtain ⟨g1, g2, g3⟩ := hI.1 i hi
    exact ⟨fun e he => ⟨(g1 e he).1, by rw [h5 _ (by rw [(g1 e he).2]; omega)]; exact (g1 e he).2⟩, g2, g3⟩
  · obtain ⟨g1, g2⟩ := hI.2 i hi e he
    exact ⟨fun c hc => ⟨(g1 c hc).1, by rw [h5 _ (by rw [(g1 c hc).2]; omega)]; exact (g1 c hc).2⟩, g2⟩
theorem Iy.px (hJ : Iy A) {e : Nat × Int32 × Nat} : Iy (pxA A j e) := by
  obtain ⟨o1, o2, o3, o4, o5, o6, o7, o8, o9⟩ := pwA_o (A := A) (j := j) (e := e)
  have h1 : tN (pxA A j e) 1 0 = tN A 1 0 := px_N (by omega) (Or.inl (by omega))
  refine ⟨fun f hf i hi => ?_, fun i hi c hc => ?_⟩
  · rw [h1]
    rw [show tF (pxA A j e) = tF A from o6] at hf
    exact hJ.1 f hf i hi
  · rw [h1] at hi ⊢
    rw [show tR (pxA A j e) 410 i = tR A 410 i from congrFun (congrFun o2 410) i] at hc
    exact hJ.2 i hi c hc
theorem Iy.ad (hJ : Iy A) {q : Nat} {so to ad : Int32} {o : Option Nat} (ho : ∀ i, o = some i → i < tN A 1 0) : Iy (adF z A q so to ad o) := by
  refine ⟨fun f hf i hi => ?_, hJ.2⟩
  rcases List.mem_append.mp (show f ∈ tF A ++ [(fv (wd_I z 701 q) (wd_I z 700 q) to so ad, o)] from hf) with hf | hf
  · exact hJ.1 f hf i hi
  · rw [List.mem_singleton.mp hf] at hi; exact ho i hi
theorem gt_ok (hI : Ix A) (hJ : Iy A) (hj : j < 8) {p q : Nat} (hp : p < tN A 1 0) (hp3 : tN A 5 p = 3) :
    Ix (gtF P z A j p q) ∧ Iy (gtF P z A j p q) ∧ tI (gtF P z A j p q) = tI A ∧ tR (gtF P z A j p q) = tR A ∧ tN (gtF P z A j p q) 1 0 = tN A 1 0 ∧ tN (gtF P z A j p q) 3 0 ≤ tN A 3 0 + 1 ∧ (∀ c, c ≠ p → tN (gtF P z A j p q) 5 c = tN A 5 c) ∧ tK (gtF P z A j p q) = tK A ∧ tO (gtF P z A j p q) = tO A := by
  unfold gtF
  generalize hpv P z j (tI A 402 p) = x
  unfold gtG
  have h1 : tN (pxA A j (p, x, q)) 1 0 = tN A 1 0 := px_N (by omega) (Or.inl (by omega))
  have h3 : tN (pxA A j (p, x, q)) 3 0 = tN A 3 0 := px_N (by omega) (Or.inl (by omega))
  have h5 : ∀ c, c ≠ p → tN (pxA A j (p, x, q)) 5 c = tN A 5 c := fun c hc => px_N (by omega) (Or.inr hc)
  have hIx : Ix (pxA A j (p, x, q)) := hI.px hj hp hp3
  have hIy : Iy (pxA A j (p, x, q)) := hJ.px
  have e1 : tI (pxA A j (p, x, q)) = tI A := pwA_o.1
  have e2 : tR (pxA A j (p, x, q)) = tR A := pwA_o.2.1
  have e3 : tK (pxA A j (p, x, q)) = tK A := pwA_o.2.2.1
  have e4 : tO (pxA A j (p, x, q)) = tO A := pwA_o.2.2.2.2.1
  by_cases c : kmv A j x < 0
  · rw [if_pos c]
    generalize pxA A j (p, x, q) = B at *
    by_cases d : cwv (tW B j) x = 1
    · rw [if_pos d]
      refine ⟨hIx, hIy.ad (fun i hi => by cases hi), e1, e2, h1, ?_, h5, e3, e4⟩
      show tN (uF (uN B 3 0 (tN B 3 0 + 1)) _) 3 0 ≤ _
      rw [tN_uF, tN_uN, if_pos ⟨rfl, rfl⟩, h3]; exact Nat.le_refl _
    · rw [if_neg d]
      exact ⟨hIx, hIy, e1, e2, h1, by rw [h3]; omega, h5, e3, e4⟩
  · rw [if_neg c]
    have hA : Ix (adF z A q 0 (kmv A j x) (-1) (some p)) := hI
    refine ⟨hA.tag hp3, hJ.ad (fun i hi => by rw [← Option.some.inj hi]; exact hp), rfl, rfl, rfl, ?_, fun c hc => ?_, rfl, rfl⟩
    · show tN (uN (uF (uN A 3 0 (tN A 3 0 + 1)) _) 5 p 1) 3 0 ≤ _
      rw [tN_uN, if_neg (by omega), tN_uF, tN_uN, if_pos ⟨rfl, rfl⟩]; exact Nat.le_refl _
    · show tN (uN (uF (uN A 3 0 (tN A 3 0 + 1)) _) 5 p 1) 5 c = _
      rw [tN_uN, if_neg (fun q => hc q.2), tN_uF, tN_uN, if_neg (by omega)]
theorem Ix.mv (h : Ix A) (hW : tW A' = tW A) (hK : tK A' = tK A) (hN : tN A 1 0 ≤ tN A' 1 0) (h5 : ∀ i p, i < 8 → p < tN A 1 0 → tN A 5 p = 10 + i ∨ tN A 5 p = 20 + i → tN A' 5 p = tN A 5 p) : Ix A' := by
  unfold Ix
  rw [hW, hK]
  exact ⟨fun i hi => ⟨fun e he => ⟨by have := ((h.1 i hi).1 e he).1; omega, by rw [h5 i _ hi ((h.1 i hi).1 e he).1 (Or.inl ((h.1 i hi).1 e he).2)]; exact ((h.1 i hi).1 e he).2⟩, (h.1 i hi).2⟩,
    fun i hi e he => ⟨fun p hp => ⟨by have := ((h.2 i hi e he).1 p hp).1; omega, by rw [h5 i _ hi ((h.2 i hi e he).1 p hp).1 (Or.inr ((h.2 i hi e he).1 p hp).2)]; exact ((h.2 i hi e he).1 p hp).2⟩, (h.2 i hi e he).2⟩⟩
theorem Iy.mv (h : Iy A) (hF : tF A' = tF A) (hN : tN A 1 0 ≤ tN A' 1 0) (hR : ∀ i, i < tN A 1 0 → tR A' 410 i = tR A 410 i) (hR2 : ∀ i, tN A 1 0 ≤ i → i < tN A' 1 0 → ∀ d, tR A' 410 i = some d → d < tN A' 1 0) : Iy A' := by
  unfold Iy
  rw [hF]
  refine ⟨fun f hf i hi => by have := h.1 f hf i hi; omega, fun i hi d hd => ?_⟩
  by_cases e : i < tN A 1 0
  · rw [hR i e] at hd
    have := h.2 i e d hd
    omega
  · exact hR2 i (by omega) hi d hd
theorem nw_N {hd : Nat → Int32} {ins : Option Nat} {g x : Nat} : tN (nwA A hd ins) g x = if g = 1 ∧ x = 0 then tN A 1 0 + 1 else tN A g x := rfl
theorem ct_N {p g x : Nat} {a mo : Int32} (hg : g ≠ 6) : tN (ctA A p a mo) g x = if g = 5 ∧ x = tN A 1 0 then 3 else if g = 1 ∧ x = 0 then tN A 1 0 + 1 else tN A g x := by
  unfold ctA
  rw [tN_uN, if_neg (fun q => hg q.1), tN_uN, nw_N]
theorem ct_I {p g x : Nat} {a mo : Int32} (hx : x < tN A 1 0) : tI (ctA A p a mo) g x = tI A g x := by
  unfold ctA
  rw [tI_uN, tI_uN]
  exact nw_old hx g
theorem Ix.ct (hI : Ix A) {p : Nat} {a mo : Int32} : Ix (ctA A p a mo) := by
  refine hI.mv (by unfold ctA; rw [tW_uN, tW_uN]; rfl) (by unfold ctA; rw [tK_uN, tK_uN]; rfl) (by rw [ct_N (by omega), if_neg (by omega), if_pos ⟨rfl, rfl⟩]; omega) (fun i q hi hq _ => ?_)
  rw [ct_N (by omega), if_neg (by omega), if_neg (by omega)]
theorem ct_R {p x : Nat} {a mo : Int32} : tR (ctA A p a mo) 410 x = if x = tN A 1 0 then tR A 410 p else tR A 410 x := by
  unfold ctA
  rw [tR_uN, tR_uN]
  rfl
theorem Iy.ct (hJ : Iy A) {p : Nat} (hp : p < tN A 1 0) {a mo : Int32} : Iy (ctA A p a mo) := by
  have e1 : tN (ctA A p a mo) 1 0 = tN A 1 0 + 1 := by rw [ct_N (by omega), if_neg (by omega), if_pos ⟨rfl, rfl⟩]
  refine hJ.mv (by unfold ctA; rw [tF_uN, tF_uN]; rfl) (by rw [e1]; omega) (fun i hi => by rw [ct_R, if_neg (by omega)]) (fun i h1 h2 d hd => ?_)
  rw [ct_R, if_pos (by omega)] at hd
  have := hJ.2 p hp d hd
  omega
/-- the pieces from x on -/
def gcF (P : Nat) (z : Wd) (j p q : Nat) (mo : Int32) : Nat → Ta → Int32 → Ta
  | 0, A, _ => A
  | k + 1, A, x => if tI A 403 p ≤ x then A else gcF P z j p q mo k (gtF P z (ctA A p x mo) j (tN A 1 0) q) (x + mo)
theorem o_pieces (hz : PS P z) (hj : j < 8) (hn : 7 ≤ n) {p q mo : Nat} (hq : pl P z q) (hmo : 1 ≤ mo) (hmo2 : mo < 1000000) : ∀ (k : Nat) {w : Wd} {b : Be} {A : Ta} {x m : Nat}, Tm P T X z w b A → Ix A → Iy A → p < tN A 1 0 → (tI A 408 p = 0 ∨ tI A 408 p = 1) → (tI A 403 p).toInt ≤ x + k * mo → x < 2000000 → (tI A 403 p).toInt < 1000000 → tN A 1 0 + k ≤ X → tN A 3 0 + k ≤ X → k < m →
    ∃ v b', wd_lp7 (f_X9_goByPort_l51 n) m T (some (hA T j)) (some q) (some (b_pa b p)) (Int32.ofNat mo) (Int32.ofNat x) w = some v ∧ Tm P T X z v b' (gcF P z j p q (Int32.ofNat mo) k A (Int32.ofNat x)) ∧ Rl T w b v b' ∧ Ix (gcF P z j p q (Int32.ofNat mo) k A (Int32.ofNat x)) ∧ Iy (gcF P z j p q (Int32.ofNat mo) k A (Int32.ofNat x)) ∧
      tN (gcF P z j p q (Int32.ofNat mo) k A (Int32.ofNat x)) 1 0 ≤ tN A 1 0 + k ∧ tN (gcF P z j p q (Int32.ofNat mo) k A (Int32.ofNat x)) 3 0 ≤ tN A 3 0 + k := by
  intro k
  induction k with
  | zero =>
    intro w b A x m hT hI hJ hp h8 hs hx hs2 hX1 hX3 hm
    obtain ⟨m, rfl⟩ : ∃ k, m = k + 1 := ⟨m - 1, by omega⟩
    have h3 := (hT.2.2.2.1 p hp).1 403 (by omega) (by omega)
    refine ⟨w, b, ?_, hT, Rl.rf _ _ _, hI, hJ, Nat.le_refl _, Nat.le_refl _⟩
    rw [wd_lp7, f_X9_goByPort_l51, Option.bind_some, h3, if_pos (by rw [j_le, j_ti (by omega)]; omega)]
  | succ k ih =>
    intro w b A x m hT hI hJ hp h8 hs hx hs2 hX1 hX3 hm
    obtain ⟨m, rfl⟩ : ∃ k, m = k + 1 := ⟨m - 1, by omega⟩
    have h3 := (hT.2.2.2.1 p hp).1 403 (by omega) (by omega)
    have h905 := hT.2.2.1.1.2.2.1
    rw [wd_lp7, f_X9_goByPort_l51, Option.bind_some, h3, gcF]
    by_cases c : tI A 403 p ≤ Int32.ofNat x
    · rw [if_pos c, if_pos c]
      exact ⟨w, b, rfl, hT, Rl.rf _ _ _, hI, hJ, by omega, by omega⟩
    · rw [if_neg c, if_neg c, h905, Option.bind_some]
      rw [j_le, j_ti (by omega)] at c
      have hkm : (((k + 1 : Nat) : Int) * (mo : Int)) = (k : Int) * (mo : Int) + mo := by push_cast; rw [Int.add_mul, Int.one_mul]
      obtain ⟨u, v, b1, h1, h2, h4, h5⟩ := o_cut (n := n) hT hI hJ (by omega) hp h8 (Int32.ofNat x) (Int32.ofNat mo)
      have h4' : Tm P T X z v b1 (ctA A p (Int32.ofNat x) (Int32.ofNat mo)) := h4
      have hI2 : Ix (ctA A p (Int32.ofNat x) (Int32.ofNat mo)) := hI.ct
      have hJ2 : Iy (ctA A p (Int32.ofNat x) (Int32.ofNat mo)) := hJ.ct hp
      have e1 : tN (ctA A p (Int32.ofNat x) (Int32.ofNat mo)) 1 0 = tN A 1 0 + 1 := by rw [ct_N (by omega), if_neg (by omega), if_pos ⟨rfl, rfl⟩]
      have e3 : tN (ctA A p (Int32.ofNat x) (Int32.ofNat mo)) 3 0 = tN A 3 0 := by rw [ct_N (by omega), if_neg (by omega), if_neg (by omega)]
      have e5 : tN (ctA A p (Int32.ofNat x) (Int32.ofNat mo)) 5 (tN A 1 0) = 3 := by rw [ct_N (by omega), if_pos ⟨rfl, rfl⟩]
      have eI : ∀ g, tI (ctA A p (Int32.ofNat x) (Int32.ofNat mo)) g p = tI A g p := fun g => ct_I hp
      have hpa := h5.pa (hT.pn hp)
      generalize ctA A p (Int32.ofNat x) (Int32.ofNat mo) = B at *
      obtain ⟨y, b2, k1, k2, k3, k4, k5, k6⟩ := o_goToHop (n := n) (p := tN A 1 0) (q := q) h4' hI2 hz hj hn (by omega) (by omega) e5 hq
      obtain ⟨o1, o2, o3, o4, o5, o6, o7, o8, o9⟩ := gt_ok (P := P) (z := z) (q := q) hI2 hJ2 hj (p := tN A 1 0) (by omega) e5
      have o3' : ∀ g, tI (gtF P z B j (tN A 1 0) q) g p = tI A g p := fun g => by rw [o3]; exact eI g
      generalize gtF P z B j (tN A 1 0) q = C at *
      obtain ⟨v', b3, i1, i2, i3, i4, i5, i6, i7⟩ := ih (x := x + mo) (m := m) k2 o1 o2 (by omega) (by rw [o3']; exact h8) (by rw [o3']; rw [hkm] at hs; push_cast; omega) (by omega) (by rw [o3']; exact hs2) (by omega) (by omega) (by omega)
      rw [j_ad]
      refine ⟨v', b3, ?_, i2, (h5.tr k3).tr i3, i4, i5, by omega, by omega⟩
      rw [h1, wd_b2_s, Option.bind_some, h2, Option.bind_some, k1, Option.bind_some, wd_let, ← hpa, ← k4]
      exact i1
end BP
