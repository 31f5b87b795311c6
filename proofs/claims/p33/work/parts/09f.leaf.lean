/-! ===== PURE: leaves of a host ===== -/
/-- where packets are: 10 + i waits at i, 20 + i is kept at i; 3 in hand, 2 wrapped in, 1 in a frame, 0 nowhere -/
def Ix (A : Ta) : Prop :=
  (∀ i, i < 8 → (∀ e, e ∈ tW A i → e.1 < tN A 1 0 ∧ tN A 5 e.1 = 10 + i) ∧ ((tW A i).map fun e => e.1).Nodup ∧ (tW A i).length ≤ 6) ∧
  (∀ i, i < 8 → ∀ e, e ∈ tK A i → (∀ p, p ∈ e.2.2 → p < tN A 1 0 ∧ tN A 5 p = 20 + i) ∧ e.2.2.Nodup)
section LF
variable {P T X j n : Nat} {z w w' : Wd} {b : Be} {A A' : Ta}
theorem Tm.pn (h : Tm P T X z w b A) {i : Nat} (hi : i < tN A 1 0) : i < b_pn b := Nat.lt_of_lt_of_le hi h.2.2.2.2.1.1
/-- a change of the host j alone, by where packets are -/
theorem host_op2 (hT : Tm P T X z w b A) (hI : Ix A) (kk : Nat → Nat → Nat) (hkk : ∀ i, i ≠ j → kk i = b_kh b i) (hj : j < 8) (hh : ah T b (hA T j) w w')
    (hE : tI A' = tI A ∧ tR A' = tR A ∧ tF A' = tF A ∧ (∀ g x, g ≠ 204 → tN A' g x = tN A g x) ∧ ∀ i, i ≠ j → tW A' i = tW A i ∧ tK A' i = tK A i ∧ (∀ x, tM A' i x = tM A i x) ∧ tO A' i = tO A i ∧ tN A' 204 i = tN A 204 i)
    (hq : ∀ q, q < tN A 1 0 → tN A 5 q ≠ 3 → tN A 5 q ≠ 10 + j → tN A 5 q ≠ 20 + j → wd_I w' 411 (b_pa b q) = wd_I w 411 (b_pa b q) ∧ wd_R w' 412 (b_pa b q) = wd_R w 412 (b_pa b q) ∧ wd_R w' 413 (b_pa b q) = wd_R w 413 (b_pa b q))
    (h5 : Sg w' P (hA T j) j (v_kh b kk) A') : Tm P T X z w' (v_kh b kk) A' ∧ Rl T w b w' (v_kh b kk) :=
  host_op hT kk hkk hj hh hE (fun i hi hij e he => hq _ ((hI.1 i hi).1 e he).1 (by rw [((hI.1 i hi).1 e he).2]; omega) (by rw [((hI.1 i hi).1 e he).2]; omega) (by rw [((hI.1 i hi).1 e he).2]; omega))
    (fun i hi hij e he p hp => (hq _ (((hI.2 i hi e he).1 p hp).1) (by rw [((hI.2 i hi e he).1 p hp).2]; omega) (by rw [((hI.2 i hi e he).1 p hp).2]; omega) (by rw [((hI.2 i hi e he).1 p hp).2]; omega)).2.2) (fun q hq1 hq4 => hq q hq1 (by omega) (by omega) (by omega)) h5
theorem o_gone (hT : Tm P T X z w b A) (hj : j < 8) :
    Tm P T X z (wd_sI w 204 (hA T j) (wd_I w 204 (hA T j) + (1 : Int32))) b (uN A 204 j (tN A 204 j + 1)) ∧ Rl T w b (wd_sI w 204 (hA T j) (wd_I w 204 (hA T j) + (1 : Int32))) b := by
  obtain ⟨s1, s2, s3, s4, s5⟩ := hT.2.2.2.2.2.2 j hj
  refine host_op (w' := wd_sI w 204 (hA T j) (wd_I w 204 (hA T j) + (1 : Int32))) (A' := uN A 204 j (tN A 204 j + 1)) hT (b_kh b) (fun _ _ => rfl) hj (ah.sI (dm_h0 hj) (Or.inl ⟨by omega, by omega⟩) ah.rf) ⟨rfl, rfl, rfl, fun g x hg => ?_, fun i hi => ⟨rfl, rfl, fun _ => rfl, rfl, ?_⟩⟩ (fun _ _ _ _ _ => ⟨rfl, rfl, rfl⟩) (fun _ _ _ _ _ _ _ => rfl) (fun _ _ _ => ⟨rfl, rfl, rfl⟩) ⟨s1, ⟨s2.1, ?_⟩, s3, s4, s5⟩
  · rw [tN_uN, if_neg (fun q => hg q.1)]
  · rw [tN_uN, if_neg (fun q => hi q.2)]
  · rw [i_sI, if_pos ⟨rfl, rfl⟩, tN_uN, if_pos ⟨rfl, rfl⟩, s2.2, j_a1, Nat.add_assoc]; rfl
def kmv (A : Ta) (j : Nat) (x : Int32) : Int32 := if x < 0 then -1 else if Int32.ofNat 256 ≤ x then -1 else tM A j x.toNatClampNeg
theorem o_knownMark (hT : Tm P T X z w b A) (hj : j < 8) (x : Int32) : f_X2_knownMark n w (hA T j) x = some (kmv A j x, w) := by
  obtain ⟨s1, s2, -⟩ := hT.2.2.2.2.2.2 j hj
  unfold f_X2_knownMark f_X2_knownMark_j20 kmv
  by_cases c1 : x < 0
  · rw [if_pos c1, if_pos c1]
  rw [if_neg c1, if_neg c1]
  by_cases c2 : (256 : Int32) ≤ x
  · rw [if_pos c2, if_pos (show Int32.ofNat 256 ≤ x from c2)]
  rw [if_neg c2, if_neg (show ¬ Int32.ofNat 256 ≤ x from c2)]
  obtain ⟨k, hk, rfl⟩ := j_up (N := 256) c1 (by omega) c2
  rw [s1.2.1, Option.bind, j_gd (by rw [s1.2.2.2.2.1]; exact j_in hk (by omega)), j_nn (by omega), s2.1 k hk]
theorem o_learn (hT : Tm P T X z w b A) (hj : j < 8) {k : Nat} (hk : k < 256) (v : Int32) :
    ∃ w', f_X2_learn n w (hA T j) (Int32.ofNat k) v = some w' ∧ Tm P T X z w' b (uM A j k v) ∧ Rl T w b w' b := by
  obtain ⟨s1, s2, s3, s4, s5⟩ := hT.2.2.2.2.2.2 j hj
  refine ⟨wd_sA w (hA T j + 1) k v, ?_, host_op (w' := wd_sA w (hA T j + 1) k v) (A' := uM A j k v) hT (b_kh b) (fun _ _ => rfl) hj (ah.sA (dm_h hj (by omega)) ⟨by omega, by omega⟩ ah.rf) ⟨rfl, rfl, rfl, fun g x hg => rfl, fun i hi => ⟨rfl, rfl, fun x => ?_, rfl, rfl⟩⟩ (fun _ _ _ _ _ => ⟨rfl, rfl, rfl⟩) (fun _ _ _ _ _ _ _ => rfl) (fun _ _ _ => ⟨rfl, rfl, rfl⟩) ⟨s1, ⟨fun x hx => ?_, s2.2⟩, s3, s4, s5.1, s5.2.1, fun m f hm hf x hx => ?_⟩⟩
  · unfold f_X2_learn
    rw [if_neg (j_n0 (by omega)), if_neg (by rw [show (256 : Int32) = Int32.ofNat 256 from rfl, j_ll (by omega) (by omega)]; omega), s1.2.1, Option.bind, j_gd (by rw [s1.2.2.2.2.1]; exact j_in hk (by omega)), j_nn (by omega)]; rfl
  · rw [tM_uM, if_neg (fun q => hi q.1)]
  · rw [a_sA, tM_uM]
    by_cases c : x = k
    · rw [if_pos ⟨rfl, c⟩, if_pos ⟨rfl, c⟩]
    · rw [if_neg (fun q => c q.2), if_neg (fun q => c q.2)]; exact s2.1 x hx
  · rw [a_sA, if_neg (by omega)]; exact s5.2.2 m f hm hf x hx
theorem o_takeWaiting (hT : Tm P T X z w b A) (hj : j < 8) :
    ∃ v w', f_X2_takeWaiting n w (hA T j) = some (v, w') ∧ Tm P T X z w' b (uW A j []) ∧ Rl T w b w' b ∧ ls_c (wd_R w' 413) v ((tW A j).map fun e => b_pa b e.1) ∧ ∀ e, e ∈ tW A j → wd_I w' 411 (b_pa b e.1) = e.2.1 ∧ wd_R w' 412 (b_pa b e.1) = some e.2.2 := by
  obtain ⟨s1, s2, s3, s4, s5⟩ := hT.2.2.2.2.2.2 j hj
  have H : Tm P T X z (wd_sI (wd_sR (wd_sR w 206 (hA T j) none) 207 (hA T j) none) 201 (hA T j) 0) b (uW A j []) ∧ Rl T w b (wd_sI (wd_sR (wd_sR w 206 (hA T j) none) 207 (hA T j) none) 201 (hA T j) 0) b := by
    refine host_op (w' := wd_sI (wd_sR (wd_sR w 206 (hA T j) none) 207 (hA T j) none) 201 (hA T j) 0) (A' := uW A j []) hT (b_kh b) (fun _ _ => rfl) hj (ah.sI (dm_h0 hj) (Or.inl ⟨by omega, by omega⟩) (ah.sR (dm_h0 hj) (Or.inl ⟨by omega, by omega⟩) (ah.sR (dm_h0 hj) (Or.inl ⟨by omega, by omega⟩) ah.rf))) ⟨rfl, rfl, rfl, fun g x hg => rfl, fun i hi => ⟨?_, rfl, fun x => rfl, rfl, rfl⟩⟩ (fun _ _ _ _ _ => ⟨rfl, rfl, rfl⟩) (fun _ _ _ _ _ _ _ => rfl) (fun _ _ _ => ⟨rfl, rfl, rfl⟩) ⟨s1, s2, ⟨?_, ?_, ?_, ?_⟩, s4, s5⟩
    · rw [tW_uW, if_neg hi]
    · rw [tW_uW, if_pos rfl, i_sI, if_pos ⟨rfl, rfl⟩]; rfl
    · rw [tW_uW, if_pos rfl, r_sI, r_sR, if_neg (by omega), r_sR, if_pos ⟨rfl, rfl⟩]; rfl
    · rw [tW_uW, if_pos rfl, r_sI, r_sR, if_pos ⟨rfl, rfl⟩]; rfl
    · rw [tW_uW, if_pos rfl]; exact fun e he => absurd he List.not_mem_nil
  exact ⟨wd_R w 206 (hA T j), _, rfl, H.1, H.2, s3.2.1, s3.2.2.2⟩
def cwv (l : List (Nat × Int32 × Nat)) (x : Int32) : Nat := (l.filter fun e => decide (e.2.1 = x)).length
theorem o_countWaitingFor (hT : Tm P T X z w b A) (hI : Ix A) (hj : j < 8) (hn : 7 ≤ n) (x : Int32) : f_X2_countWaitingFor n w (hA T j) x = some (Int32.ofNat (cwv (tW A j) x), w) := by
  obtain ⟨s1, s2, s3, -⟩ := hT.2.2.2.2.2.2 j hj
  have hl := (hI.1 j hj).2.2
  unfold f_X2_countWaitingFor wd_let
  have key : ∀ (l : List (Nat × Int32 × Nat)) (o : Option Nat) (m c : Nat), ls_c (wd_R w 413) o (l.map fun e => b_pa b e.1) → (∀ e, e ∈ l → wd_I w 411 (b_pa b e.1) = e.2.1) → l.length < m →
      wd_lp4 (f_X2_countWaitingFor_l7 n) m x (Int32.ofNat c) o w = some (Int32.ofNat (c + cwv l x), w) := by
    intro l
    induction l with
    | nil =>
      intro o m c ho _ hm
      obtain ⟨m, rfl⟩ : ∃ k, m = k + 1 := ⟨m - 1, by simp at hm; omega⟩
      have : o = none := ho
      subst this
      rfl
    | cons e l ih =>
      intro o m c ho he hm
      obtain ⟨m, rfl⟩ : ∃ k, m = k + 1 := ⟨m - 1, by simp at hm; omega⟩
      have ho1 : o = some (b_pa b e.1) := ho.1
      subst ho1
      rw [wd_lp4, f_X2_countWaitingFor_l7, wd_on, he e (List.mem_cons_self ..)]
      have hm2 : l.length < m := by simp at hm; omega
      simp only [f_X2_countWaitingFor_j22, wd_let, Option.bind_some]
      rw [j_a1, ih _ m (c + 1) ho.2 (fun f hf => he f (List.mem_cons_of_mem _ hf)) hm2, ih _ m c ho.2 (fun f hf => he f (List.mem_cons_of_mem _ hf)) hm2]
      unfold cwv
      by_cases q : e.2.1 = x
      · rw [if_pos q, List.filter_cons_of_pos (by simpa using q), List.length_cons]; congr 3; omega
      · rw [if_neg q, List.filter_cons_of_neg (by simpa using q)]
  show wd_lp4 (f_X2_countWaitingFor_l7 n) n x (Int32.ofNat 0) (wd_R w 206 (hA T j)) w = _
  rw [key (tW A j) _ n 0 s3.2.1 (fun e he => (s3.2.2.2 e he).1) (by omega), Nat.zero_add]
end LF
