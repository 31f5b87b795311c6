/-! ===== PURE: wrapped; to the hop ===== -/
section HO2
variable {P T X i j n : Nat} {z w u : Wd} {b : Be} {A A' : Ta}
def wrF (P : Nat) (z : Wd) (A : Ta) (i p : Nat) : Ta := uN (uN (uR (brA A 6 (soV P z i (fav P z i (hpv P z i (tI A 402 p)))) (fav P z i (hpv P z i (tI A 402 p))) (tI A 403 p + 4)) 410 (tN A 1 0) (some p)) 8 (tN A 901 0) p) 5 p (100 + tN A 901 0)
theorem o_wrap (hT : Tm P T X z w b A) (hI : Ix A) (hJ : Iy A) (hz : PS P z) (hi : i < 8) (hn : 5 ≤ n) (hX : tN A 1 0 + 1 ≤ X) {p : Nat} (hp : p < tN A 1 0) (hp3 : tN A 5 p = 3) :
    ∃ v b', f_X9_wrap n w T (some (mA P i)) (some (b_pa b p)) = some (some (b_pa b' (tN A 1 0)), v) ∧ Tm P T X z v b' (wrF P z A i p) ∧ Rl T w b v b' := by
  have hk := (hT.2.2.2.1 p hp).1
  have hw := hT.1
  unfold wrF
  obtain ⟨v, b', h1, h2, h3⟩ := o_bear (n := n) hT hI hJ hX 6 (soV P z i (fav P z i (hpv P z i (tI A 402 p)))) (fav P z i (hpv P z i (tI A 402 p))) (tI A 403 p + 4)
  have hb : tN A 1 0 < tN (brA A 6 (soV P z i (fav P z i (hpv P z i (tI A 402 p)))) (fav P z i (hpv P z i (tI A 402 p))) (tI A 403 p + 4)) 1 0 := br_np
  have h5 : tN (brA A 6 (soV P z i (fav P z i (hpv P z i (tI A 402 p)))) (fav P z i (hpv P z i (tI A 402 p))) (tI A 403 p + 4)) 5 p = 3 := by
    unfold brA
    rw [tN_uN, if_neg (by omega), tN_uN, if_neg (by omega), tN_uN, if_neg (by omega), tN_uN, if_neg (by omega)]
    exact hp3
  generalize brA A 6 (soV P z i (fav P z i (hpv P z i (tI A 402 p)))) (fav P z i (hpv P z i (tI A 402 p))) (tI A 403 p + 4) = B at *
  obtain ⟨k1, k2⟩ := o_ins h2 (p := tN A 1 0) (c := p) hb
  refine ⟨_, b', ?_, (k1.g8 (tN A 901 0) p).tag (by rw [tN_uN, if_neg (by omega), tN_uR]; omega), h3.tr k2⟩
  rw [f_X9_wrap, Option.bind_some, Option.bind_some, hk 402 (by omega) (by omega), p_hopTo hz hw hi, wd_b2_s, p_farOf hz hw hi, wd_b2_s, p_sourceFor hz hw hi hn, wd_b2_s, hk 403 (by omega) (by omega), h1, wd_b2_s, Option.bind_some, wd_let, h3.pa (hT.pn hp)]
/-- where it is to wait, noted at a packet in the hand -/
theorem o_mark (hT : Tm P T X z w b A) (hI : Ix A) {p q : Nat} {x : Int32} (hp : p < tN A 1 0) (hp3 : tN A 5 p = 3) :
    Tm P T X z (wd_sR (wd_sI w 411 (b_pa b p) x) 412 (b_pa b p) (some q)) b A ∧ Rl T w b (wd_sR (wd_sI w 411 (b_pa b p) x) 412 (b_pa b p) (some q)) b := by
  have hD : Dm T b (b_pa b p) := dm_p (hT.pn hp)
  have h0 : (0 : Nat) < 8 := by omega
  have hne : ∀ r, r < tN A 1 0 → tN A 5 r ≠ 3 → b_pa b r ≠ b_pa b p := fun r hr h3 => hT.inj hr hp (fun e => h3 (e ▸ hp3))
  obtain ⟨s1, s2, s3, s4, s5⟩ := hT.2.2.2.2.2.2 0 h0
  refine host_op2 (j := 0) (w' := wd_sR (wd_sI w 411 (b_pa b p) x) 412 (b_pa b p) (some q)) (A' := A) hT hI (b_kh b) (fun _ _ => rfl) h0 (ah.sR hD (Or.inr ⟨by omega, by omega⟩) (ah.sI hD (Or.inr ⟨by omega, by omega⟩) ah.rf)) ⟨rfl, rfl, rfl, fun _ _ _ => rfl, fun _ _ => ⟨rfl, rfl, fun _ => rfl, rfl, rfl⟩⟩ (fun r hr r3 _ _ => ?_) ⟨s1, s2, ⟨s3.1, s3.2.1, s3.2.2.1, fun e he => ?_⟩, s4, s5⟩
  · have := hne r hr r3
    exact ⟨by rw [i_sR, i_sI, if_neg (fun c => this c.2)], by rw [r_sR, if_neg (fun c => this c.2), r_sI], by rw [r_sR, if_neg (fun c => this c.2), r_sI]⟩
  · have h1 := (hI.1 0 h0).1 e he
    have := hne e.1 h1.1 (by rw [h1.2]; omega)
    show wd_I (wd_sR (wd_sI w 411 (b_pa b p) x) 412 (b_pa b p) (some q)) 411 (b_pa b e.1) = _ ∧ wd_R (wd_sR (wd_sI w 411 (b_pa b p) x) 412 (b_pa b p) (some q)) 412 (b_pa b e.1) = _
    rw [i_sR, i_sI, if_neg (fun c => this c.2), r_sR, if_neg (fun c => this c.2), r_sI]; exact s3.2.2.2 e he
/-- behind putting to wait -/
def pxA (A : Ta) (j : Nat) (e : Nat × Int32 × Nat) : Ta := uN (pwA A j e) 5 e.1 (10 + j)
theorem pwA_o {e : Nat × Int32 × Nat} : tI (pwA A j e) = tI A ∧ tR (pwA A j e) = tR A ∧ tK (pwA A j e) = tK A ∧ tM (pwA A j e) = tM A ∧ tO (pwA A j e) = tO A ∧ tF (pwA A j e) = tF A ∧ (∀ g x, g ≠ 204 → tN (pwA A j e) g x = tN A g x) ∧ (∀ i, i ≠ j → tW (pwA A j e) i = tW A i) ∧
    tW (pwA A j e) j = (if (tW A j).length < 6 then tW A j else (tW A j).tail) ++ [e] := by
  unfold pwA
  by_cases c : (tW A j).length < 6
  · rw [if_pos c, if_pos c]
    exact ⟨rfl, rfl, rfl, rfl, rfl, rfl, fun _ _ _ => rfl, fun i hi => by rw [tW_uW, if_neg hi], by rw [tW_uW, if_pos rfl]⟩
  · rw [if_neg c, if_neg c]
    exact ⟨rfl, rfl, rfl, rfl, rfl, rfl, fun g x hg => by rw [tN_uW, tN_uN, if_neg (fun q => hg q.1), tN_uW], fun i hi => by rw [tW_uW, if_neg hi, tW_uN, tW_uW, if_neg hi], by rw [tW_uW, if_pos rfl]⟩
theorem px_N {e : Nat × Int32 × Nat} {g x : Nat} (hg : g ≠ 204) (h : g ≠ 5 ∨ x ≠ e.1) : tN (pxA A j e) g x = tN A g x := by
  unfold pxA
  rw [tN_uN, if_neg (fun q => h.elim (fun h => h q.1) (fun h => h q.2))]
  exact pwA_o.2.2.2.2.2.2.1 g x hg
theorem Ix.px (hI : Ix A) (hj : j < 8) {e : Nat × Int32 × Nat} (hp : e.1 < tN A 1 0) (hp3 : tN A 5 e.1 = 3) : Ix (pxA A j e) := by
  obtain ⟨o1, o2, o3, o4, o5, o6, o7, o8, o9⟩ := pwA_o (A := A) (j := j) (e := e)
  have h1 : tN (pxA A j e) 1 0 = tN A 1 0 := px_N (by omega) (Or.inl (by omega))
  have hpe : tN (pxA A j e) 5 e.1 = 10 + j := by
    unfold pxA
    rw [tN_uN, if_pos ⟨rfl, rfl⟩]
  have hold : ∀ c, tN A 5 c ≠ 3 → tN (pxA A j e) 5 c = tN A 5 c := fun c hc => px_N (by omega) (Or.inr (fun q => hc (by rw [q]; exact hp3)))
  refine ⟨fun i hi => ?_, fun i hi f hf => ?_⟩
  · rw [h1]
    by_cases c : i = j
    · subst c
      have hw : tW (pxA A i e) i = (if (tW A i).length < 6 then tW A i else (tW A i).tail) ++ [e] := o9
      rw [hw]
      obtain ⟨g1, g2, g3⟩ := hI.1 i hi
      have hsub : ∀ f, f ∈ (if (tW A i).length < 6 then tW A i else (tW A i).tail) → f ∈ tW A i := fun f hf => by
        split at hf
        · exact hf
        · exact List.mem_of_mem_tail hf
      have hnd : ((if (tW A i).length < 6 then tW A i else (tW A i).tail).map fun e => e.1).Nodup := by
        split
        · exact g2
        · rw [List.map_tail]
          exact g2.tail
      have hlen : (if (tW A i).length < 6 then tW A i else (tW A i).tail).length ≤ 5 := by
        split
        · omega
        · rw [List.length_tail]; omega
      refine ⟨fun f hf => ?_, ?_, ?_⟩
      · rcases List.mem_append.mp hf with hf | hf
        · have := g1 f (hsub f hf)
          exact ⟨this.1, by rw [hold f.1 (by rw [this.2]; omega)]; exact this.2⟩
        · rw [List.mem_singleton.mp hf]; exact ⟨hp, hpe⟩
      · rw [List.map_append, List.nodup_append]
        refine ⟨hnd, List.nodup_cons.mpr ⟨List.not_mem_nil, List.nodup_nil⟩, fun a ha c hc => ?_⟩
        obtain ⟨f, hf, rfl⟩ := List.mem_map.mp ha
        have := g1 f (hsub f hf)
        rw [List.mem_singleton.mp hc]
        intro q
        rw [q, hp3] at this
        omega
      · rw [List.length_append]
        simp
        omega
    · rw [show tW (pxA A j e) i = tW A i from o8 i c]
      obtain ⟨g1, g2, g3⟩ := hI.1 i hi
      exact ⟨fun f hf => ⟨(g1 f hf).1, by rw [hold f.1 (by rw [(g1 f hf).2]; omega)]; exact (g1 f hf).2⟩, g2, g3⟩
  · rw [h1]
    rw [show tK (pxA A j e) i = tK A i from congrFun o3 i] at hf
    obtain ⟨g1, g2⟩ := hI.2 i hi f hf
    exact ⟨fun c hc => ⟨(g1 c hc).1, by rw [hold c (by rw [(g1 c hc).2]; omega)]; exact (g1 c hc).2⟩, g2⟩
def adF (z : Wd) (A : Ta) (q : Nat) (so to ad : Int32) (o : Option Nat) : Ta := uF (uN A 3 0 (tN A 3 0 + 1)) (tF A ++ [(fv (wd_I z 701 q) (wd_I z 700 q) to so ad, o)])
/-- to the hop: at once, or to wait, and a question where it is the first -/
def gtG (P : Nat) (z : Wd) (A : Ta) (j p q : Nat) (x : Int32) : Ta :=
  if kmv A j x < 0 then (if cwv (tW (pxA A j (p, x, q)) j) x = 1 then adF z (pxA A j (p, x, q)) q 1 (-1) x none else pxA A j (p, x, q))
  else uN (adF z A q 0 (kmv A j x) (-1) (some p)) 5 p 1
def gtF (P : Nat) (z : Wd) (A : Ta) (j p q : Nat) : Ta := gtG P z A j p q (hpv P z j (tI A 402 p))
theorem o_goToHop (hT : Tm P T X z w b A) (hI : Ix A) (hz : PS P z) (hj : j < 8) (hn : 7 ≤ n) (hX : tN A 3 0 + 1 ≤ X) {p q : Nat} (hp : p < tN A 1 0) (hp3 : tN A 5 p = 3) (hq : pl P z q) :
    ∃ v b', f_X9_goToHop n w T (some (hA T j)) (some q) (some (b_pa b p)) = some v ∧ Tm P T X z v b' (gtF P z A j p q) ∧ Rl T w b v b' ∧ b_pa b' = b_pa b ∧ b_pn b' = b_pn b ∧ b_fh b' = b_fh b := by
  have hk := (hT.2.2.2.1 p hp).1
  have s1 := (hT.2.2.2.2.2.2 j hj).1
  have h900 := hT.2.2.1.1.1
  unfold f_X9_goToHop gtF
  rw [Option.bind_some, Option.bind_some, s1.1, Option.bind_some, hk 402 (by omega) (by omega), p_hopTo hz hT.1 hj, wd_b2_s, o_knownMark hT hj, wd_b2_s]
  generalize hpv P z j (tI A 402 p) = x
  unfold gtG
  by_cases c : kmv A j x < 0
  · rw [if_pos c, if_pos c, wd_let, wd_let]
    obtain ⟨m1, m2⟩ := o_mark (q := q) (x := x) hT hI hp hp3
    have e411 : wd_I (wd_sR (wd_sI w 411 (b_pa b p) x) 412 (b_pa b p) (some q)) 411 (b_pa b p) = x := by rw [i_sR, i_sI, if_pos ⟨rfl, rfl⟩]
    have e412 : wd_R (wd_sR (wd_sI w 411 (b_pa b p) x) 412 (b_pa b p) (some q)) 412 (b_pa b p) = some q := by rw [r_sR, if_pos ⟨rfl, rfl⟩]
    obtain ⟨v, k1, k2, k3, -, -⟩ := o_putToWait (n := n) m1 hI hj hp hp3 e411 e412
    have k4 : Tm P T X z v b (pxA A j (p, x, q)) := k2.tag (p := p) (by rw [pwA_o.2.2.2.2.2.2.1 5 _ (by omega)]; omega)
    have hI2 : Ix (pxA A j (p, x, q)) := hI.px hj hp hp3
    have hN3 : tN (pxA A j (p, x, q)) 3 0 = tN A 3 0 := px_N (by omega) (Or.inl (by omega))
    have h902 := k4.2.2.1.1.1
    generalize pxA A j (p, x, q) = B at *
    rw [k1, Option.bind_some, o_countWaitingFor k4 hI2 hj hn, wd_b2_s]
    have hle := (hI2.1 j hj).2.2
    have hcl : cwv (tW B j) x ≤ 6 := Nat.le_trans (List.length_filter_le _ _) hle
    by_cases d : cwv (tW B j) x = 1
    · rw [if_pos (by rw [d]; rfl), if_pos d, h902, Option.bind_some]
      obtain ⟨y, b', g1, g2, g3, g4, g5, g6⟩ := o_add (n := n) k4 hI2 (by omega) hq rfl rfl 1 (-1) x none
      refine ⟨y, b', ?_, g2, (m2.tr k3).tr g3, g4, g5, g6⟩
      rw [show f_X8_add n v (T + 1) 1 (some q) (-1) x none = some y from g1, Option.bind_some]
    · rw [if_neg (by rw [show (1 : Int32) = Int32.ofNat 1 from rfl, j_ee (by omega) (by omega)]; exact d), if_neg d]
      exact ⟨v, b, rfl, k4, m2.tr k3, rfl, rfl, rfl⟩
  · rw [if_neg c, if_neg c, h900, Option.bind_some]
    obtain ⟨y, b', g1, g2, g3, g4, g5, g6⟩ := o_add (n := n) hT hI hX hq rfl rfl 0 (kmv A j x) (-1) (some p)
    refine ⟨y, b', ?_, g2.tag (by show tN (adF z A q 0 (kmv A j x) (-1) (some p)) 5 p ≠ 4; rw [show tN (adF z A q 0 (kmv A j x) (-1) (some p)) 5 p = tN A 5 p from rfl]; omega), g3, g4, g5, g6⟩
    rw [show f_X8_add n w (T + 1) 0 (some q) (kmv A j x) (-1) (some (b_pa b p)) = some y from g1, Option.bind_some]
end HO2
