/-! ===== PURE: what waits ===== -/
section WT
variable {P T X j n : Nat} {z w w' : Wd} {b : Be} {A A' : Ta}
theorem Tm.inj (h : Tm P T X z w b A) {p q : Nat} (hp : p < tN A 1 0) (hq : q < tN A 1 0) (hne : p ≠ q) : b_pa b p ≠ b_pa b q :=
  fun e => hne (h.2.1.2.2.2.1 p q (h.pn hp) (h.pn hq) e)
theorem Tm.hi (h : Tm P T X z w b A) {p : Nat} (hp : p < tN A 1 0) (hj : j < 8) : hA T j + 7 ≤ b_pa b p := by
  have := h.2.1.2.1 p (h.pn hp)
  unfold hA
  omega
theorem o_put23 (hT : Tm P T X z w b A) (hI : Ix A) (hj : j < 8) (h6 : (tW A j).length < 6) {p q : Nat} {x : Int32} (hp : p < tN A 1 0) (hp3 : tN A 5 p = 3) (hx : wd_I w 411 (b_pa b p) = x) (hq : wd_R w 412 (b_pa b p) = some q) :
    ∃ w', f_X2_putToWait_j23 n (hA T j) (some (b_pa b p)) w = some w' ∧ Tm P T X z w' b (uW A j (tW A j ++ [(p, x, q)])) ∧ Rl T w b w' b ∧ (∀ r, r < tN A 1 0 → r ≠ p → tN A 5 r ≠ 10 + j → wd_R w' 413 (b_pa b r) = wd_R w 413 (b_pa b r)) ∧ (∀ a, wd_I w' 411 a = wd_I w 411 a ∧ wd_R w' 412 a = wd_R w 412 a) := by
  obtain ⟨s1, s2, s3, s4, s5⟩ := hT.2.2.2.2.2.2 j hj
  have hD : Dm T b (b_pa b p) := dm_p (hT.pn hp)
  have hgt := hT.hi hp hj
  have hne : ∀ e, e ∈ tW A j → b_pa b e.1 ≠ b_pa b p := fun e he => hT.inj ((hI.1 j hj).1 e he).1 hp (fun c => by have := ((hI.1 j hj).1 e he).2; rw [c] at this; omega)
  have hne2 : ∀ r, r < tN A 1 0 → r ≠ p → b_pa b r ≠ b_pa b p := fun r hr c => hT.inj hr hp c
  have hkk : ∀ e, e ∈ tK A j → ∀ r, r ∈ e.2.2 → r < tN A 1 0 ∧ r ≠ p ∧ tN A 5 r ≠ 10 + j := fun e he r hr => ⟨((hI.2 j hj e he).1 r hr).1, fun c => by have := ((hI.2 j hj e he).1 r hr).2; rw [c] at this; omega, by rw [((hI.2 j hj e he).1 r hr).2]; omega⟩
  -- the end of both ways
  have fin : ∀ u : Wd, ah T b (hA T j) w u → (∀ r, r < tN A 1 0 → r ≠ p → tN A 5 r ≠ 10 + j → wd_R u 413 (b_pa b r) = wd_R w 413 (b_pa b r)) → (∀ a, wd_I u 411 a = wd_I w 411 a ∧ wd_R u 412 a = wd_R w 412 a) →
      wd_I u = wd_I w → wd_A u = wd_A w → wd_Q u = wd_Q w → (∀ g a, g ≠ 413 → g ≠ 206 → wd_R u g a = wd_R w g a) → ls_c (wd_R u 413) (wd_R u 206 (hA T j)) ((tW A j ++ [(p, x, q)]).map fun e => b_pa b e.1) →
      ∃ w', f_X2_putToWait_j51 n (hA T j) (some (b_pa b p)) u = some w' ∧ Tm P T X z w' b (uW A j (tW A j ++ [(p, x, q)])) ∧ Rl T w b w' b ∧ (∀ r, r < tN A 1 0 → r ≠ p → tN A 5 r ≠ 10 + j → wd_R w' 413 (b_pa b r) = wd_R w 413 (b_pa b r)) ∧ (∀ a, wd_I w' 411 a = wd_I w 411 a ∧ wd_R w' 412 a = wd_R w 412 a) := by
    intro u u1 u2 u3 u4 u5 u6 u7 u8
    have H : Tm P T X z (wd_sI (wd_sR u 207 (hA T j) (some (b_pa b p))) 201 (hA T j) (wd_I u 201 (hA T j) + 1)) b (uW A j (tW A j ++ [(p, x, q)])) ∧ Rl T w b (wd_sI (wd_sR u 207 (hA T j) (some (b_pa b p))) 201 (hA T j) (wd_I u 201 (hA T j) + 1)) b := by
      refine host_op2 (w' := wd_sI (wd_sR u 207 (hA T j) (some (b_pa b p))) 201 (hA T j) (wd_I u 201 (hA T j) + 1)) (A' := uW A j (tW A j ++ [(p, x, q)])) hT hI (b_kh b) (fun _ _ => rfl) hj (ah.sI (dm_h0 hj) (Or.inl ⟨by omega, by omega⟩) (ah.sR (dm_h0 hj) (Or.inl ⟨by omega, by omega⟩) u1)) ⟨rfl, rfl, rfl, fun g x hg => rfl, fun i hi => ⟨?_, rfl, fun x => rfl, rfl, rfl⟩⟩ (fun r hr r3 r1 r2 => ⟨(u3 _).1, (u3 _).2, u2 r hr (fun c => r3 (c ▸ hp3)) r1⟩) ⟨?_, ⟨?_, ?_⟩, ⟨?_, ?_, ?_, ?_⟩, ⟨?_, s4.2.1, ?_, s4.2.2.2.1, ?_⟩, ⟨?_, s5.2.1, ?_⟩⟩
      · rw [tW_uW, if_neg hi]
      · refine ⟨?_, ?_, ?_, ?_, ?_, ?_, ?_⟩
        · rw [r_sI, r_sR, if_neg (by omega), u7 _ _ (by omega) (by omega)]; exact s1.1
        · rw [r_sI, r_sR, if_neg (by omega), u7 _ _ (by omega) (by omega)]; exact s1.2.1
        · rw [r_sI, r_sR, if_neg (by omega), u7 _ _ (by omega) (by omega)]; exact s1.2.2.1
        · rw [r_sI, r_sR, if_neg (by omega), u7 _ _ (by omega) (by omega)]; exact s1.2.2.2.1
        · rw [n_sI, n_sR, u1.2.1]; exact s1.2.2.2.2.1
        · rw [n_sI, n_sR, u1.2.1]; exact s1.2.2.2.2.2.1
        · rw [n_sI, n_sR, u1.2.1]; exact s1.2.2.2.2.2.2
      · rw [a_sI, a_sR, u5]; exact s2.1
      · rw [i_sI, if_neg (by omega), i_sR, u4]; exact s2.2
      · rw [i_sI, if_pos ⟨rfl, rfl⟩, u4, s3.1, tW_uW, if_pos rfl, List.length_append, j_a1]; rfl
      · rw [tW_uW, if_pos rfl]
        show ls_c (wd_R u 413) (wd_R u 206 (hA T j)) _
        exact u8
      · rw [tW_uW, if_pos rfl, r_sI, r_sR, if_pos ⟨rfl, rfl⟩, List.map_append, List.getLast?_append]; rfl
      · rw [tW_uW, if_pos rfl]
        intro e he
        show wd_I (wd_sI (wd_sR u 207 (hA T j) _) 201 (hA T j) _) 411 (b_pa b e.1) = _ ∧ wd_R (wd_sI (wd_sR u 207 (hA T j) _) 201 (hA T j) _) 412 (b_pa b e.1) = _
        rw [i_sI, if_neg (by omega), i_sR, r_sI, r_sR, if_neg (by omega), (u3 _).1, (u3 _).2]
        rcases List.mem_append.mp he with he | he
        · exact s3.2.2.2 e he
        · rw [List.mem_singleton.mp he]; exact ⟨hx, hq⟩
      · rw [i_sI, if_neg (by omega), i_sR, u4]; exact s4.1
      · rw [q_sI, q_sR, u6]; exact s4.2.2.1
      · intro k e he
        have he2 : (tK A j)[k]? = some e := he
        have r := s4.2.2.2.2 k e he2
        have hm : e ∈ tK A j := List.mem_of_getElem? he2
        refine ⟨?_, ?_, ?_⟩
        · rw [i_sI, if_neg (by omega), i_sR, u4]; exact r.1
        · rw [i_sI, if_neg (by omega), i_sR, u4]; exact r.2.1
        · rw [show wd_R (wd_sI (wd_sR u 207 (hA T j) (some (b_pa b p))) 201 (hA T j) (wd_I u 201 (hA T j) + 1)) 102 (b_kh (v_kh b (b_kh b)) j k) = wd_R u 102 (b_kh b j k) from rfl, u7 _ _ (by omega) (by omega)]
          refine ls_cong (fun a ha => ?_) r.2.2
          obtain ⟨r, hr, rfl⟩ := List.mem_map.mp ha
          obtain ⟨r1, r2, r3⟩ := hkk e hm r hr
          exact u2 r r1 r2 r3
      · rw [i_sI, if_neg (by omega), i_sR, u4]; exact s5.1
      · rw [a_sI, a_sR, u5]; exact s5.2.2
    exact ⟨_, rfl, H.1, H.2, fun r r1 r2 r3 => u2 r r1 r2 r3, fun a => u3 a⟩
  have hm1 : ∀ g a, g ≠ 413 → wd_R (wd_sR w 413 (b_pa b p) none) g a = wd_R w g a := fun g a hg => by rw [r_sR, if_neg (fun c => hg c.1)]
  rcases List.eq_nil_or_concat (tW A j) with hn | ⟨l0, e0, hn⟩
  · have h7 : wd_R (wd_sR w 413 (b_pa b p) none) 207 (hA T j) = none := by rw [hm1 _ _ (by omega), s3.2.2.1, hn]; rfl
    obtain ⟨w', f1, f2⟩ := fin (wd_sR (wd_sR w 413 (b_pa b p) none) 206 (hA T j) (some (b_pa b p))) (ah.sR (dm_h0 hj) (Or.inl ⟨by omega, by omega⟩) (ah.sR hD (Or.inr ⟨by omega, by omega⟩) ah.rf))
      (fun r r1 r2 r3 => by rw [r_sR, if_neg (by omega), r_sR, if_neg (fun c => hne2 r r1 r2 c.2)]) (fun a => ⟨rfl, by rw [r_sR, if_neg (by omega), hm1 _ _ (by omega)]⟩) rfl rfl rfl (fun g a h1 h2 => by rw [r_sR, if_neg (fun c => h2 c.1), hm1 _ _ h1])
      (by
        rw [hn, r_sR, if_pos ⟨rfl, rfl⟩]
        refine ⟨rfl, ?_⟩
        show wd_R (wd_sR (wd_sR w 413 (b_pa b p) none) 206 (hA T j) (some (b_pa b p))) 413 (b_pa b p) = none
        rw [r_sR, if_neg (by omega), r_sR, if_pos ⟨rfl, rfl⟩])
    refine ⟨w', ?_, f2⟩
    rw [f_X2_putToWait_j23, Option.bind_some, wd_let, h7, wd_on, wd_let]
    exact f1
  · have he0 : e0 ∈ tW A j := by rw [hn]; simp
    have hl0 := (hI.1 j hj).1 e0 he0
    have h7 : wd_R (wd_sR w 413 (b_pa b p) none) 207 (hA T j) = some (b_pa b e0.1) := by rw [hm1 _ _ (by omega), s3.2.2.1, hn]; simp
    have hnd : ∀ e, e ∈ l0 → e.1 ≠ e0.1 := fun e he c => by
      have h8 := (hI.1 j hj).2.1
      rw [hn, List.concat_eq_append, List.map_append, List.nodup_append] at h8
      exact h8.2.2 _ (List.mem_map.mpr ⟨e, he, rfl⟩) _ (List.mem_map.mpr ⟨e0, List.mem_singleton.mpr rfl, rfl⟩) c
    obtain ⟨w', f1, f2⟩ := fin (wd_sR (wd_sR w 413 (b_pa b p) none) 413 (b_pa b e0.1) (some (b_pa b p))) (ah.sR (dm_p (hT.pn hl0.1)) (Or.inr ⟨by omega, by omega⟩) (ah.sR hD (Or.inr ⟨by omega, by omega⟩) ah.rf))
      (fun r r1 r2 r3 => by rw [r_sR, if_neg (fun c => hT.inj r1 hl0.1 (fun d => r3 (d ▸ hl0.2)) c.2), r_sR, if_neg (fun c => hne2 r r1 r2 c.2)]) (fun a => ⟨rfl, by rw [r_sR, if_neg (by omega), hm1 _ _ (by omega)]⟩) rfl rfl rfl (fun g a h1 h2 => by rw [r_sR, if_neg (fun c => h1 c.1), hm1 _ _ h1])
      (by
        rw [r_sR, if_neg (by omega), hm1 _ _ (by omega)]
        have h8 := s3.2.1
        rw [hn, List.concat_eq_append, List.map_append] at h8
        rw [hn, List.concat_eq_append, List.map_append, List.map_append]
        refine ls_snoc (F := wd_R w 413) (z := b_pa b e0.1) ?_ ?_ (fun a ha => ?_) h8
        · rw [r_sR, if_pos ⟨rfl, rfl⟩]
        · rw [r_sR, if_neg (fun c => hne e0 he0 c.2.symm), r_sR, if_pos ⟨rfl, rfl⟩]
        · obtain ⟨e, he, rfl⟩ := List.mem_map.mp ha
          have hm : e ∈ tW A j := by rw [hn]; simp [he]
          rw [r_sR, if_neg (fun c => hT.inj ((hI.1 j hj).1 e hm).1 hl0.1 (hnd e he) c.2), r_sR, if_neg (fun c => hne e hm c.2)])
    refine ⟨w', ?_, f2⟩
    rw [f_X2_putToWait_j23, Option.bind_some, wd_let, h7, wd_on, Option.bind_some, wd_let]
    exact f1
end WT
