/-! ===== PURE: what waits, the first dropped ===== -/
section PT
variable {P T X j n : Nat} {z w w' : Wd} {b : Be} {A A' : Ta}
theorem o_dropFirst (hT : Tm P T X z w b A) (hI : Ix A) (hj : j < 8) {e0 e1 : Nat × Int32 × Nat} {l : List (Nat × Int32 × Nat)} (hl : tW A j = e0 :: e1 :: l) :
    ∃ w', f_X2_dropFirstWaiting n w (hA T j) = some w' ∧ Tm P T X z w' b (uW A j (e1 :: l)) ∧ Rl T w b w' b ∧ wd_R w' 413 = wd_R w 413 ∧ (∀ a, wd_I w' 411 a = wd_I w 411 a ∧ wd_R w' 412 a = wd_R w 412 a) := by
  obtain ⟨s1, s2, s3, s4, s5⟩ := hT.2.2.2.2.2.2 j hj
  have h6 : wd_R w 206 (hA T j) = some (b_pa b e0.1) := by have := s3.2.1; rw [hl] at this; exact this.1
  have h7 : wd_R w 413 (b_pa b e0.1) = some (b_pa b e1.1) := by have := s3.2.1; rw [hl] at this; exact this.2.1
  have h8 : ls_c (wd_R w 413) (some (b_pa b e1.1)) ((e1 :: l).map fun e => b_pa b e.1) := by have := s3.2.1; rw [hl] at this; rw [← h7]; exact this.2
  have H : Tm P T X z (wd_sI (wd_sR w 206 (hA T j) (some (b_pa b e1.1))) 201 (hA T j) (wd_I w 201 (hA T j) - 1)) b (uW A j (e1 :: l)) ∧ Rl T w b (wd_sI (wd_sR w 206 (hA T j) (some (b_pa b e1.1))) 201 (hA T j) (wd_I w 201 (hA T j) - 1)) b := by
    refine host_op (w' := wd_sI (wd_sR w 206 (hA T j) (some (b_pa b e1.1))) 201 (hA T j) (wd_I w 201 (hA T j) - 1)) (A' := uW A j (e1 :: l)) hT (b_kh b) (fun _ _ => rfl) hj (ah.sI (dm_h0 hj) (Or.inl ⟨by omega, by omega⟩) (ah.sR (dm_h0 hj) (Or.inl ⟨by omega, by omega⟩) ah.rf)) ⟨rfl, rfl, rfl, fun g x hg => rfl, fun i hi => ⟨?_, rfl, fun x => rfl, rfl, rfl⟩⟩ (fun _ _ _ _ _ => ⟨rfl, rfl, rfl⟩) (fun _ _ _ _ _ _ _ => rfl) (fun _ _ _ => ⟨rfl, rfl, rfl⟩) ⟨s1, s2, ⟨?_, ?_, ?_, ?_⟩, s4, s5⟩
    · rw [tW_uW, if_neg hi]
    · rw [tW_uW, if_pos rfl, i_sI, if_pos ⟨rfl, rfl⟩, s3.1, hl, j_s1 (by simp)]; rfl
    · rw [tW_uW, if_pos rfl, r_sI, r_sR, if_pos ⟨rfl, rfl⟩]; exact h8
    · rw [tW_uW, if_pos rfl, r_sI, r_sR, if_neg (by omega), s3.2.2.1, hl, List.map_cons, List.map_cons, List.getLast?_cons_cons]; rfl
    · rw [tW_uW, if_pos rfl]; exact fun e he => s3.2.2.2 e (by rw [hl]; exact List.mem_cons_of_mem _ he)
  refine ⟨_, ?_, H.1, H.2, rfl, fun a => ⟨rfl, rfl⟩⟩
  rw [f_X2_dropFirstWaiting, h6, wd_on, Option.bind_some, h7, wd_let, wd_let, f_X2_dropFirstWaiting_j28]
  rw [show wd_R (wd_sI (wd_sR w 206 (hA T j) (some (b_pa b e1.1))) 201 (hA T j) (wd_I (wd_sR w 206 (hA T j) (some (b_pa b e1.1))) 201 (hA T j) - 1)) 206 (hA T j) = some (b_pa b e1.1) from by rw [r_sI, r_sR, if_pos ⟨rfl, rfl⟩], wd_on]
  rfl
theorem Ix.tail (hI : Ix A) (hj : j < 8) {e0 e1 : Nat × Int32 × Nat} {l : List (Nat × Int32 × Nat)} (hl : tW A j = e0 :: e1 :: l) (v : Nat) : Ix (uN (uW A j (e1 :: l)) 204 j v) := by
  refine ⟨fun i hi => ?_, hI.2⟩
  show (∀ e, e ∈ (if i = j then e1 :: l else tW A i) → _) ∧ ((if i = j then e1 :: l else tW A i).map _).Nodup ∧ (if i = j then e1 :: l else tW A i).length ≤ 6
  by_cases c : i = j
  · subst c
    obtain ⟨h1, h2, h3⟩ := hI.1 i hi
    rw [hl] at h1 h2 h3
    rw [if_pos rfl]
    rw [List.map_cons, List.nodup_cons] at h2
    exact ⟨fun e he => h1 e (List.mem_cons_of_mem _ he), h2.2, by simp at h3 ⊢; omega⟩
  · rw [if_neg c]; exact hI.1 i hi
def pwA (A : Ta) (j : Nat) (e : Nat × Int32 × Nat) : Ta :=
  if (tW A j).length < 6 then uW A j (tW A j ++ [e]) else uW (uN (uW A j (tW A j).tail) 204 j (tN A 204 j + 1)) j ((tW A j).tail ++ [e])
theorem o_putToWait (hT : Tm P T X z w b A) (hI : Ix A) (hj : j < 8) {p q : Nat} {x : Int32} (hp : p < tN A 1 0) (hp3 : tN A 5 p = 3) (hx : wd_I w 411 (b_pa b p) = x) (hq : wd_R w 412 (b_pa b p) = some q) :
    ∃ w', f_X2_putToWait n w (hA T j) (some (b_pa b p)) = some w' ∧ Tm P T X z w' b (pwA A j (p, x, q)) ∧ Rl T w b w' b ∧ (∀ r, r < tN A 1 0 → r ≠ p → tN A 5 r ≠ 10 + j → wd_R w' 413 (b_pa b r) = wd_R w 413 (b_pa b r)) ∧ (∀ a, wd_I w' 411 a = wd_I w 411 a ∧ wd_R w' 412 a = wd_R w 412 a) := by
  obtain ⟨s1, s2, s3, s4, s5⟩ := hT.2.2.2.2.2.2 j hj
  have hle := (hI.1 j hj).2.2
  unfold f_X2_putToWait pwA
  rw [s3.1, show (6 : Int32) = Int32.ofNat 6 from rfl]
  by_cases h6 : (tW A j).length < 6
  · rw [if_pos (by rw [j_lx (by omega) (by omega)]; exact h6), if_pos h6]
    exact o_put23 hT hI hj h6 hp hp3 hx hq
  · rw [if_neg (by rw [j_lx (by omega) (by omega)]; exact h6), if_neg h6]
    obtain ⟨e0, e1, l, hl⟩ : ∃ e0 e1 l, tW A j = e0 :: e1 :: l := by
      match hw : tW A j with
      | [] => rw [hw] at h6; simp at h6
      | [e] => rw [hw] at h6; simp at h6
      | e0 :: e1 :: l => exact ⟨e0, e1, l, rfl⟩
    obtain ⟨u, f1, f2, f3, f4, f5⟩ := o_dropFirst (n := n) hT hI hj hl
    obtain ⟨g1, g2⟩ := o_gone f2 hj
    have hI2 := hI.tail hj hl (tN (uW A j (e1 :: l)) 204 j + 1)
    have hlen : (tW (uN (uW A j (e1 :: l)) 204 j (tN (uW A j (e1 :: l)) 204 j + 1)) j) = e1 :: l := by rw [tW_uN, tW_uW, if_pos rfl]
    obtain ⟨v, k1, k2, k3, k4, k5⟩ := o_put23 (n := n) g1 hI2 hj (by rw [hlen]; rw [hl] at hle; simp at hle ⊢; omega) (p := p) hp hp3 (x := x) (q := q) (by rw [i_sI, if_neg (by omega), (f5 _).1]; exact hx) (by rw [r_sI, (f5 _).2]; exact hq)
    refine ⟨v, ?_, ?_, (f3.tr g2).tr k3, fun r r1 r2 r3 => ?_, fun a => ?_⟩
    · rw [f1, Option.bind_some, wd_let]; exact k1
    · rw [hlen] at k2; rw [hl]; exact k2
    · rw [k4 r r1 r2 r3, r_sI, f4]
    · rw [(k5 a).1, (k5 a).2, i_sI, if_neg (by omega), r_sI]; exact f5 a
end PT
