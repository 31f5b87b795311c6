/-! ===== PURE: notes ===== -/
theorem j_sb {m k : Nat} (h : k ≤ m) : Int32.ofNat m - Int32.ofNat k = Int32.ofNat (m - k) := by
  have e : Int32.ofNat m = Int32.ofNat (m - k) + Int32.ofNat k := by rw [j_ad]; congr 1; omega
  rw [e, Int32.add_sub_cancel]
theorem j_ml (m k : Nat) : Int32.ofNat m * Int32.ofNat k = Int32.ofNat (m * k) := (Int32.ofNat_mul m k).symm
theorem j_di {m k : Nat} (hm : m < 2147483648) (hk : k < 2147483648) : Int32.ofNat m / Int32.ofNat k = Int32.ofNat (m / k) := by
  have h2 : m / k ≤ m := Nat.div_le_self m k
  rw [j_eq, Int32.toInt_div, j_ti hm, j_ti hk, j_ti (by omega), show Int.tdiv (m : Int) (k : Int) = ((m / k : Nat) : Int) from rfl, Int.bmod_def]
  generalize m / k = d at *
  split <;> omega
theorem j_md {m k : Nat} (hm : m < 2147483648) (hk : k < 2147483648) : Int32.ofNat m - Int32.ofNat m / Int32.ofNat k * Int32.ofNat k = Int32.ofNat (m % k) := by
  rw [j_di hm hk, j_ml, j_sb (Nat.div_mul_le_self m k)]
  congr 1
  have := Nat.mod_add_div m k
  rw [Nat.mul_comm] at this
  omega
section NT
variable {P T X j n : Nat} {z w w' : Wd} {b : Be} {A A' : Ta}
/-- the note of a packet -/
def nt (A : Ta) (p : Nat) : Nat → Int32
  | 0 => tI A 400 p
  | 1 => tI A 401 p
  | 2 => tI A 403 p
  | 3 => tI A 404 p
  | 4 => tI A 405 p
  | _ => tI A 406 p
theorem o_isTold (hT : Tm P T X z w b A) (hj : j < 8) {k : Nat} (hk : k < 2147483648) : f_X2_isTold n w (hA T j) (Int32.ofNat k) = some (bi (decide (k < 10 ∧ k < b_ng b 203 j + (tO A j).length)), w) := by
  obtain ⟨s1, s2, s3, s4, s5⟩ := hT.2.2.2.2.2.2 j hj
  unfold f_X2_isTold f_X2_isTold_j22
  rw [if_neg (j_n0 hk), show (10 : Int32) = Int32.ofNat 10 from rfl, s5.1]
  have h2 := s5.2.1
  by_cases c : k < 10
  · rw [if_neg (by rw [j_ll (by omega) (by omega)]; omega)]
    by_cases d : k < b_ng b 203 j + (tO A j).length
    · rw [if_neg (by rw [j_ll (by omega) (by omega)]; omega), decide_eq_true ⟨c, d⟩]; rfl
    · rw [if_pos (by rw [j_ll (by omega) (by omega)]; omega), decide_eq_false (fun q => d q.2)]; rfl
  · rw [if_pos (by rw [j_ll (by omega) (by omega)]; omega), decide_eq_false (fun q => c q.1)]; rfl
theorem o_notePart (hT : Tm P T X z w b A) (hj : j < 8) {k x : Nat} (hk : k < 10) {f : Nat → Int32} (hf : (tO A j)[k]? = some f) (hx : x < 6) : f_X2_notePart n w (hA T j) (Int32.ofNat k) (Int32.ofNat x) = some (f x, w) := by
  obtain ⟨s1, s2, s3, s4, s5⟩ := hT.2.2.2.2.2.2 j hj
  have hl : k < (tO A j).length := (List.getElem?_eq_some_iff.mp hf).1
  have h2 := s5.2.1
  unfold f_X2_notePart
  rw [o_isTold hT hj (by omega), wd_b2, decide_eq_true ⟨hk, by omega⟩]
  dsimp only
  rw [if_neg (show ¬ bi true = 0 by decide), if_neg (j_n0 (by omega)), show (6 : Int32) = Int32.ofNat 6 from rfl, if_pos (by rw [j_lx (by omega) (by omega)]; exact hx), s1.2.2.2.1, Option.bind_some, s5.1, j_s1 (by omega), j_sb (by omega), show (10 : Int32) = Int32.ofNat 10 from rfl, j_md (by omega) (by omega), j_ml, j_ad]
  rw [j_gd (by rw [s1.2.2.2.2.2.2]; exact j_in (by omega) (by omega)), j_nn (by omega), s5.2.2 k f hk hf x hx]
theorem o_notePart10 (hT : Tm P T X z w b A) (hj : j < 8) {k : Nat} (hk : 10 ≤ k) (hk2 : k < 2147483648) (x : Int32) : f_X2_notePart n w (hA T j) (Int32.ofNat k) x = some (-1, w) := by
  unfold f_X2_notePart
  rw [o_isTold hT hj hk2, wd_b2, decide_eq_false (by omega)]
  rfl
theorem o_writeNote (hT : Tm P T X z w b A) (hj : j < 8) {p : Nat} (hp : p < tN A 1 0) (hr : b_ng b 203 j + (tO A j).length + 1 < 1073741824) :
    ∃ w', f_X2_writeNote n w (hA T j) (some (b_pa b p)) = some w' ∧ Tm P T X z w' b (uO A j (nt A p :: tO A j)) ∧ Rl T w b w' b := by
  obtain ⟨s1, s2, s3, s4, s5⟩ := hT.2.2.2.2.2.2 j hj
  have hk := (hT.2.2.2.1 p hp).1
  generalize hc : b_ng b 203 j + (tO A j).length = c at *
  have hv : ((wd_I w 203 (hA T j) - wd_I w 203 (hA T j) / (10 : Int32) * (10 : Int32)) * (6 : Int32)) = Int32.ofNat (c % 10 * 6) := by
    rw [s5.1, hc, show (10 : Int32) = Int32.ofNat 10 from rfl, show (6 : Int32) = Int32.ofNat 6 from rfl, j_md (by omega) (by omega), j_ml]
  generalize hy : c % 10 * 6 = y at hv
  have hy2 : y + 5 < 60 := by omega
  have e1 : Int32.ofNat y + 1 = Int32.ofNat (y + 1) := j_ad y 1
  have e2 : Int32.ofNat y + 2 = Int32.ofNat (y + 2) := j_ad y 2
  have e3 : Int32.ofNat y + 3 = Int32.ofNat (y + 3) := j_ad y 3
  have e4 : Int32.ofNat y + 4 = Int32.ofNat (y + 4) := j_ad y 4
  have e5 : Int32.ofNat y + 5 = Int32.ofNat (y + 5) := j_ad y 5
  have g : ∀ m, m < 60 → ¬ (Int32.ofNat m < 0 ∨ wd_N w (hA T j + 3) ≤ (Int32.ofNat m).toNatClampNeg) := fun m hm => by rw [s1.2.2.2.2.2.2]; exact j_in hm (by omega)
  have hR := s1.2.2.2.1
  let u := wd_sA (wd_sA (wd_sA (wd_sA (wd_sA (wd_sA w (hA T j + 3) y (tI A 400 p)) (hA T j + 3) (y + 1) (tI A 401 p)) (hA T j + 3) (y + 2) (tI A 403 p)) (hA T j + 3) (y + 3) (tI A 404 p)) (hA T j + 3) (y + 4) (tI A 405 p)) (hA T j + 3) (y + 5) (tI A 406 p)
  have hu : f_X2_writeNote n w (hA T j) (some (b_pa b p)) = some (wd_sI u 203 (hA T j) (wd_I w 203 (hA T j) + 1)) := by
    unfold f_X2_writeNote
    rw [hv, wd_let, Option.bind_some, e1, e2, e3, e4, e5, hR, Option.bind_some, j_gd (g _ (by omega)), wd_let, j_nn (by omega)]
    rw [r_sA, hR, Option.bind_some, n_sA, j_gd (g _ (by omega)), wd_let, j_nn (by omega)]
    rw [r_sA, r_sA, hR, Option.bind_some, n_sA, n_sA, j_gd (g _ (by omega)), wd_let, j_nn (by omega)]
    rw [r_sA, r_sA, r_sA, hR, Option.bind_some, n_sA, n_sA, n_sA, j_gd (g _ (by omega)), wd_let, j_nn (by omega)]
    rw [r_sA, r_sA, r_sA, r_sA, hR, Option.bind_some, n_sA, n_sA, n_sA, n_sA, j_gd (g _ (by omega)), wd_let, j_nn (by omega)]
    rw [r_sA, r_sA, r_sA, r_sA, r_sA, hR, Option.bind_some, n_sA, n_sA, n_sA, n_sA, n_sA, j_gd (g _ (by omega)), wd_let, j_nn (by omega)]
    simp only [i_sA, wd_let, hk 400 (by omega) (by omega), hk 401 (by omega) (by omega), hk 403 (by omega) (by omega), hk 404 (by omega) (by omega), hk 405 (by omega) (by omega), hk 406 (by omega) (by omega)]
    rfl
  have hnA : ∀ a m, a ≠ hA T j + 3 → wd_A u a m = wd_A w a m := fun a m ha => by
    show wd_A (wd_sA _ _ _ _) a m = _
    simp only [a_sA, if_neg (show ¬ (a = hA T j + 3 ∧ m = _) from fun q => ha q.1)]
  have hah : ah T b (hA T j) w (wd_sI u 203 (hA T j) (wd_I w 203 (hA T j) + 1)) := by
    have hD : Dm T b (hA T j + 3) := dm_h hj (by omega)
    have hr3 : hA T j ≤ hA T j + 3 ∧ hA T j + 3 < hA T j + 7 := by omega
    exact ah.sI (dm_h0 hj) (Or.inl ⟨by omega, by omega⟩) (ah.sA hD hr3 (ah.sA hD hr3 (ah.sA hD hr3 (ah.sA hD hr3 (ah.sA hD hr3 (ah.sA hD hr3 ah.rf))))))
  have H : Tm P T X z (wd_sI u 203 (hA T j) (wd_I w 203 (hA T j) + 1)) b (uO A j (nt A p :: tO A j)) ∧ Rl T w b (wd_sI u 203 (hA T j) (wd_I w 203 (hA T j) + 1)) b := by
    refine host_op (w' := wd_sI u 203 (hA T j) (wd_I w 203 (hA T j) + 1)) (A' := uO A j (nt A p :: tO A j)) hT (b_kh b) (fun _ _ => rfl) hj hah ⟨rfl, rfl, rfl, fun g x hg => rfl, fun i hi => ⟨rfl, rfl, fun x => rfl, ?_, rfl⟩⟩ (fun _ _ _ _ _ => ⟨rfl, rfl, rfl⟩) (fun _ _ _ _ _ _ _ => rfl) (fun _ _ _ => ⟨rfl, rfl, rfl⟩) ⟨s1, ⟨fun x hx => ?_, s2.2⟩, s3, s4, ⟨?_, ?_, fun k f hk10 hf x hx => ?_⟩⟩
    · rw [tO_uO, if_neg hi]
    · rw [a_sI, hnA _ _ (by omega)]; exact s2.1 x hx
    · rw [tO_uO, if_pos rfl, i_sI, if_pos ⟨rfl, rfl⟩, s5.1, List.length_cons, j_a1]; rfl
    · rw [tO_uO, if_pos rfl, List.length_cons]
      show b_ng b 203 j + ((tO A j).length + 1) < _
      omega
    · rw [tO_uO, if_pos rfl] at hf ⊢
      show wd_A u (hA T j + 3) ((b_ng b 203 j + (nt A p :: tO A j).length - 1 - k) % 10 * 6 + x) = f x
      rw [List.length_cons, show b_ng b 203 j + ((tO A j).length + 1) - 1 - k = c - k by omega]
      cases k with
      | zero =>
        have : nt A p = f := Option.some.inj hf
        subst this
        rw [show (c - 0) % 10 * 6 + x = y + x by omega]
        have hxx : x = 0 ∨ x = 1 ∨ x = 2 ∨ x = 3 ∨ x = 4 ∨ x = 5 := by omega
        show wd_A (wd_sA _ _ _ _) _ _ = _
        rcases hxx with rfl | rfl | rfl | rfl | rfl | rfl
        · simp only [a_sA]; rw [if_neg (by omega), if_neg (by omega), if_neg (by omega), if_neg (by omega), if_neg (by omega), if_pos (by simp)]; rfl
        · simp only [a_sA]; rw [if_neg (by omega), if_neg (by omega), if_neg (by omega), if_neg (by omega), if_pos (by simp)]; rfl
        · simp only [a_sA]; rw [if_neg (by omega), if_neg (by omega), if_neg (by omega), if_pos (by simp)]; rfl
        · simp only [a_sA]; rw [if_neg (by omega), if_neg (by omega), if_pos (by simp)]; rfl
        · simp only [a_sA]; rw [if_neg (by omega), if_pos (by simp)]; rfl
        · simp only [a_sA]; rw [if_pos (by simp)]; rfl
      | succ k =>
        have hf2 : (tO A j)[k]? = some f := by rw [← hf, List.getElem?_cons_succ]
        have hl : k < (tO A j).length := (List.getElem?_eq_some_iff.mp hf2).1
        have h9 := s5.2.2 k f (by omega) hf2 x hx
        rw [hc, show c - 1 - k = c - (k + 1) by omega] at h9
        have hne : ∀ m, m < 6 → (c - (k + 1)) % 10 * 6 + x ≠ y + m := fun m hm => by omega
        rw [← h9]
        show wd_A (wd_sA _ _ _ _) _ _ = _
        simp only [a_sA]
        rw [if_neg (fun q => hne 5 (by omega) q.2), if_neg (fun q => hne 4 (by omega) q.2), if_neg (fun q => hne 3 (by omega) q.2), if_neg (fun q => hne 2 (by omega) q.2), if_neg (fun q => hne 1 (by omega) q.2), if_neg (fun q => hne 0 (by omega) q.2)]
  exact ⟨_, hu, H.1, H.2⟩
end NT
