/-! ===== PURE: all dropped; marks taken over ===== -/
section DA
variable {P T X j n : Nat} {z w u : Wd} {b : Be} {A A' : Ta}
def dwA (A : Ta) (j : Nat) : Ta := uK (uW A j []) j []
theorem o_dropWK (hT : Tm P T X z w b A) (hj : j < 8) : ∃ v, f_X2_dropWaitingAndKept n w (hA T j) = some v ∧ Tm P T X z v b (dwA A j) ∧ Rl T w b v b := by
  obtain ⟨x, u, h1, h2, h3, -, -⟩ := o_takeWaiting (n := n) hT hj
  obtain ⟨s1, s2, s3, s4, s5⟩ := h2.2.2.2.2.2.2 j hj
  have H : Tm P T X z (wd_sI u 202 (hA T j) 0) b (dwA A j) ∧ Rl T u b (wd_sI u 202 (hA T j) 0) b := by
    refine host_op (w' := wd_sI u 202 (hA T j) 0) (A' := dwA A j) h2 (b_kh b) (fun _ _ => rfl) hj (ah.sI (dm_h0 hj) (Or.inl ⟨by omega, by omega⟩) ah.rf) ⟨rfl, rfl, rfl, fun g x hg => rfl, fun i hi => ⟨rfl, ?_, fun x => rfl, rfl, rfl⟩⟩ (fun _ _ _ _ _ => ⟨rfl, rfl, rfl⟩) (fun _ _ _ _ _ _ _ => rfl) (fun _ _ _ => ⟨rfl, rfl, rfl⟩) ⟨s1, s2, s3, ⟨?_, ?_, s4.2.2.1, s4.2.2.2.1, fun k e he => ?_⟩, s5⟩
    · unfold dwA
      rw [tK_uK, if_neg hi]
    · unfold dwA
      rw [tK_uK, if_pos rfl, i_sI, if_pos ⟨rfl, rfl⟩]; rfl
    · unfold dwA
      rw [tK_uK, if_pos rfl]; exact Nat.zero_le _
    · unfold dwA at he
      rw [tK_uK, if_pos rfl] at he
      cases he
  refine ⟨_, ?_, H.1, h3.tr H.2⟩
  rw [f_X2_dropWaitingAndKept, h1, wd_b2_s, wd_let]
/-- the marks of another host taken over -/
theorem o_learnAllOf (hT : Tm P T X z w b A) (hj : j < 8) {o : Nat} (ho1 : wd_R w 205 o = some (o + 1)) (ho2 : wd_N w (o + 1) = 256) (m : Nat → Int32) (ho3 : ∀ x, x < 256 → wd_A w (o + 1) x = m x)
    (hcp : ∀ (f g : Nat → Int32) (x : Nat), x < 256 → va_cpy f g 0 0 256 x = f x) :
    ∃ v, f_X2_learnAllOf n w (hA T j) (some o) = some v ∧ Tm P T X z v b (uMf A j m) ∧ Rl T w b v b := by
  obtain ⟨s1, s2, s3, s4, s5⟩ := hT.2.2.2.2.2.2 j hj
  have H : Tm P T X z (wd_sF w (hA T j + 1) (va_cpy (wd_A w (o + 1)) (wd_A w (hA T j + 1)) 0 0 256)) b (uMf A j m) ∧ Rl T w b (wd_sF w (hA T j + 1) (va_cpy (wd_A w (o + 1)) (wd_A w (hA T j + 1)) 0 0 256)) b := by
    refine host_op (w' := wd_sF w (hA T j + 1) (va_cpy (wd_A w (o + 1)) (wd_A w (hA T j + 1)) 0 0 256)) (A' := uMf A j m) hT (b_kh b) (fun _ _ => rfl) hj (ah.sF (dm_h hj (by omega)) ⟨by omega, by omega⟩ ah.rf) ⟨rfl, rfl, rfl, fun g x hg => rfl, fun i hi => ⟨rfl, rfl, fun x => ?_, rfl, rfl⟩⟩ (fun _ _ _ _ _ => ⟨rfl, rfl, rfl⟩) (fun _ _ _ _ _ _ _ => rfl) (fun _ _ _ => ⟨rfl, rfl, rfl⟩) ⟨s1, ⟨fun x hx => ?_, s2.2⟩, s3, s4, s5.1, s5.2.1, fun k f hk hf x hx => ?_⟩
    · rw [tM_uMf, if_neg hi]
    · rw [a_sF, if_pos rfl, tM_uMf, if_pos rfl, hcp _ _ x hx]; exact ho3 x hx
    · rw [a_sF, if_neg (by omega)]; exact s5.2.2 k f hk hf x hx
  refine ⟨_, ?_, H.1, H.2⟩
  rw [f_X2_learnAllOf, Option.bind_some, ho1, Option.bind_some, s1.2.1, Option.bind_some, j_gd (by rw [ho2, s1.2.2.2.2.1]; omega), wd_let]
end DA
