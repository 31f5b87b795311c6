/-! ===== PURE: what is counted; packets born and cut ===== -/
section BE
variable {P T X j n : Nat} {z w u : Wd} {b : Be} {A A' : Ta}
theorem dm_T : Dm T b T := Or.inl ⟨by omega, by omega⟩
theorem sk_hi {g a : Nat} {v : Int32} (hg : 410 ≤ g) (h : Sk w b A) : Sk (wd_sI w g a v) b A := fun i hi => ⟨fun f h1 h2 => by rw [i_sI, if_neg (by omega)]; exact (h i hi).1 f h1 h2, (h i hi).2⟩
theorem sr_hi {g a r : Nat} {v : Int32} (hg : 5 ≤ g) (hg2 : g ≠ 801) (h : Sr w r b A) : Sr (wd_sI w g a v) r b A :=
  ⟨h.1, h.2.1, h.2.2.1, by rw [i_sI, if_neg (by omega)]; exact h.2.2.2.1, ls_2cong (fun c x _ hx => ⟨fun f hf => by rw [i_sI, if_neg (by omega)]; exact hx.1 f hf, hx.2⟩) h.2.2.2.2⟩
theorem o_c901 (hT : Tm P T X z w b A) : Tm P T X z (wd_sI w 901 T (wd_I w 901 T + 1)) b (uN A 901 0 (tN A 901 0 + 1)) ∧ Rl T w b (wd_sI w 901 T (wd_I w 901 T + 1)) b := by
  obtain ⟨t1, t2, t3, t4, t5, t6, t7⟩ := hT
  have hag := ag_sI (g := 901) (v := wd_I w 901 T + 1) (dm_T (T := T) (b := b)) (fun c _ => ag.rf w c)
  refine ⟨⟨fun a ha => (t1 a ha).tr (hag a fun q => (t2.2.2.2.2.2.1 a q).2 ha), t2, ⟨t3.1, ?_, t3.2.2⟩, sk_hi (by omega) t4, t5, sr_hi (by omega) (by omega) t6, t7⟩, ⟨⟨⟨fun _ _ => rfl, Nat.le_refl _, rfl, Nat.le_refl _, fun a _ hn => hag a hn, fun a ha => Or.inl ha, rfl, rfl, Nat.le_refl _⟩, rfl, fun a ha => ⟨by rw [i_sI, if_neg (by omega)], rfl, rfl⟩⟩, rfl, fun a ha => ⟨fun g hg => by rw [i_sI, if_neg (by omega)], rfl⟩⟩⟩
  rw [i_sI, if_pos ⟨rfl, rfl⟩, tN_uN, if_pos ⟨rfl, rfl⟩, t3.2.1, j_a1]
theorem o_s901 (hT : Tm P T X z w b A) (k : Nat) : Tm P T X z (wd_sI w 901 T (Int32.ofNat k)) b (uN A 901 0 k) ∧ Rl T w b (wd_sI w 901 T (Int32.ofNat k)) b := by
  obtain ⟨t1, t2, t3, t4, t5, t6, t7⟩ := hT
  have hag := ag_sI (g := 901) (v := Int32.ofNat k) (dm_T (T := T) (b := b)) (fun c _ => ag.rf w c)
  refine ⟨⟨fun a ha => (t1 a ha).tr (hag a fun q => (t2.2.2.2.2.2.1 a q).2 ha), t2, ⟨t3.1, ?_, t3.2.2⟩, sk_hi (by omega) t4, t5, sr_hi (by omega) (by omega) t6, t7⟩, ⟨⟨⟨fun _ _ => rfl, Nat.le_refl _, rfl, Nat.le_refl _, fun a _ hn => hag a hn, fun a ha => Or.inl ha, rfl, rfl, Nat.le_refl _⟩, rfl, fun a ha => ⟨by rw [i_sI, if_neg (by omega)], rfl, rfl⟩⟩, rfl, fun a ha => ⟨fun g hg => by rw [i_sI, if_neg (by omega)], rfl⟩⟩⟩
  rw [i_sI, if_pos ⟨rfl, rfl⟩, tN_uN, if_pos ⟨rfl, rfl⟩]
theorem o_c902 (hT : Tm P T X z w b A) : Tm P T X z (wd_sI w 902 T (wd_I w 902 T + 1)) b (uN A 902 0 (tN A 902 0 + 1)) ∧ Rl T w b (wd_sI w 902 T (wd_I w 902 T + 1)) b := by
  obtain ⟨t1, t2, t3, t4, t5, t6, t7⟩ := hT
  have hag := ag_sI (g := 902) (v := wd_I w 902 T + 1) (dm_T (T := T) (b := b)) (fun c _ => ag.rf w c)
  refine ⟨⟨fun a ha => (t1 a ha).tr (hag a fun q => (t2.2.2.2.2.2.1 a q).2 ha), t2, ⟨t3.1, t3.2.1, ?_, t3.2.2.2⟩, sk_hi (by omega) t4, t5, sr_hi (by omega) (by omega) t6, t7⟩, ⟨⟨⟨fun _ _ => rfl, Nat.le_refl _, rfl, Nat.le_refl _, fun a _ hn => hag a hn, fun a ha => Or.inl ha, rfl, rfl, Nat.le_refl _⟩, rfl, fun a ha => ⟨by rw [i_sI, if_neg (by omega)], rfl, rfl⟩⟩, rfl, fun a ha => ⟨fun g hg => by rw [i_sI, if_neg (by omega)], rfl⟩⟩⟩
  rw [i_sI, if_pos ⟨rfl, rfl⟩, tN_uN, if_pos ⟨rfl, rfl⟩, t3.2.2.1, j_a1]; rfl
theorem o_c903 (hT : Tm P T X z w b A) : Tm P T X z (wd_sI w 903 T (wd_I w 903 T + 1)) b (uN A 903 0 (tN A 903 0 + 1)) ∧ Rl T w b (wd_sI w 903 T (wd_I w 903 T + 1)) b := by
  obtain ⟨t1, t2, t3, t4, t5, t6, t7⟩ := hT
  have hag := ag_sI (g := 903) (v := wd_I w 903 T + 1) (dm_T (T := T) (b := b)) (fun c _ => ag.rf w c)
  refine ⟨⟨fun a ha => (t1 a ha).tr (hag a fun q => (t2.2.2.2.2.2.1 a q).2 ha), t2, ⟨t3.1, t3.2.1, t3.2.2.1, ?_, t3.2.2.2.2⟩, sk_hi (by omega) t4, t5, sr_hi (by omega) (by omega) t6, t7⟩, ⟨⟨⟨fun _ _ => rfl, Nat.le_refl _, rfl, Nat.le_refl _, fun a _ hn => hag a hn, fun a ha => Or.inl ha, rfl, rfl, Nat.le_refl _⟩, rfl, fun a ha => ⟨by rw [i_sI, if_neg (by omega)], rfl, rfl⟩⟩, rfl, fun a ha => ⟨fun g hg => by rw [i_sI, if_neg (by omega)], rfl⟩⟩⟩
  rw [i_sI, if_pos ⟨rfl, rfl⟩, tN_uN, if_pos ⟨rfl, rfl⟩, t3.2.2.2.1, j_a1]; rfl
/-- a packet wrapped in set -/
theorem o_ins (hT : Tm P T X z w b A) {p c : Nat} (hp : p < tN A 1 0) : Tm P T X z (wd_sR w 410 (b_pa b p) (some (b_pa b c))) b (uR A 410 p (some c)) ∧ Rl T w b (wd_sR w 410 (b_pa b p) (some (b_pa b c))) b := by
  have hinj : ∀ i, i < tN A 1 0 → i ≠ p → b_pa b i ≠ b_pa b p := fun i hi hn => hT.inj hi hp hn
  have hD : Dm T b (b_pa b p) := dm_p (hT.pn hp)
  obtain ⟨t1, t2, t3, t4, t5, t6, t7⟩ := hT
  have hag := ag_sR (g := 410) (v := some (b_pa b c)) hD (fun c _ => ag.rf w c)
  refine ⟨⟨fun a ha => (t1 a ha).tr (hag a fun q => (t2.2.2.2.2.2.1 a q).2 ha), t2, t3, fun i hi => ⟨(t4 i hi).1, ?_⟩, t5, t6, t7⟩, ⟨⟨⟨fun _ _ => rfl, Nat.le_refl _, rfl, Nat.le_refl _, fun a _ hn => hag a hn, fun a ha => Or.inl ha, rfl, rfl, Nat.le_refl _⟩, rfl, fun a ha => ⟨rfl, by rw [r_sR, if_neg (by omega)], by rw [r_sR, if_neg (by omega)]⟩⟩, rfl, fun a ha => ⟨fun g hg => rfl, by rw [r_sR, if_neg (by omega)]⟩⟩⟩
  rw [r_sR, tR_uR]
  have hi2 : i < tN A 1 0 := hi
  by_cases e : i = p
  · rw [e, if_pos ⟨rfl, rfl⟩, if_pos ⟨rfl, rfl⟩]; rfl
  · rw [if_neg (fun q => hinj i hi2 e q.2), if_neg (fun q => e q.2)]; exact (t4 i hi2).2
def hdB (k f t s nu : Int32) : Nat → Int32
  | 400 => k
  | 401 => f
  | 402 => t
  | 403 => s
  | 404 => 32
  | 405 => nu
  | _ => 0
def brA (A : Ta) (k f t s : Int32) : Ta := uN (uN (uN (uN (nwA A (hdB k f t s (Int32.ofNat (tN A 901 0))) none) 5 (tN A 1 0) 3) 6 (tN A 901 0) (tN A 1 0)) 7 (tN A 901 0) k.toNatClampNeg) 901 0 (tN A 901 0 + 1)
/-- a packet born -/
theorem o_bear (hT : Tm P T X z w b A) (hI : Ix A) (hJ : Iy A) (hX : tN A 1 0 + 1 ≤ X) (k f t s : Int32) :
    ∃ v b', f_X9_bear n w T k f t s = some (some (b_pa b' (tN A 1 0)), v) ∧ Tm P T X z v b' (brA A k f t s) ∧ Rl T w b v b' := by
  obtain ⟨u, pb, pm, h1, h2⟩ := o_take (n := n) hT hX
  have h901 : wd_I u 901 T = Int32.ofNat (tN A 901 0) := by rw [(h2.2.2.1 T dm_T 901 (by omega) (by omega) (by omega)).1]; exact hT.2.2.1.2.1
  have h905 := hT.2.2.1.1.2.2.1
  generalize ha : pb (tN A 1 0) = a at h1
  let v := wd_sR (wd_sI (wd_sI (wd_sI (wd_sI (wd_sI (wd_sI (wd_sI (wd_sI (wd_sI (wd_sI u 400 a k) 401 a f) 402 a t) 403 a s) 404 a 32) 405 a (wd_I u 901 T)) 406 a 0) 407 a 0) 408 a 0) 409 a 0) 410 a none
  obtain ⟨g1, g2⟩ := new_op (v := v) hT hI hJ h2 (hdB k f t s (Int32.ofNat (tN A 901 0))) none (fun g c hc => by
      rw [ha] at hc
      show wd_I (wd_sR _ _ _ _) g c = _ ∧ wd_R (wd_sR _ _ _ _) g c = _
      constructor
      · simp only [i_sI, i_sR]
        rw [if_neg (by omega), if_neg (by omega), if_neg (by omega), if_neg (by omega), if_neg (by omega), if_neg (by omega), if_neg (by omega), if_neg (by omega), if_neg (by omega), if_neg (by omega)]
      · simp only [r_sI, r_sR]
        rw [if_neg (by omega)]) ⟨rfl, rfl, rfl, rfl, rfl, rfl⟩ (fun g q1 q2 => by
      rw [ha]
      show wd_I (wd_sR _ _ _ _) g a = _
      have : g = 400 ∨ g = 401 ∨ g = 402 ∨ g = 403 ∨ g = 404 ∨ g = 405 ∨ g = 406 ∨ g = 407 ∨ g = 408 ∨ g = 409 := by omega
      rcases this with rfl | rfl | rfl | rfl | rfl | rfl | rfl | rfl | rfl | rfl <;> simp [i_sI, i_sR, hdB, h901]) (by
      rw [ha]
      show wd_R (wd_sR _ _ _ _) 410 a = _
      rw [r_sR, if_pos ⟨rfl, rfl⟩]; rfl)
  obtain ⟨g3, g4⟩ := o_c901 ((g1.g6 (tN A 901 0) (tN A 1 0)).g7 (tN A 901 0) k.toNatClampNeg)
  refine ⟨_, v_pp b pb pm, ?_, g3, g2.tr g4⟩
  show _ = some (some (pb (tN A 1 0)), _)
  rw [f_X9_bear, h905, Option.bind_some, h1, wd_b2_s, Option.bind_some, ha]
  rfl
def hdC (A : Ta) (p : Nat) (ah mo : Int32) : Nat → Int32
  | 403 => if tI A 403 p - ah < mo then tI A 403 p - ah else mo
  | 407 => tI A 407 p + ah
  | 409 => if tI A 409 p = 0 ∧ tI A 403 p - ah ≤ mo then 0 else 1
  | g => tI A g p
def ctA (A : Ta) (p : Nat) (ah mo : Int32) : Ta := uN (uN (nwA A (hdC A p ah mo) (tR A 410 p)) 5 (tN A 1 0) 3) 6 (hv A 405 p) (if tI A 407 p + ah = 0 then tN A 1 0 else tN A 6 (hv A 405 p))
/-- a piece cut -/
theorem o_cut (hT : Tm P T X z w b A) (hI : Ix A) (hJ : Iy A) (hX : tN A 1 0 + 1 ≤ X) {p : Nat} (hp : p < tN A 1 0) (h8 : tI A 408 p = 0 ∨ tI A 408 p = 1) (ah mo : Int32) :
    ∃ u v b', f_X6_take n w (T + 2) = some (some (b_pa b' (tN A 1 0)), u) ∧ f_X4_cutFrom n u (b_pa b' (tN A 1 0)) (some (b_pa b p)) ah mo = some v ∧ Tm P T X z v b' (ctA A p ah mo) ∧ Rl T w b v b' := by
  obtain ⟨u, pb, pm, h1, h2⟩ := o_take (n := n) hT hX
  have hpp := hT.pn hp
  have hne : b_pa b p ≠ pb (tN A 1 0) := h2.2.2.2.2.2.2.2.2.1 _ (dm_p hpp) (fun i hi hi2 e => by
    have := hT.2.1.2.2.2.1 p i hpp hi2 e
    omega)
  have hu : ∀ g, 400 ≤ g → g ≤ 409 → wd_I u g (b_pa b p) = tI A g p := fun g g1 g2 => by
    rw [(h2.2.2.1 _ (dm_p hpp) g (by omega) (by omega) (by omega)).1]; exact (hT.2.2.2.1 p hp).1 g g1 g2
  have hu10 : wd_R u 410 (b_pa b p) = (tR A 410 p).map pb := by
    rw [(h2.2.2.1 _ (dm_p hpp) 410 (by omega) (by omega) (by omega)).2, (hT.2.2.2.1 p hp).2]
    exact (mp_c (N := tN A 1 0) (fun i hi => h2.2.1 i (hT.pn hi)) (hJ.2 p hp)).symm
  generalize ha : pb (tN A 1 0) = a at h1 hne
  let v := wd_sR (wd_sI (wd_sI (wd_sI (wd_sI (wd_sI (wd_sI (wd_sI (wd_sI (wd_sI (wd_sI u 400 a (tI A 400 p)) 401 a (tI A 401 p)) 402 a (tI A 402 p)) 403 a (hdC A p ah mo 403)) 404 a (tI A 404 p)) 405 a (tI A 405 p)) 406 a (tI A 406 p)) 407 a (tI A 407 p + ah)) 408 a (tI A 408 p)) 409 a (hdC A p ah mo 409)) 410 a ((tR A 410 p).map pb)
  obtain ⟨g1, g2⟩ := new_op (v := v) hT hI hJ h2 (hdC A p ah mo) (tR A 410 p) (fun g c hc => by
      rw [ha] at hc
      show wd_I (wd_sR _ _ _ _) g c = _ ∧ wd_R (wd_sR _ _ _ _) g c = _
      constructor
      · simp only [i_sI, i_sR]
        rw [if_neg (by omega), if_neg (by omega), if_neg (by omega), if_neg (by omega), if_neg (by omega), if_neg (by omega), if_neg (by omega), if_neg (by omega), if_neg (by omega), if_neg (by omega)]
      · simp only [r_sI, r_sR]
        rw [if_neg (by omega)]) ⟨rfl, rfl, rfl, rfl, rfl, rfl⟩ (fun g q1 q2 => by
      rw [ha]
      show wd_I (wd_sR _ _ _ _) g a = _
      have : g = 400 ∨ g = 401 ∨ g = 402 ∨ g = 403 ∨ g = 404 ∨ g = 405 ∨ g = 406 ∨ g = 407 ∨ g = 408 ∨ g = 409 := by omega
      rcases this with rfl | rfl | rfl | rfl | rfl | rfl | rfl | rfl | rfl | rfl <;> first | (simp [i_sI, i_sR]; done) | (simp [i_sI, i_sR]; rfl)) (by
      rw [ha]
      show wd_R (wd_sR _ _ _ _) 410 a = _
      rw [r_sR, if_pos ⟨rfl, rfl⟩])
  refine ⟨u, v, v_pp b pb pm, ?_, ?_, g1.g6 _ _, g2⟩
  · show _ = some (some (pb (tN A 1 0)), _)
    rw [ha]; exact h1
  · show f_X4_cutFrom n u (pb (tN A 1 0)) _ _ _ = _
    rw [ha]
    have hn : ∀ (g x : Nat), ¬ (g = x ∧ b_pa b p = a) := fun g x q => hne q.2
    unfold f_X4_cutFrom
    rw [Option.bind_some]
    simp only [wd_let, i_sI, if_neg (hn _ _), hu 400 (by omega) (by omega), hu 401 (by omega) (by omega), hu 402 (by omega) (by omega), hu 403 (by omega) (by omega), hu 404 (by omega) (by omega), hu 405 (by omega) (by omega), hu 406 (by omega) (by omega), hu 407 (by omega) (by omega), hu 408 (by omega) (by omega), hu 409 (by omega) (by omega)]
    rw [j_gd (fun q => q h8)]
    have fin : ∀ y : Int32, (y = 0 ∨ y = 1) → ∀ x : Wd, wd_R x 410 (b_pa b p) = (tR A 410 p).map pb → f_X4_cutFrom_j103 n y a a (some (b_pa b p)) x = some (wd_sR (wd_sI x 409 a y) 410 a ((tR A 410 p).map pb)) := fun y hy x hx => by
      rw [f_X4_cutFrom_j103, j_gd (fun q => q hy), wd_let, Option.bind_some, wd_let, r_sI, hx]
    by_cases c1 : tI A 409 p = 0
    · rw [if_pos c1]
      by_cases c2 : tI A 403 p - ah ≤ mo
      · rw [if_pos c2]
        refine Eq.trans (fin 0 (Or.inl rfl) _ (by exact hu10)) ?_
        have e9 : hdC A p ah mo 409 = 0 := by
          show (if tI A 409 p = 0 ∧ tI A 403 p - ah ≤ mo then (0 : Int32) else 1) = 0
          exact if_pos ⟨c1, c2⟩
        show _ = some (wd_sR (wd_sI _ 409 a (hdC A p ah mo 409)) 410 a _)
        rw [e9]; rfl
      · rw [if_neg c2, f_X4_cutFrom_j98]
        refine Eq.trans (fin 1 (Or.inr rfl) _ (by exact hu10)) ?_
        have e9 : hdC A p ah mo 409 = 1 := by
          show (if tI A 409 p = 0 ∧ tI A 403 p - ah ≤ mo then (0 : Int32) else 1) = 1
          exact if_neg (fun q => c2 q.2)
        show _ = some (wd_sR (wd_sI _ 409 a (hdC A p ah mo 409)) 410 a _)
        rw [e9]; rfl
    · rw [if_neg c1, f_X4_cutFrom_j98]
      refine Eq.trans (fin 1 (Or.inr rfl) _ (by exact hu10)) ?_
      have e9 : hdC A p ah mo 409 = 1 := by
        show (if tI A 409 p = 0 ∧ tI A 403 p - ah ≤ mo then (0 : Int32) else 1) = 1
        exact if_neg (fun q => c1 q.1)
      show _ = some (wd_sR (wd_sI _ 409 a (hdC A p ah mo 409)) 410 a _)
      rw [e9]; rfl
end BE
