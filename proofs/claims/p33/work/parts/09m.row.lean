/-! ===== PURE: the row ===== -/
theorem wd_on_S {ρ : Type} (a : Nat) (x : Option ρ) (y : Nat → Option ρ) : wd_on (some a) x y = y a := rfl
theorem wd_on_N {ρ : Type} (x : Option ρ) (y : Nat → Option ρ) : wd_on none x y = x := rfl
section RW
variable {P T X n : Nat} {z w u : Wd} {b : Be} {A A' : Ta}
def v_rw (b : Be) (fl fh fs : List Nat) : Be := v_fl (v_fh (v_fs b fs) fh) fl
/-- a change of frames alone -/
theorem row_op (hT : Tm P T X z w b A) (fl fh fs : List Nat) (hc : ∀ g c, 7 ≤ g → (g < 800 ∨ 803 < g) → wd_I u g c = wd_I w g c ∧ wd_R u g c = wd_R w g c) (hA : wd_A u = wd_A w) (hQ : wd_Q u = wd_Q w) (hN : wd_N u = wd_N w)
    (hH : wd_H u = wd_H w) (hM : wd_M u = wd_M w) (hS : wd_S u = wd_S w) (hag : ∀ a, ¬ Dm T b a → ag w u a)
    (hp : (fl ++ (fh ++ fs)).Perm (b_fl b ++ (b_fh b ++ b_fs b)))
    (hE : tI A' = tI A ∧ tR A' = tR A ∧ tW A' = tW A ∧ tK A' = tK A ∧ tM A' = tM A ∧ tO A' = tO A ∧ ∀ g x, g ≠ 3 → tN A' g x = tN A g x)
    (hr : Sr u (T + 1) (v_rw b fl fh fs) A') (hl : fl.length + fh.length ≤ tN A' 3 0) : Tm P T X z u (v_rw b fl fh fs) A' ∧ Rk T w b u (v_rw b fl fh fs) := by
  obtain ⟨t1, t2, t3, t4, t5, t6, t7⟩ := hT
  obtain ⟨e1, e2, e3, e4, e5, e6, e7⟩ := hE
  obtain ⟨d1, d2, d3, d4, d5, d6, d7, d8, dh, d9⟩ := t2
  have hcn : cn (v_rw b fl fh fs) = cn b := by
    show b_pn b + (fl ++ (fh ++ fs)).length = _
    rw [hp.length_eq]; rfl
  have hDm : ∀ a, Dm T (v_rw b fl fh fs) a → Dm T b a := fun a ha => by
    rcases ha with ha | ha | ha
    · exact Or.inl ha
    · exact Or.inr (Or.inl ha)
    · exact Or.inr (Or.inr (hp.mem_iff.mp ha))
  refine ⟨⟨fun a ha => (t1 a ha).tr (hag a fun q => (d6 a q).2 ha), ⟨d1, d2, fun a ha => d3 a (hp.mem_iff.mp ha), d4, hp.nodup_iff.mpr d5, fun a ha => by rw [hH]; exact d6 a (hDm a ha), fun a ha => by rw [hH]; exact d7 a ha, ⟨d8.1, ?_, ?_, ?_⟩, fun a ha => ?_, hl⟩, ?_, ?_, ?_, hr, fun i hi => ?_⟩, ?_⟩
  · show (fl ++ (fh ++ fs)).length ≤ X
    rw [hp.length_eq]; exact d8.2.1
  · rw [hcn, hM]; exact d8.2.2.1
  · rw [hcn, hS]; exact d8.2.2.2
  · rw [e7 1 0 (by omega)]
    obtain ⟨r, r1, r2, r3⟩ := dh a ha
    exact ⟨r, r1, r2, by rw [e7 5 r (by omega)]; exact r3⟩
  · obtain ⟨⟨c1, c2, c3, c4, c5, c6, c7, c8⟩, c9, c10, c11, c12⟩ := t3
    refine ⟨⟨?_, ?_, ?_, ?_, ?_, by rw [hN]; exact c6, by rw [hN]; exact c7, by rw [hQ]; exact c8⟩, ?_, ?_, ?_, fun c hc' => ?_⟩
    · rw [(hc 900 _ (by omega) (by omega)).2]; exact c1
    · rw [(hc 904 _ (by omega) (by omega)).2]; exact c2
    · rw [(hc 905 _ (by omega) (by omega)).2]; exact c3
    · rw [(hc 906 _ (by omega) (by omega)).2]; exact c4
    · rw [(hc 907 _ (by omega) (by omega)).2]; exact c5
    · rw [(hc 901 _ (by omega) (by omega)).1, e7 901 0 (by omega)]; exact c9
    · rw [(hc 902 _ (by omega) (by omega)).1, e7 902 0 (by omega)]; exact c10
    · rw [(hc 903 _ (by omega) (by omega)).1, e7 903 0 (by omega)]; exact c11
    · rw [hA, e7 907 c (by omega)]; exact c12 c hc'
  · intro i hi
    rw [e7 1 0 (by omega)] at hi
    refine ⟨fun g g1 g2 => ?_, ?_⟩
    · show wd_I u g (b_pa b i) = _
      rw [(hc g _ (by omega) (by omega)).1, e1]; exact (t4 i hi).1 g g1 g2
    · show wd_R u 410 (b_pa b i) = (tR A' 410 i).map (b_pa b)
      rw [(hc 410 _ (by omega) (by omega)).2, e2]; exact (t4 i hi).2
  · obtain ⟨p1, p2, p3, p4⟩ := t5
    refine ⟨?_, ?_, ?_, fun i hi => ?_⟩
    · rw [e7 1 0 (by omega)]; exact p1
    · rw [(hc 600 _ (by omega) (by omega)).2]; exact p2
    · rw [(hc 601 _ (by omega) (by omega)).2, e7 1 0 (by omega)]; exact p3
    · show wd_R u 414 (b_pa b i) = _
      rw [(hc 414 _ (by omega) (by omega)).2]; exact p4 i hi
  · obtain ⟨s1, s2, s3, s4, s5⟩ := t7 i hi
    refine ⟨⟨?_, ?_, ?_, ?_, ?_⟩, ⟨?_, ?_⟩, ⟨?_, ?_, ?_, fun e he => ?_⟩, ⟨?_, ?_, ?_, s4.2.2.2.1, fun k e he => ?_⟩, ⟨?_, ?_, ?_⟩⟩
    · rw [(hc 200 _ (by omega) (by omega)).2]; exact s1.1
    · rw [(hc 205 _ (by omega) (by omega)).2]; exact s1.2.1
    · rw [(hc 208 _ (by omega) (by omega)).2]; exact s1.2.2.1
    · rw [(hc 209 _ (by omega) (by omega)).2]; exact s1.2.2.2.1
    · rw [hN]; exact s1.2.2.2.2
    · rw [hA, e5]; exact s2.1
    · rw [(hc 204 _ (by omega) (by omega)).1, e7 204 i (by omega)]; exact s2.2
    · rw [(hc 201 _ (by omega) (by omega)).1, e3]; exact s3.1
    · rw [(hc 206 _ (by omega) (by omega)).2, e3]
      exact ls_cong (fun a _ => (hc 413 a (by omega) (by omega)).2) s3.2.1
    · rw [(hc 207 _ (by omega) (by omega)).2, e3]; exact s3.2.2.1
    · rw [e3] at he
      rw [(hc 411 _ (by omega) (by omega)).1, (hc 412 _ (by omega) (by omega)).2]; exact s3.2.2.2 e he
    · rw [(hc 202 _ (by omega) (by omega)).1, e4]; exact s4.1
    · rw [e4]; exact s4.2.1
    · rw [hQ]; exact s4.2.2.1
    · rw [e4] at he
      have r := s4.2.2.2.2 k e he
      rw [(hc 100 _ (by omega) (by omega)).1, (hc 101 _ (by omega) (by omega)).1, (hc 102 _ (by omega) (by omega)).2]
      exact ⟨r.1, r.2.1, ls_cong (fun a _ => (hc 413 a (by omega) (by omega)).2) r.2.2⟩
    · rw [(hc 203 _ (by omega) (by omega)).1, e6]; exact s5.1
    · rw [e6]; exact s5.2.1
    · rw [hA, e6]; exact s5.2.2
  · exact ⟨⟨fun _ _ => rfl, Nat.le_refl _, rfl, by rw [hH]; exact Nat.le_refl _, fun a ha hn => hag a hn, fun a ha => Or.inl (hDm a ha), by rw [hH, hM], by rw [hH, hcn], by rw [hS, hcn]; exact Nat.le_refl _⟩, rfl, fun a ha => ⟨(hc 411 a (by omega) (by omega)).1, (hc 412 a (by omega) (by omega)).2, (hc 413 a (by omega) (by omega)).2⟩⟩
theorem dm_r : Dm T b (T + 1) := Or.inl ⟨by omega, by omega⟩
theorem dm_f {a : Nat} (h : a ∈ b_fl b ++ (b_fh b ++ b_fs b)) : Dm T b a := Or.inr (Or.inr h)
/-- a world that differs but in one int field, or one reference, at an address of the traffic's -/
theorem ag_sI {a g : Nat} {v : Int32} (hD : Dm T b a) (h : ∀ c, ¬ Dm T b c → ag w u c) : ∀ c, ¬ Dm T b c → ag w (wd_sI u g a v) c :=
  fun c hc => (h c hc).tr ⟨fun f => by rw [i_sI, if_neg]; exact fun q => hc (q.2 ▸ hD), fun _ => rfl, fun _ => rfl, fun _ => rfl, rfl⟩
theorem ag_sR {a g : Nat} {v : Option Nat} (hD : Dm T b a) (h : ∀ c, ¬ Dm T b c → ag w u c) : ∀ c, ¬ Dm T b c → ag w (wd_sR u g a v) c :=
  fun c hc => (h c hc).tr ⟨fun _ => rfl, fun f => by rw [r_sR, if_neg]; exact fun q => hc (q.2 ▸ hD), fun _ => rfl, fun _ => rfl, rfl⟩
/-- the first frame taken out, into the hand -/
theorem o_takeFirst (hT : Tm P T X z w b A) {f : (Nat → Int32) × Option Nat} {F : List ((Nat → Int32) × Option Nat)} (hF : tF A = f :: F) :
    ∃ a l w', f_X8_takeFirst n w (T + 1) = some (some a, w') ∧ b_fl b = a :: l ∧ Tm P T X z w' (v_rw b l (a :: b_fh b) (b_fs b)) (uF A F) ∧ Rk T w b w' (v_rw b l (a :: b_fh b) (b_fs b)) ∧ Rg (b_fh b) w w' ∧ (∀ g, g < 5 → wd_I w' g a = f.1 g) ∧ wd_R w' 5 a = f.2.map (b_pa b) := by
  obtain ⟨r1, r2, r3, r4, r5⟩ := hT.2.2.2.2.2.1
  rw [hF] at r5
  cases hl : b_fl b with
  | nil => rw [hl] at r5; exact r5.elim
  | cons a l =>
    rw [hl] at r1 r2 r4 r5
    have ha : a ∈ b_fl b ++ (b_fh b ++ b_fs b) := by rw [hl]; simp
    have h8 : wd_R w 800 (T + 1) = some a := r1.1
    have hnd := hT.2.1.2.2.2.2.1
    rw [hl] at hnd
    have hperm : (l ++ ((a :: b_fh b) ++ b_fs b)).Perm (b_fl b ++ (b_fh b ++ b_fs b)) := by
      rw [hl]
      simp only [List.cons_append]
      exact List.perm_middle
    have hlen : l.length + (a :: b_fh b).length ≤ tN A 3 0 := by
      have := hT.2.1.2.2.2.2.2.2.2.2.2
      rw [hl] at this
      simp at this ⊢
      omega
    cases l with
    | nil =>
      have h6 : wd_R w 6 a = none := r1.2
      have H := row_op (u := wd_sI (wd_sR (wd_sR w 800 (T + 1) none) 802 (T + 1) none) 801 (T + 1) (wd_I w 801 (T + 1) - 1)) (A' := uF A F) hT [] (a :: b_fh b) (b_fs b)
        (fun g c h1 h2 => ⟨by rw [i_sI, if_neg (by omega), i_sR, i_sR], by rw [r_sI, r_sR, if_neg (by omega), r_sR, if_neg (by omega)]⟩) rfl rfl rfl rfl rfl rfl (ag_sI dm_r (ag_sR dm_r (ag_sR dm_r fun c _ => ag.rf _ _))) hperm ⟨rfl, rfl, rfl, rfl, rfl, rfl, fun _ _ _ => rfl⟩
        ⟨by
          show wd_R (wd_sR (wd_sR w 800 (T + 1) none) 802 (T + 1) none) 800 (T + 1) = none
          rw [r_sR, if_neg (by omega), r_sR, if_pos ⟨rfl, rfl⟩], by
          rw [r_sI, r_sR, if_pos ⟨rfl, rfl⟩]; rfl, r3, by rw [i_sI, if_pos ⟨rfl, rfl⟩, r4]; exact j_s1 (k := [a].length) (by simp), by
          cases F with
          | nil => trivial
          | cons x y => exact r5.2.elim⟩ hlen
      refine ⟨a, [], _, ?_, rfl, H.1, H.2, fun c hc => ⟨fun g hg => by rw [i_sI, if_neg (by omega), i_sR, i_sR], by rw [r_sI, r_sR, if_neg (by omega), r_sR, if_neg (by omega)]⟩, fun g hg => ?_, ?_⟩
      · rw [f_X8_takeFirst, wd_let, h8]
        rw [wd_on_S, h6, wd_let, r_sR, if_pos ⟨rfl, rfl⟩]
        rfl
      · rw [i_sI, if_neg (by omega)]; exact r5.1.1 g hg
      · rw [r_sI, r_sR, if_neg (by omega), r_sR, if_neg (by omega)]; exact r5.1.2
    | cons c l =>
      have h6 : wd_R w 6 a = some c := r1.2.1
      have H := row_op (u := wd_sI (wd_sR w 800 (T + 1) (some c)) 801 (T + 1) (wd_I w 801 (T + 1) - 1)) (A' := uF A F) hT (c :: l) (a :: b_fh b) (b_fs b)
        (fun g c h1 h2 => ⟨by rw [i_sI, if_neg (by omega), i_sR], by rw [r_sI, r_sR, if_neg (by omega)]⟩) rfl rfl rfl rfl rfl rfl (ag_sI dm_r (ag_sR dm_r fun c _ => ag.rf _ _)) hperm ⟨rfl, rfl, rfl, rfl, rfl, rfl, fun _ _ _ => rfl⟩
        ⟨by
          rw [r_sI, r_sR, if_pos ⟨rfl, rfl⟩]
          have := r1.2
          rw [h6] at this
          exact this, by
          rw [r_sI, r_sR, if_neg (by omega), r2, List.getLast?_cons_cons]; rfl, r3, by
          rw [i_sI, if_pos ⟨rfl, rfl⟩, r4, List.length_cons, j_s1 (by omega)]; rfl, ls_2cong (fun a x ha hx => ⟨fun g hg => by rw [i_sI, if_neg (by omega)]; exact hx.1 g hg, by rw [r_sI, r_sR, if_neg (by omega)]; exact hx.2⟩) r5.2⟩ hlen
      refine ⟨a, c :: l, _, ?_, rfl, H.1, H.2, fun c hc => ⟨fun g hg => by rw [i_sI, if_neg (by omega), i_sR], by rw [r_sI, r_sR, if_neg (by omega)]⟩, fun g hg => ?_, ?_⟩
      · rw [f_X8_takeFirst, wd_let, h8]
        rw [wd_on_S, h6, wd_let, r_sR, if_pos ⟨rfl, rfl⟩]
        rfl
      · rw [i_sI, if_neg (by omega)]; exact r5.1.1 g hg
      · rw [r_sI, r_sR, if_neg (by omega)]; exact r5.1.2
/-- the frame in the hand laid by, to be used again -/
theorem o_reuse (hT : Tm P T X z w b A) {a : Nat} {l : List Nat} (hh : b_fh b = a :: l) :
    ∃ w', f_X8_reuse n w (T + 1) (some a) = some w' ∧ Tm P T X z w' (v_rw b (b_fl b) l (a :: b_fs b)) A ∧ Rk T w b w' (v_rw b (b_fl b) l (a :: b_fs b)) ∧ Rg (b_fh b) w w' := by
  obtain ⟨r1, r2, r3, r4, r5⟩ := hT.2.2.2.2.2.1
  have hnd := hT.2.1.2.2.2.2.1
  rw [hh, List.nodup_append] at hnd
  have hna : ∀ c, c ∈ b_fl b → c ≠ a := fun c hc => hnd.2.2 c hc a (by simp)
  have hns : ∀ c, c ∈ b_fs b → c ≠ a := fun c hc d => by
    have := hnd.2.1
    rw [List.cons_append, List.nodup_cons] at this
    exact this.1 (d ▸ List.mem_append_right _ hc)
  have hperm : (b_fl b ++ (l ++ (a :: b_fs b))).Perm (b_fl b ++ (b_fh b ++ b_fs b)) := by
    rw [hh]
    exact List.Perm.append_left _ List.perm_middle
  have hD : Dm T b a := dm_f (by rw [hh]; simp)
  have hlen : (b_fl b).length + l.length ≤ tN A 3 0 := by
    have := hT.2.1.2.2.2.2.2.2.2.2.2
    rw [hh] at this
    simp at this
    omega
  have H := row_op (u := wd_sR (wd_sR w 6 a (wd_R w 803 (T + 1))) 803 (T + 1) (some a)) (A' := A) hT (b_fl b) l (a :: b_fs b)
    (fun g c h1 h2 => ⟨rfl, by rw [r_sR, if_neg (by omega), r_sR, if_neg (by omega)]⟩) rfl rfl rfl rfl rfl rfl (ag_sR dm_r (ag_sR hD fun c _ => ag.rf _ _)) hperm ⟨rfl, rfl, rfl, rfl, rfl, rfl, fun _ _ _ => rfl⟩
    ⟨by
      rw [r_sR, if_neg (by omega), r_sR, if_neg (by omega)]
      refine ls_cong (fun c hc => ?_) r1
      rw [r_sR, if_neg (by omega), r_sR, if_neg (fun q => hna c hc q.2)], by
      rw [r_sR, if_neg (by omega), r_sR, if_neg (by omega)]; exact r2, by
      rw [r_sR, if_pos ⟨rfl, rfl⟩]
      refine ⟨rfl, ?_⟩
      rw [r_sR, if_neg (by omega), r_sR, if_pos ⟨rfl, rfl⟩]
      refine ls_cong (fun c hc => ?_) r3
      rw [r_sR, if_neg (by omega), r_sR, if_neg (fun q => hns c hc q.2)], r4, by
      refine ls_2cong (fun c x hc hx => ⟨hx.1, ?_⟩) r5
      rw [r_sR, if_neg (by omega), r_sR, if_neg (by omega)]; exact hx.2⟩ hlen
  exact ⟨_, rfl, H.1, H.2, fun c hc => ⟨fun g hg => rfl, by rw [r_sR, if_neg (by omega), r_sR, if_neg (by omega)]⟩⟩
end RW
