/-! ===== PURE: a frame added ===== -/
section AD
variable {P T X n : Nat} {z w u : Wd} {b : Be} {A A' : Ta}
/-- what lies at addresses of its own, or of the plan, is all that a traffic is -/
theorem tm_ag0 (hT : Tm P T X z w b A) (hI : Ix A) (hd : ∀ a, Dm T b a → ag w u a) :
    Sc u T P b A ∧ Sk u b A ∧ Sp u (T + 2) b A ∧ Sr u (T + 1) b A ∧ ∀ i, i < 8 → Sg u P (hA T i) i b A := by
  have hpn : ∀ {i : Nat}, i < tN A 1 0 → ag w u (b_pa b i) := fun hi => hd _ (dm_p (hT.pn hi))
  have hin : ∀ k, k < 61 → ag w u (T + k) := fun k hk => hd _ (Or.inl ⟨by omega, by omega⟩)
  have h0 : ag w u T := hd _ (Or.inl ⟨by omega, by omega⟩)
  obtain ⟨t1, t2, t3, t4, t5, t6, t7⟩ := hT
  refine ⟨?_, ?_, ?_, ?_, fun i hi => ?_⟩
  · obtain ⟨⟨c1, c2, c3, c4, c5, c6, c7, c8⟩, c9, c10, c11, c12⟩ := t3
    refine ⟨⟨?_, ?_, ?_, ?_, ?_, ?_, ?_, fun i hi => ?_⟩, ?_, ?_, ?_, fun c hc' => ?_⟩
    · rw [h0.2.1]; exact c1
    · rw [h0.2.1]; exact c2
    · rw [h0.2.1]; exact c3
    · rw [h0.2.1]; exact c4
    · rw [h0.2.1]; exact c5
    · rw [(hin 3 (by omega)).2.2.2.2]; exact c6
    · rw [(hin 4 (by omega)).2.2.2.2]; exact c7
    · rw [(hin 3 (by omega)).2.2.2.1]; exact c8 i hi
    · rw [h0.1]; exact c9
    · rw [h0.1]; exact c10
    · rw [h0.1]; exact c11
    · rw [(hin 4 (by omega)).2.2.1]; exact c12 c hc'
  · intro i hi
    refine ⟨fun g g1 g2 => ?_, ?_⟩
    · rw [(hpn hi).1]; exact (t4 i hi).1 g g1 g2
    · rw [(hpn hi).2.1]; exact (t4 i hi).2
  · obtain ⟨p1, p2, p3, p4⟩ := t5
    refine ⟨p1, ?_, ?_, fun i hi => ?_⟩
    · rw [(hin 2 (by omega)).2.1]; exact p2
    · rw [(hin 2 (by omega)).2.1]; exact p3
    · rw [(hd _ (dm_p hi)).2.1]; exact p4 i hi
  · obtain ⟨r1, r2, r3, r4, r5⟩ := t6
    refine ⟨?_, ?_, ?_, ?_, ?_⟩
    · rw [(hin 1 (by omega)).2.1]
      exact ls_cong (fun a ha => (hd a (dm_f (List.mem_append_left _ ha))).2.1 6) r1
    · rw [(hin 1 (by omega)).2.1]; exact r2
    · rw [(hin 1 (by omega)).2.1]
      exact ls_cong (fun a ha => (hd a (dm_f (List.mem_append_right _ (List.mem_append_right _ ha)))).2.1 6) r3
    · rw [(hin 1 (by omega)).1]; exact r4
    · refine ls_2cong (fun a x ha hx => ⟨fun g hg => ?_, ?_⟩) r5
      · rw [(hd a (dm_f (List.mem_append_left _ ha))).1]; exact hx.1 g hg
      · rw [(hd a (dm_f (List.mem_append_left _ ha))).2.1]; exact hx.2
  · obtain ⟨s1, s2, s3, s4, s5⟩ := t7 i hi
    have g0 : ag w u (hA T i) := hd _ (dm_h0 hi)
    have gk : ∀ k, k < 7 → ag w u (hA T i + k) := fun k hk => hd _ (dm_h hi hk)
    refine ⟨⟨?_, ?_, ?_, ?_, ?_, ?_, ?_⟩, ⟨fun x hx => ?_, ?_⟩, ⟨?_, ?_, ?_, fun e he => ?_⟩, ⟨?_, s4.2.1, fun k hk => ?_, s4.2.2.2.1, fun k e he => ?_⟩, ⟨?_, s5.2.1, fun k f hk hf x hx => ?_⟩⟩
    · rw [g0.2.1]; exact s1.1
    · rw [g0.2.1]; exact s1.2.1
    · rw [g0.2.1]; exact s1.2.2.1
    · rw [g0.2.1]; exact s1.2.2.2.1
    · rw [(gk 1 (by omega)).2.2.2.2]; exact s1.2.2.2.2.1
    · rw [(gk 2 (by omega)).2.2.2.2]; exact s1.2.2.2.2.2.1
    · rw [(gk 3 (by omega)).2.2.2.2]; exact s1.2.2.2.2.2.2
    · rw [(gk 1 (by omega)).2.2.1]; exact s2.1 x hx
    · rw [g0.1]; exact s2.2
    · rw [g0.1]; exact s3.1
    · rw [g0.2.1]
      refine ls_cong (fun a ha => ?_) s3.2.1
      obtain ⟨e, he, rfl⟩ := List.mem_map.mp ha
      exact (hpn ((hI.1 i hi).1 e he).1).2.1 413
    · rw [g0.2.1]; exact s3.2.2.1
    · have := hpn ((hI.1 i hi).1 e he).1
      rw [this.1, this.2.1]; exact s3.2.2.2 e he
    · rw [g0.1]; exact s4.1
    · rw [(gk 2 (by omega)).2.2.2.1]; exact s4.2.2.1 k hk
    · have k3 : k < 3 := Nat.lt_of_lt_of_le (List.getElem?_eq_some_iff.mp he).1 s4.2.1
      have q := s4.2.2.1 k k3
      have r := s4.2.2.2.2 k e he
      have gq : ag w u (b_kh b i k) := hd _ (Or.inl ⟨by have := q.2.1; unfold hA at this; omega, by have := q.2.2; unfold hA at this; omega⟩)
      rw [gq.1, gq.1, gq.2.1]
      refine ⟨r.1, r.2.1, ls_cong (fun a ha => ?_) r.2.2⟩
      obtain ⟨p, hp, rfl⟩ := List.mem_map.mp ha
      exact (hpn ((hI.2 i hi e (List.mem_of_getElem? he)).1 p hp).1).2.1 413
    · rw [g0.1]; exact s5.1
    · rw [(gk 3 (by omega)).2.2.1]; exact s5.2.2 k f hk hf x hx
theorem tm_ag (hT : Tm P T X z w b A) (hI : Ix A) (hd : ∀ a, Dm T b a → ag w u a) (hp : ∀ a, pl P z a → ag w u a) :
    PW P z u ∧ Sc u T P b A ∧ Sk u b A ∧ Sp u (T + 2) b A ∧ Sr u (T + 1) b A ∧ ∀ i, i < 8 → Sg u P (hA T i) i b A := ⟨fun a ha => (hT.1 a ha).tr (hp a ha), tm_ag0 hT hI hd⟩
theorem ag_nw (w : Wd) {k m s a : Nat} (h : a < wd_H w) : ag w (wd_nw w k m s) a :=
  ⟨fun g => by rw [i_nw, if_neg (by omega)], fun g => by rw [r_nw, if_neg (by omega)], fun i => by rw [a_nw, if_neg (by omega)], fun i => by rw [q_nw, if_neg (by omega)], by rw [n_nw, if_neg (by omega)]⟩
/-- a new frame, in the hand -/
theorem o_newF (hT : Tm P T X z w b A) (hI : Ix A) (hfs : b_fs b = []) (hX : tN A 3 0 + 1 ≤ X) :
    ¬ (wd_M w = 0 ∨ wd_S w < 7) ∧ Tm P T X z (wd_nw w 1 0 7) (v_rw b (b_fl b) (wd_H w :: b_fh b) []) (uN A 3 0 (tN A 3 0 + 1)) ∧ Rk T w b (wd_nw w 1 0 7) (v_rw b (b_fl b) (wd_H w :: b_fh b) []) ∧ Rg (b_fh b) w (wd_nw w 1 0 7) := by
  have hag : ∀ a, a < wd_H w → ag w (wd_nw w 1 0 7) a := fun a ha => ag_nw w ha
  obtain ⟨d1, d2, d3, d4, d5, d6, d7, ⟨d8, d9, d10, d11⟩, dh, d12⟩ := hT.2.1
  obtain ⟨k1, k2, k3, k4, k5, k6⟩ := tm_ag hT hI (fun a ha => hag a (d6 a ha).1) (fun a ha => hag a (d7 a ha))
  have hcn : cn (v_rw b (b_fl b) (wd_H w :: b_fh b) []) = cn b + 1 := by
    show b_pn b + (b_fl b ++ ((wd_H w :: b_fh b) ++ [])).length = b_pn b + (b_fl b ++ (b_fh b ++ b_fs b)).length + 1
    rw [hfs]
    simp
    omega
  have hc2 : cn b = b_pn b + ((b_fl b).length + (b_fh b).length) := by
    show b_pn b + (b_fl b ++ (b_fh b ++ b_fs b)).length = _
    rw [hfs]
    simp
  have hm : ∀ a, a ∈ b_fl b ++ ((wd_H w :: b_fh b) ++ []) → a = wd_H w ∨ a ∈ b_fl b ++ (b_fh b ++ b_fs b) := fun a ha => by
    rw [hfs]
    simp at ha ⊢
    rcases ha with ha | ha | ha
    · exact Or.inr (Or.inl ha)
    · exact Or.inl ha
    · exact Or.inr (Or.inr ha)
  have hnew : ∀ a, a ∈ b_fl b ++ (b_fh b ++ b_fs b) → a ≠ wd_H w := fun a ha => by
    have := (d6 a (dm_f ha)).1
    omega
  have hge : T + 61 ≤ wd_H w := by
    have := (d6 (T + 60) (Or.inl ⟨by omega, by omega⟩)).1
    omega
  have hdm : ∀ a, Dm T (v_rw b (b_fl b) (wd_H w :: b_fh b) []) a → Dm T b a ∨ a = wd_H w := fun a ha => by
    rcases ha with ha | ha | ha
    · exact Or.inl (Or.inl ha)
    · exact Or.inl (Or.inr (Or.inl ha))
    · rcases hm a ha with q | q
      · exact Or.inr q
      · exact Or.inl (dm_f q)
  refine ⟨by omega, ⟨k1, ⟨d1, d2, fun a ha => ?_, d4, ?_, fun a ha => ?_, fun a ha => ?_, ⟨d8, ?_, ?_, ?_⟩, dh, ?_⟩, k2, k3, k4, ?_, k6⟩, ?_, fun a ha => ⟨fun g _ => (hag a (d6 a (dm_f (List.mem_append_right _ (List.mem_append_left _ ha)))).1).1 g, (hag a (d6 a (dm_f (List.mem_append_right _ (List.mem_append_left _ ha)))).1).2.1 5⟩⟩
  · rcases hm a ha with q | q
    · rw [q]; exact hge
    · exact d3 a q
  · show (b_fl b ++ ((wd_H w :: b_fh b) ++ [])).Nodup
    rw [List.append_nil]
    have e : b_fl b ++ (b_fh b ++ b_fs b) = b_fl b ++ b_fh b := by rw [hfs, List.append_nil]
    rw [e] at d5 hnew
    exact (List.perm_middle.nodup_iff).mpr (List.nodup_cons.mpr ⟨fun q => hnew _ q rfl, d5⟩)
  · rcases hdm a ha with q | q
    · exact ⟨Nat.lt_succ_of_lt (d6 a q).1, (d6 a q).2⟩
    · rw [q]
      exact ⟨Nat.lt_succ_self _, fun c => absurd (d7 _ c) (Nat.lt_irrefl _)⟩
  · exact Nat.lt_succ_of_lt (d7 a ha)
  · show (b_fl b ++ ((wd_H w :: b_fh b) ++ [])).length ≤ X
    simp
    omega
  · rw [hcn, m_nw]; omega
  · rw [hcn, s_nw]; omega
  · show (b_fl b).length + (wd_H w :: b_fh b).length ≤ tN (uN A 3 0 (tN A 3 0 + 1)) 3 0
    rw [tN_uN, if_pos ⟨rfl, rfl⟩, List.length_cons]; omega
  · obtain ⟨r1, r2, r3, r4, r5⟩ := k5
    rw [hfs] at r3
    exact ⟨r1, r2, r3, r4, r5⟩
  · refine ⟨⟨fun _ _ => rfl, Nat.le_refl _, rfl, Nat.le_succ _, fun a ha _ => hag a ha, fun a ha => ?_, ?_, ?_, ?_⟩, rfl, fun a ha => ?_⟩
    · rcases hdm a ha with q | q
      · exact Or.inl q
      · exact Or.inr (by omega)
    · rw [m_nw, h_nw]; omega
    · rw [hcn, h_nw]; omega
    · rw [hcn, s_nw]; omega
    · obtain ⟨r, r1, r2, r3⟩ := dh a ha
      have := hag a (by rw [r2]; exact (d6 _ (dm_p (hT.pn r1))).1)
      exact ⟨this.1 _, this.2.1 _, this.2.1 _⟩
/-- a spare frame, in the hand -/
theorem o_spareF (hT : Tm P T X z w b A) {a : Nat} {l : List Nat} (hfs : b_fs b = a :: l) :
    wd_R w 803 (T + 1) = some a ∧ Tm P T X z (wd_sR w 803 (T + 1) (wd_R w 6 a)) (v_rw b (b_fl b) (a :: b_fh b) l) (uN A 3 0 (tN A 3 0 + 1)) ∧ Rk T w b (wd_sR w 803 (T + 1) (wd_R w 6 a)) (v_rw b (b_fl b) (a :: b_fh b) l) ∧ Rg (b_fh b) w (wd_sR w 803 (T + 1) (wd_R w 6 a)) := by
  obtain ⟨r1, r2, r3, r4, r5⟩ := hT.2.2.2.2.2.1
  have d12 := hT.2.1.2.2.2.2.2.2.2.2.2
  rw [hfs] at r3
  refine ⟨r3.1, and_assoc.mp ⟨?_, fun c hc => ⟨fun g hg => rfl, by rw [r_sR, if_neg (by omega)]⟩⟩⟩
  refine row_op (u := wd_sR w 803 (T + 1) (wd_R w 6 a)) (A' := uN A 3 0 (tN A 3 0 + 1)) hT (b_fl b) (a :: b_fh b) l (fun g c h1 h2 => ⟨rfl, by rw [r_sR, if_neg (by omega)]⟩) rfl rfl rfl rfl rfl rfl (ag_sR dm_r fun c _ => ag.rf _ _) ?_ ⟨rfl, rfl, rfl, rfl, rfl, rfl, fun g x hg => ?_⟩ ⟨?_, ?_, ?_, r4, ?_⟩ ?_
  · rw [hfs]
    refine List.Perm.append_left _ ?_
    rw [List.cons_append]
    exact List.perm_middle.symm
  · rw [tN_uN, if_neg (fun q => hg q.1)]
  · rw [r_sR, if_neg (by omega)]
    exact ls_cong (fun c _ => by rw [r_sR, if_neg (by omega)]) r1
  · rw [r_sR, if_neg (by omega)]; exact r2
  · rw [r_sR, if_pos ⟨rfl, rfl⟩]
    exact ls_cong (fun c _ => by rw [r_sR, if_neg (by omega)]) r3.2
  · refine ls_2cong (fun c x _ hx => ⟨hx.1, ?_⟩) r5
    rw [r_sR, if_neg (by omega)]; exact hx.2
  · show (b_fl b).length + (a :: b_fh b).length ≤ tN (uN A 3 0 (tN A 3 0 + 1)) 3 0
    rw [tN_uN, if_pos ⟨rfl, rfl⟩, List.length_cons]; omega
def fv (c m to so ad : Int32) : Nat → Int32
  | 0 => c
  | 1 => m
  | 2 => to
  | 3 => so
  | _ => ad
/-- the frame in the hand filled, and put behind the last -/
theorem o_add32 (hT : Tm P T X z w b A) {a q : Nat} {l : List Nat} (hh : b_fh b = a :: l) (so to ad : Int32) (o : Option Nat) :
    ∃ w', f_X8_add_j32 n (T + 1) so (some q) to ad (o.map (b_pa b)) (some a) w = some w' ∧ Tm P T X z w' (v_rw b (b_fl b ++ [a]) l (b_fs b)) (uF A (tF A ++ [(fv (wd_I w 701 q) (wd_I w 700 q) to so ad, o)])) ∧ Rk T w b w' (v_rw b (b_fl b ++ [a]) l (b_fs b)) ∧ Rg l w w' := by
  obtain ⟨r1, r2, r3, r4, r5⟩ := hT.2.2.2.2.2.1
  have hnd := hT.2.1.2.2.2.2.1
  have d12 := hT.2.1.2.2.2.2.2.2.2.2.2
  rw [hh] at hnd d12
  rw [List.nodup_append] at hnd
  have hna : ∀ c, c ∈ b_fl b → c ≠ a := fun c hc => hnd.2.2 c hc a (by simp)
  have hns : ∀ c, c ∈ b_fs b → c ≠ a := fun c hc d => by
    have := hnd.2.1
    rw [List.cons_append, List.nodup_cons] at this
    exact this.1 (d ▸ List.mem_append_right _ hc)
  have hnl : ∀ c, c ∈ l → c ≠ a := fun c hc d => by
    have := hnd.2.1
    rw [List.cons_append, List.nodup_cons] at this
    exact this.1 (d ▸ List.mem_append_left _ hc)
  have hD : Dm T b a := dm_f (by rw [hh]; simp)
  have hperm : ((b_fl b ++ [a]) ++ (l ++ b_fs b)).Perm (b_fl b ++ (b_fh b ++ b_fs b)) := by
    rw [hh, List.append_assoc]; exact List.Perm.refl _
  have hlen : (b_fl b ++ [a]).length + l.length ≤ tN A 3 0 := by
    simp at d12 ⊢
    omega
  -- the frame filled
  generalize hv : wd_sR (wd_sR (wd_sI (wd_sI (wd_sI (wd_sI (wd_sI w 3 a so) 0 a (wd_I w 701 q)) 1 a (wd_I w 700 q)) 2 a to) 4 a ad) 5 a (o.map (b_pa b))) 6 a none = v
  have v1 : ∀ g, g < 5 → wd_I v g a = fv (wd_I w 701 q) (wd_I w 700 q) to so ad g := fun g hg => by
    have : g = 0 ∨ g = 1 ∨ g = 2 ∨ g = 3 ∨ g = 4 := by omega
    rw [← hv]
    rcases this with rfl | rfl | rfl | rfl | rfl <;> simp [i_sI, i_sR, fv]
  have v2 : ∀ g c, c ≠ a → wd_I v g c = wd_I w g c ∧ wd_R v g c = wd_R w g c := fun g c hc => by
    rw [← hv]
    simp [i_sI, i_sR, r_sI, r_sR, hc]
  have v3 : ∀ g c, 7 ≤ g → wd_I v g c = wd_I w g c ∧ wd_R v g c = wd_R w g c := fun g c hg => by
    rw [← hv]
    constructor
    · simp only [i_sI, i_sR]
      rw [if_neg (by omega), if_neg (by omega), if_neg (by omega), if_neg (by omega), if_neg (by omega)]
    · simp only [r_sI, r_sR]
      rw [if_neg (by omega), if_neg (by omega)]
  have v4 : wd_R v 5 a = o.map (b_pa b) ∧ wd_R v 6 a = none := by
    rw [← hv]
    constructor
    · simp [r_sR]
    · simp [r_sR]
  have v5 : wd_A v = wd_A w ∧ wd_Q v = wd_Q w ∧ wd_N v = wd_N w ∧ wd_H v = wd_H w ∧ wd_M v = wd_M w ∧ wd_S v = wd_S w := by
    rw [← hv]
    exact ⟨rfl, rfl, rfl, rfl, rfl, rfl⟩
  have v6 : ∀ c, ¬ Dm T b c → ag w v c := by
    rw [← hv]
    exact ag_sR hD (ag_sR hD (ag_sI hD (ag_sI hD (ag_sI hD (ag_sI hD (ag_sI hD fun c _ => ag.rf _ _))))))
  have hj : f_X8_add_j32 n (T + 1) so (some q) to ad (o.map (b_pa b)) (some a) w = wd_on (wd_R v 802 (T + 1)) (wd_let (wd_sR v 800 (T + 1) (some a)) fun w30 => f_X8_add_j107 n (T + 1) (some a) w30) (fun a22 => Option.bind (wd_R v 802 (T + 1)) fun a23 => wd_let (wd_sR v 6 a23 (some a)) fun w24 => f_X8_add_j107 n (T + 1) (some a) w24) := by
    rw [← hv]
    rfl
  rw [hj, (v3 802 _ (by omega)).2, r2]
  -- both ends
  have fin : ∀ x : Wd, (∀ g c, 7 ≤ g → (g < 800 ∨ 803 < g) → wd_I x g c = wd_I v g c ∧ wd_R x g c = wd_R v g c) → wd_I x = wd_I v → (∀ g c, g ≠ 6 → g ≠ 800 → wd_R x g c = wd_R v g c) → wd_A x = wd_A v ∧ wd_Q x = wd_Q v ∧ wd_N x = wd_N v ∧ wd_H x = wd_H v ∧ wd_M x = wd_M v ∧ wd_S x = wd_S v → (∀ c, ¬ Dm T b c → ag w x c) →
      ls_c (wd_R x 6) (wd_R x 800 (T + 1)) (b_fl b ++ [a]) → (∀ c, c ∈ b_fs b → wd_R x 6 c = wd_R w 6 c) →
      ∃ w', f_X8_add_j107 n (T + 1) (some a) x = some w' ∧ Tm P T X z w' (v_rw b (b_fl b ++ [a]) l (b_fs b)) (uF A (tF A ++ [(fv (wd_I w 701 q) (wd_I w 700 q) to so ad, o)])) ∧ Rk T w b w' (v_rw b (b_fl b ++ [a]) l (b_fs b)) ∧ Rg l w w' := by
    intro x x1 x2 x3 x4 x5 x6 x7
    refine ⟨wd_sI (wd_sR x 802 (T + 1) (some a)) 801 (T + 1) (wd_I x 801 (T + 1) + 1), rfl, and_assoc.mp ⟨?_, fun c hc => ⟨fun g hg => by rw [i_sI, if_neg (by omega), i_sR, x2]; exact (v2 g c (hnl c hc)).1, by rw [r_sI, r_sR, if_neg (by omega), x3 5 _ (by omega) (by omega)]; exact (v2 5 c (hnl c hc)).2⟩⟩⟩
    refine row_op (u := wd_sI (wd_sR x 802 (T + 1) (some a)) 801 (T + 1) (wd_I x 801 (T + 1) + 1)) (A' := uF A (tF A ++ [(fv (wd_I w 701 q) (wd_I w 700 q) to so ad, o)])) hT (b_fl b ++ [a]) l (b_fs b) (fun g c h1 h2 => ?_) (x4.1.trans v5.1) (x4.2.1.trans v5.2.1) (x4.2.2.1.trans v5.2.2.1) (x4.2.2.2.1.trans v5.2.2.2.1) (x4.2.2.2.2.1.trans v5.2.2.2.2.1) (x4.2.2.2.2.2.trans v5.2.2.2.2.2) (ag_sI dm_r (ag_sR dm_r x5)) hperm ⟨rfl, rfl, rfl, rfl, rfl, rfl, fun _ _ _ => rfl⟩ ⟨?_, ?_, ?_, ?_, ?_⟩ hlen
    · exact ⟨by rw [i_sI, if_neg (by omega), i_sR, (x1 g c h1 h2).1, (v3 g c h1).1], by rw [r_sI, r_sR, if_neg (by omega), (x1 g c h1 h2).2, (v3 g c h1).2]⟩
    · show ls_c (wd_R (wd_sI (wd_sR x 802 (T + 1) (some a)) 801 (T + 1) (wd_I x 801 (T + 1) + 1)) 6) (wd_R (wd_sI (wd_sR x 802 (T + 1) (some a)) 801 (T + 1) (wd_I x 801 (T + 1) + 1)) 800 (T + 1)) (b_fl b ++ [a])
      rw [r_sI, r_sR, if_neg (by omega)]
      exact ls_cong (fun c _ => by rw [r_sR, if_neg (by omega)]) x6
    · show wd_R (wd_sI (wd_sR x 802 (T + 1) (some a)) 801 (T + 1) (wd_I x 801 (T + 1) + 1)) 802 (T + 1) = (b_fl b ++ [a]).getLast?
      rw [r_sI, r_sR, if_pos ⟨rfl, rfl⟩, List.getLast?_append]; rfl
    · show ls_c (wd_R (wd_sI (wd_sR x 802 (T + 1) (some a)) 801 (T + 1) (wd_I x 801 (T + 1) + 1)) 6) (wd_R (wd_sI (wd_sR x 802 (T + 1) (some a)) 801 (T + 1) (wd_I x 801 (T + 1) + 1)) 803 (T + 1)) (b_fs b)
      rw [r_sI, r_sR, if_neg (by omega), x3 803 _ (by omega) (by omega), (v3 803 _ (by omega)).2]
      exact ls_cong (fun c hc => by rw [r_sR, if_neg (by omega)]; exact x7 c hc) r3
    · show wd_I (wd_sI (wd_sR x 802 (T + 1) (some a)) 801 (T + 1) (wd_I x 801 (T + 1) + 1)) 801 (T + 1) = Int32.ofNat (b_fl b ++ [a]).length
      rw [i_sI, if_pos ⟨rfl, rfl⟩, x2, (v3 801 _ (by omega)).1, r4, j_a1, List.length_append]; rfl
    · show ls_2 _ (b_fl b ++ [a]) (tF A ++ [(fv (wd_I w 701 q) (wd_I w 700 q) to so ad, o)])
      refine ls_2app ⟨fun g hg => ?_, ?_⟩ (ls_2cong (fun c f hc hx => ⟨fun g hg => ?_, ?_⟩) r5)
      · rw [i_sI, if_neg (by omega), i_sR, x2]; exact v1 g hg
      · rw [r_sI, r_sR, if_neg (by omega), x3 5 _ (by omega) (by omega)]; exact v4.1
      · rw [i_sI, if_neg (by omega), i_sR, x2, (v2 g c (hna c hc)).1]; exact hx.1 g hg
      · rw [r_sI, r_sR, if_neg (by omega), x3 5 _ (by omega) (by omega), (v2 5 c (hna c hc)).2]; exact hx.2
  rcases List.eq_nil_or_concat (b_fl b) with hn | ⟨l0, e0, hn⟩
  · have hgl : (b_fl b).getLast? = none := by rw [hn]; rfl
    rw [hgl, wd_on_N, wd_let]
    refine fin (wd_sR v 800 (T + 1) (some a)) (fun g c h1 h2 => ⟨rfl, by rw [r_sR, if_neg (by omega)]⟩) rfl (fun g c h1 h2 => by rw [r_sR, if_neg (fun q => h2 q.1)]) ⟨rfl, rfl, rfl, rfl, rfl, rfl⟩ (ag_sR dm_r v6) ?_ (fun c hc => by rw [r_sR, if_neg (by omega), (v2 6 c (hns c hc)).2])
    rw [hn, r_sR, if_pos ⟨rfl, rfl⟩]
    refine ⟨rfl, ?_⟩
    show wd_R (wd_sR v 800 (T + 1) (some a)) 6 a = none
    rw [r_sR, if_neg (by omega)]; exact v4.2
  · have he0 : e0 ∈ b_fl b := by rw [hn]; simp
    have hgl : (b_fl b).getLast? = some e0 := by rw [hn]; simp
    rw [hgl, wd_on_S, Option.bind_some, wd_let]
    refine fin (wd_sR v 6 e0 (some a)) (fun g c h1 h2 => ⟨rfl, by rw [r_sR, if_neg (by omega)]⟩) rfl (fun g c h1 h2 => by rw [r_sR, if_neg (fun q => h1 q.1)]) ⟨rfl, rfl, rfl, rfl, rfl, rfl⟩ (ag_sR (dm_f (List.mem_append_left _ he0)) v6) ?_ (fun c hc => ?_)
    · rw [r_sR, if_neg (by omega), (v3 800 _ (by omega)).2]
      have h8 := r1
      rw [hn, List.concat_eq_append] at h8
      rw [hn, List.concat_eq_append]
      have hnd0 := hnd.1
      rw [hn, List.concat_eq_append, List.nodup_append] at hnd0
      refine ls_snoc (F := wd_R w 6) ?_ ?_ (fun c hc => ?_) h8
      · rw [r_sR, if_pos ⟨rfl, rfl⟩]
      · rw [r_sR, if_neg (fun q => hna e0 he0 q.2.symm)]; exact v4.2
      · have hm : c ∈ b_fl b := by rw [hn]; simp [hc]
        rw [r_sR, if_neg (fun q => hnd0.2.2 c hc e0 (List.mem_singleton.mpr rfl) q.2), (v2 6 c (hna c hm)).2]
    · rw [r_sR, if_neg (fun q => hnd.2.2 e0 he0 c (List.mem_append_right _ hc) q.2.symm), (v2 6 c (hns c hc)).2]
/-- a frame added -/
theorem o_add (hT : Tm P T X z w b A) (hI : Ix A) (hX : tN A 3 0 + 1 ≤ X) {q : Nat} {c m : Int32} (hq : pl P z q) (hc : wd_I z 701 q = c) (hm : wd_I z 700 q = m) (so to ad : Int32) (o : Option Nat) :
    ∃ w' b', f_X8_add n w (T + 1) so (some q) to ad (o.map (b_pa b)) = some w' ∧ Tm P T X z w' b' (uF (uN A 3 0 (tN A 3 0 + 1)) (tF A ++ [(fv c m to so ad, o)])) ∧ Rl T w b w' b' ∧ b_pa b' = b_pa b ∧ b_pn b' = b_pn b ∧ b_fh b' = b_fh b := by
  have hr3 := hT.2.2.2.2.2.1.2.2.1
  unfold f_X8_add
  cases hfs : b_fs b with
  | nil =>
    rw [hfs] at hr3
    obtain ⟨g1, g2, g3, g4⟩ := o_newF hT hI hfs hX
    obtain ⟨v, h1, h2, h3, h4⟩ := o_add32 (n := n) (q := q) (l := b_fh b) (a := wd_H w) g2 rfl so to ad o
    have hp := g2.1 q hq
    rw [hp.1, hp.1, hc, hm] at h2
    refine ⟨v, _, ?_, h2, ⟨g3.tr h3, rfl, g4.tr h4⟩, rfl, rfl, rfl⟩
    rw [show wd_R w 803 (T + 1) = none from hr3, wd_let, wd_on_N, j_gd g1, wd_let, wd_let, f_X0_init, Option.bind_some]
    exact h1
  | cons a l =>
    obtain ⟨g1, g2, g3, g4⟩ := o_spareF hT hfs
    obtain ⟨v, h1, h2, h3, h4⟩ := o_add32 (n := n) (q := q) (l := b_fh b) (a := a) g2 rfl so to ad o
    have hp := g2.1 q hq
    rw [hp.1, hp.1, hc, hm] at h2
    refine ⟨v, _, ?_, h2, ⟨g3.tr h3, rfl, g4.tr h4⟩, rfl, rfl, rfl⟩
    rw [g1, wd_let, wd_on_S, wd_let]
    exact h1
end AD
