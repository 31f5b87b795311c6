/-! ===== PURE: heaps: dropped, begun; headers ===== -/
section DH
variable {P T X j n : Nat} {z w w' : Wd} {b : Be} {A A' : Ta}
/-- a header's field set -/
theorem o_head (hT : Tm P T X z w b A) {g p : Nat} (hp : p < tN A 1 0) (hg : 400 ≤ g) (hg2 : g ≤ 409) (v : Int32) : Tm P T X z (wd_sI w g (b_pa b p) v) b (uI A g p v) ∧ Rl T w b (wd_sI w g (b_pa b p) v) b := by
  have hinj : ∀ i, i < tN A 1 0 → i ≠ p → b_pa b i ≠ b_pa b p := fun i hi hn => hT.inj hi hp hn
  obtain ⟨t1, t2, t3, t4, t5, t6, t7⟩ := hT
  have hD : Dm T b (b_pa b p) := dm_p (Nat.lt_of_lt_of_le hp t5.1)
  have hI : ∀ f a, (f < 400 ∨ 409 < f) → wd_I (wd_sI w g (b_pa b p) v) f a = wd_I w f a := fun f a hf => by rw [i_sI, if_neg (by omega)]
  have hag : ∀ a, ¬ Dm T b a → ag w (wd_sI w g (b_pa b p) v) a := fun a ha => ⟨fun f => by rw [i_sI, if_neg]; exact fun q => ha (q.2 ▸ hD), fun _ => rfl, fun _ => rfl, fun _ => rfl, rfl⟩
  refine ⟨⟨fun a ha => (t1 a ha).tr (hag a fun q => (t2.2.2.2.2.2.1 a q).2 ha), t2, ⟨t3.1, ?_, ?_, ?_, t3.2.2.2.2⟩, fun i hi => ⟨fun f h1 h2 => ?_, (t4 i hi).2⟩, t5, ⟨t6.1, t6.2.1, t6.2.2.1, ?_, ?_⟩, fun i hi => ?_⟩, ⟨⟨⟨fun _ _ => rfl, Nat.le_refl _, rfl, Nat.le_refl _, fun a _ hn => hag a hn, fun a ha => Or.inl ha, rfl, rfl, Nat.le_refl _⟩, rfl, fun a ha => ⟨hI _ _ (by omega), rfl, rfl⟩⟩, rfl, fun a ha => ⟨fun g hg => hI _ _ (by omega), rfl⟩⟩⟩
  · rw [hI _ _ (by omega)]; exact t3.2.1
  · rw [hI _ _ (by omega)]; exact t3.2.2.1
  · rw [hI _ _ (by omega)]; exact t3.2.2.2.1
  · rw [i_sI, tI_uI]
    have hi2 : i < tN A 1 0 := hi
    by_cases c : f = g ∧ i = p
    · rw [if_pos ⟨c.1, by rw [c.2]⟩, if_pos c]
    · rw [if_neg c, if_neg]
      · exact (t4 i hi2).1 f h1 h2
      · intro d
        exact hinj i hi2 (fun e => c ⟨d.1, e⟩) d.2
  · rw [hI _ _ (by omega)]; exact t6.2.2.2.1
  · refine ls_2cong (fun a x ha hx => ⟨fun f hf => ?_, hx.2⟩) t6.2.2.2.2
    rw [hI _ _ (by omega)]; exact hx.1 f hf
  · obtain ⟨s1, s2, s3, s4, s5⟩ := t7 i hi
    refine ⟨s1, ⟨s2.1, ?_⟩, ⟨?_, s3.2.1, s3.2.2.1, fun e he => ?_⟩, ⟨?_, s4.2.1, s4.2.2.1, s4.2.2.2.1, fun k e he => ?_⟩, ⟨?_, s5.2⟩⟩
    · rw [hI _ _ (by omega)]; exact s2.2
    · rw [hI _ _ (by omega)]; exact s3.1
    · rw [hI _ _ (by omega)]; exact s3.2.2.2 e he
    · rw [hI _ _ (by omega)]; exact s4.1
    · rw [hI _ _ (by omega), hI _ _ (by omega)]; exact s4.2.2.2.2 k e he
    · rw [hI _ _ (by omega)]; exact s5.1
/-- where the heap lies that is the k'th behind the drop of the d'th of m -/
def rt (d m k : Nat) : Nat := if k < d then k else if k + 1 < m then k + 1 else if k + 1 = m then d else k
theorem rt_3 {d m k : Nat} (hm : m ≤ 3) (hd : d < m) (hk : k < 3) : rt d m k < 3 := by unfold rt; split; omega; split; omega; split <;> omega
theorem rt_inj {d m k i : Nat} (hm : m ≤ 3) (hd : d < m) (hk : k < 3) (hi : i < 3) (h : rt d m k = rt d m i) : k = i := by
  have hd3 : d = 0 ∨ d = 1 ∨ d = 2 := by omega
  have hm3 : m = 1 ∨ m = 2 ∨ m = 3 := by omega
  have hk3 : k = 0 ∨ k = 1 ∨ k = 2 := by omega
  have hi3 : i = 0 ∨ i = 1 ∨ i = 2 := by omega
  rcases hd3 with rfl | rfl | rfl <;> rcases hm3 with rfl | rfl | rfl <;> rcases hk3 with rfl | rfl | rfl <;> rcases hi3 with rfl | rfl | rfl <;> first | rfl | (exact absurd h (by decide)) | omega
def ktd (b : Be) (j d m : Nat) : Nat → Nat → Nat := fun i k => if i = j then b_kh b j (rt d m k) else b_kh b i k
theorem o_dropHeap (hT : Tm P T X z w b A) (hj : j < 8) (hn : 4 ≤ n) {d : Nat} (hd : d < (tK A j).length) :
    ∃ v, f_X2_dropHeap n w (hA T j) (Int32.ofNat d) = some v ∧ Tm P T X z v (v_kh b (ktd b j d (tK A j).length)) (uK A j ((tK A j).eraseIdx d)) ∧ Rl T w b v (v_kh b (ktd b j d (tK A j).length)) ∧ wd_I v = wd_I (wd_sI w 202 (hA T j) (Int32.ofNat ((tK A j).length - 1))) ∧ wd_R v = wd_R w := by
  obtain ⟨s1, s2, s3, s4, s5⟩ := hT.2.2.2.2.2.2 j hj
  have hl := s4.2.1
  generalize hm : (tK A j).length = m at *
  have hD2 : Dm T b (hA T j + 2) := dm_h hj (by omega)
  have key : ∀ (c s f : Nat) (u : Wd), c = m - (s + 1) → d ≤ s → s < m → c < f → ah T b (hA T j) w u → wd_I u = wd_I w → wd_R u = wd_R w → wd_A u = wd_A w →
      (∀ k, k < 3 → wd_Q u (hA T j + 2) k = some (b_kh b j (if k < d then k else if k < s then k + 1 else k))) →
      ∃ v, wd_lp4 (f_X2_dropHeap_l9 n) f (hA T j) (some (b_kh b j d)) (Int32.ofNat s) u = some v ∧ ah T b (hA T j) w v ∧ wd_I v = wd_I (wd_sI w 202 (hA T j) (Int32.ofNat (m - 1))) ∧ wd_R v = wd_R w ∧ wd_A v = wd_A w ∧
        (∀ k, k < 3 → wd_Q v (hA T j + 2) k = some (b_kh b j (rt d m k))) := by
    intro c
    induction c with
    | zero =>
      intro s f u hc h1 h2 hf u1 u2 u3 u4 u5
      obtain ⟨f, rfl⟩ : ∃ k, f = k + 1 := ⟨f - 1, by omega⟩
      have hs : s + 1 = m := by omega
      refine ⟨wd_sQ (wd_sI u 202 (hA T j) (Int32.ofNat (m - 1))) (hA T j + 2) (m - 1) (some (b_kh b j d)), ?_, ah.sQ hD2 ⟨by omega, by omega⟩ (ah.sI (dm_h0 hj) (Or.inl ⟨by omega, by omega⟩) u1), ?_, u3, u4, fun k hk => ?_⟩
      · rw [wd_lp4, f_X2_dropHeap_l9, u2, s4.1, j_a1, if_pos (by rw [j_ll (by omega) (by omega)]; omega), wd_let, j_s1 (by omega), r_sI, u3, s1.2.2.1, Option.bind_some, Option.bind_some, i_sI, if_pos ⟨rfl, rfl⟩, n_sI, u1.2.1, s1.2.2.2.2.2.1, j_gd (j_in (by omega) (by omega)), wd_let, j_nn (by omega), hm]
      · rw [i_sQ]
        funext g a
        rw [i_sI, i_sI, u2]
      · rw [q_sQ, q_sI]
        by_cases c : k = m - 1
        · rw [if_pos ⟨rfl, c⟩]
          unfold rt
          rw [if_neg (by omega), if_neg (by omega), if_pos (by omega)]
        · rw [if_neg (fun q => c q.2), u5 k hk]
          unfold rt
          by_cases c1 : k < d
          · rw [if_pos c1, if_pos c1]
          · rw [if_neg c1, if_neg c1]
            by_cases c2 : k < s
            · rw [if_pos c2, if_pos (by omega)]
            · rw [if_neg c2, if_neg (by omega), if_neg (by omega)]
    | succ c ih =>
      intro s f u hc h1 h2 hf u1 u2 u3 u4 u5
      obtain ⟨f, rfl⟩ : ∃ k, f = k + 1 := ⟨f - 1, by omega⟩
      obtain ⟨v, v1, v2⟩ := ih (s + 1) f (wd_sQ u (hA T j + 2) s (some (b_kh b j (s + 1)))) (by omega) (by omega) (by omega) (by omega) (ah.sQ hD2 ⟨by omega, by omega⟩ u1) u2 u3 u4 (fun k hk => by
        rw [q_sQ]
        by_cases c : k = s
        · subst c
          rw [if_pos ⟨rfl, rfl⟩, if_neg (by omega), if_pos (by omega)]
        · rw [if_neg (fun q => c q.2), u5 k hk]
          by_cases c1 : k < d
          · rw [if_pos c1, if_pos c1]
          · rw [if_neg c1, if_neg c1]
            by_cases c2 : k < s
            · rw [if_pos c2, if_pos (by omega)]
            · rw [if_neg c2, if_neg (by omega)])
      refine ⟨v, ?_, v2⟩
      rw [wd_lp4, f_X2_dropHeap_l9, u2, s4.1, j_a1, if_neg (by rw [j_ll (by omega) (by omega)]; omega), u3, s1.2.2.1, Option.bind_some, u1.2.1, s1.2.2.2.2.2.1, j_gd (j_in (by omega) (by omega)), j_nn (by omega), u5 (s + 1) (by omega), if_neg (by omega), if_neg (by omega), Option.bind_some, j_gd (j_in (by omega) (by omega)), wd_let, wd_let, j_nn (by omega)]
      exact v1
  obtain ⟨v, v1, v2, v3, v4, v5, v6⟩ := key (m - (d + 1)) d n w rfl (by omega) hd (by omega) ah.rf rfl rfl rfl (fun k hk => by
    rw [(s4.2.2.1 k hk).1]
    congr 2
    split
    · rfl
    · rfl)
  have H : Tm P T X z v (v_kh b (ktd b j d m)) (uK A j ((tK A j).eraseIdx d)) ∧ Rl T w b v (v_kh b (ktd b j d m)) := by
    refine host_op (w' := v) (A' := uK A j ((tK A j).eraseIdx d)) hT (ktd b j d m) (fun i hi => by unfold ktd; simp only [if_neg hi]) hj v2 ⟨rfl, rfl, rfl, fun g x hg => rfl, fun i hi => ⟨rfl, ?_, fun x => rfl, rfl, rfl⟩⟩ (fun i _ _ e _ => ⟨by rw [v3, i_sI, if_neg (by omega)], by rw [v4], by rw [v4]⟩) (fun i _ _ e _ p _ => by rw [v4]) (fun q _ _ => ⟨by rw [v3, i_sI, if_neg (by omega)], by rw [v4], by rw [v4]⟩) ⟨?_, ⟨?_, ?_⟩, ⟨?_, ?_, ?_, ?_⟩, ⟨?_, ?_, fun k hk => ?_, fun i k hi hk h => ?_, fun k e he => ?_⟩, ⟨?_, s5.2.1, ?_⟩⟩
    · rw [tK_uK, if_neg hi]
    · exact ⟨by rw [v4]; exact s1.1, by rw [v4]; exact s1.2.1, by rw [v4]; exact s1.2.2.1, by rw [v4]; exact s1.2.2.2.1, by rw [v2.2.1]; exact s1.2.2.2.2.1, by rw [v2.2.1]; exact s1.2.2.2.2.2.1, by rw [v2.2.1]; exact s1.2.2.2.2.2.2⟩
    · rw [v5]; exact s2.1
    · rw [v3, i_sI, if_neg (by omega)]; exact s2.2
    · rw [v3, i_sI, if_neg (by omega)]; exact s3.1
    · rw [v4]; exact s3.2.1
    · rw [v4]; exact s3.2.2.1
    · intro e he
      rw [v3, i_sI, if_neg (by omega), v4]; exact s3.2.2.2 e he
    · rw [v3, i_sI, if_pos ⟨rfl, rfl⟩, tK_uK, if_pos rfl, List.length_eraseIdx, if_pos (by omega), hm]
    · rw [tK_uK, if_pos rfl, List.length_eraseIdx, if_pos (by omega)]; omega
    · have h3 := s4.2.2.1 _ (rt_3 hl hd hk)
      show wd_Q v _ k = some (ktd b j d m j k) ∧ _ ≤ ktd b j d m j k ∧ ktd b j d m j k < _
      unfold ktd
      simp only [if_true]
      exact ⟨v6 k hk, h3.2⟩
    · have h' : b_kh b j (rt d m i) = b_kh b j (rt d m k) := by
        have : ktd b j d m j i = ktd b j d m j k := h
        unfold ktd at this
        simpa using this
      exact rt_inj hl hd hi hk (s4.2.2.2.1 _ _ (rt_3 hl hd hi) (rt_3 hl hd hk) h')
    · rw [tK_uK, if_pos rfl] at he
      have hlt := (List.getElem?_eq_some_iff.mp he).1
      rw [List.length_eraseIdx, if_pos (by omega)] at hlt
      have he2 : (tK A j)[rt d m k]? = some e := by
        rw [List.getElem?_eraseIdx] at he
        unfold rt
        by_cases c1 : k < d
        · rw [if_pos c1] at he ⊢; exact he
        · rw [if_neg c1] at he ⊢
          rw [if_pos (by omega)]; exact he
      show wd_I v 100 (ktd b j d m j k) = _ ∧ wd_I v 101 (ktd b j d m j k) = _ ∧ ls_c (wd_R v 413) (wd_R v 102 (ktd b j d m j k)) _
      unfold ktd
      simp only [if_true]
      rw [v3, v4, i_sI, if_neg (by omega), i_sI, if_neg (by omega)]
      exact s4.2.2.2.2 _ e he2
    · rw [v3, i_sI, if_neg (by omega)]; exact s5.1
    · rw [v5]; exact s5.2.2
  refine ⟨v, ?_, H.1, H.2, v3, v4⟩
  rw [f_X2_dropHeap, s1.2.2.1, Option.bind_some, s1.2.2.2.2.2.1, j_gd (j_in (by omega) (by omega)), wd_let, j_nn (by omega), (s4.2.2.1 d (by omega)).1]
  exact v1
theorem o_begin23 (hT : Tm P T X z w b A) (hj : j < 8) (h3 : (tK A j).length < 3) {p : Nat} (hp : p < tN A 1 0) :
    ∃ v, f_X2_beginHeap_j23 n (hA T j) (some (b_pa b p)) w = some (Int32.ofNat (tK A j).length, v) ∧ Tm P T X z v b (uK A j (tK A j ++ [(tI A 401 p, tI A 405 p, [])])) ∧ Rl T w b v b := by
  obtain ⟨s1, s2, s3, s4, s5⟩ := hT.2.2.2.2.2.2 j hj
  have hkp := (hT.2.2.2.1 p hp).1
  generalize hm : (tK A j).length = m at *
  have q0 := s4.2.2.1 m h3
  have hDk : Dm T b (b_kh b j m) := Or.inl ⟨by have := q0.2.1; unfold hA at this; omega, by have := q0.2.2; unfold hA at this; omega⟩
  have hr : hA T j ≤ b_kh b j m ∧ b_kh b j m < hA T j + 7 := by omega
  have hu : f_X2_beginHeap_j23 n (hA T j) (some (b_pa b p)) w = some (Int32.ofNat m, wd_sI (wd_sR (wd_sI (wd_sI w 100 (b_kh b j m) (tI A 401 p)) 101 (b_kh b j m) (tI A 405 p)) 102 (b_kh b j m) none) 202 (hA T j) (Int32.ofNat (m + 1))) := by
    rw [f_X2_beginHeap_j23, s4.1, hm, wd_let, s1.2.2.1, Option.bind_some, s1.2.2.2.2.2.1, j_gd (j_in h3 (by omega)), j_nn (by omega), q0.1, Option.bind_some, f_X1_begin, Option.bind_some, wd_let, wd_let, wd_let, i_sI, if_neg (by omega), hkp 401 (by omega) (by omega), hkp 405 (by omega) (by omega), Option.bind_some, wd_let, i_sR, i_sI, if_neg (by omega), i_sI, if_neg (by omega), s4.1, hm, j_a1]
  have H : Tm P T X z (wd_sI (wd_sR (wd_sI (wd_sI w 100 (b_kh b j m) (tI A 401 p)) 101 (b_kh b j m) (tI A 405 p)) 102 (b_kh b j m) none) 202 (hA T j) (Int32.ofNat (m + 1))) b (uK A j (tK A j ++ [(tI A 401 p, tI A 405 p, [])])) ∧ Rl T w b (wd_sI (wd_sR (wd_sI (wd_sI w 100 (b_kh b j m) (tI A 401 p)) 101 (b_kh b j m) (tI A 405 p)) 102 (b_kh b j m) none) 202 (hA T j) (Int32.ofNat (m + 1))) b := by
    refine host_op (w' := wd_sI (wd_sR (wd_sI (wd_sI w 100 (b_kh b j m) (tI A 401 p)) 101 (b_kh b j m) (tI A 405 p)) 102 (b_kh b j m) none) 202 (hA T j) (Int32.ofNat (m + 1))) (A' := uK A j (tK A j ++ [(tI A 401 p, tI A 405 p, [])])) hT (b_kh b) (fun _ _ => rfl) hj (ah.sI (dm_h0 hj) (Or.inl ⟨by omega, by omega⟩) (ah.sR hDk (Or.inl hr) (ah.sI hDk (Or.inl hr) (ah.sI hDk (Or.inl hr) ah.rf)))) ⟨rfl, rfl, rfl, fun g x hg => rfl, fun i hi => ⟨rfl, ?_, fun x => rfl, rfl, rfl⟩⟩ (fun _ _ _ _ _ => ⟨rfl, rfl, rfl⟩) (fun _ _ _ _ _ _ _ => rfl) (fun _ _ _ => ⟨rfl, rfl, rfl⟩) ⟨s1, s2, s3, ⟨?_, ?_, s4.2.2.1, s4.2.2.2.1, fun k e he => ?_⟩, s5⟩
    · rw [tK_uK, if_neg hi]
    · rw [tK_uK, if_pos rfl, i_sI, if_pos ⟨rfl, rfl⟩, List.length_append, hm]; rfl
    · rw [tK_uK, if_pos rfl, List.length_append, hm]; simp; omega
    · rw [tK_uK, if_pos rfl] at he
      have A1 : wd_I (wd_sI (wd_sR (wd_sI (wd_sI w 100 (b_kh b j m) (tI A 401 p)) 101 (b_kh b j m) (tI A 405 p)) 102 (b_kh b j m) none) 202 (hA T j) (Int32.ofNat (m + 1))) 100 (b_kh b j k) = if b_kh b j k = b_kh b j m then tI A 401 p else wd_I w 100 (b_kh b j k) := by simp [i_sI, i_sR]
      have A2 : wd_I (wd_sI (wd_sR (wd_sI (wd_sI w 100 (b_kh b j m) (tI A 401 p)) 101 (b_kh b j m) (tI A 405 p)) 102 (b_kh b j m) none) 202 (hA T j) (Int32.ofNat (m + 1))) 101 (b_kh b j k) = if b_kh b j k = b_kh b j m then tI A 405 p else wd_I w 101 (b_kh b j k) := by simp [i_sI, i_sR]
      have A3 : wd_R (wd_sR w 102 (b_kh b j m) none) 102 (b_kh b j k) = if b_kh b j k = b_kh b j m then none else wd_R w 102 (b_kh b j k) := by simp [r_sR]
      show wd_I _ 100 (b_kh b j k) = _ ∧ wd_I _ 101 (b_kh b j k) = _ ∧ ls_c (wd_R w 413) (wd_R (wd_sR w 102 (b_kh b j m) none) 102 (b_kh b j k)) _
      rw [A1, A2, A3]
      by_cases c : k < m
      · rw [List.getElem?_append_left (by omega)] at he
        have hne : b_kh b j k ≠ b_kh b j m := fun d => by have := s4.2.2.2.1 k m (by omega) h3 d; omega
        rw [if_neg hne, if_neg hne, if_neg hne]
        exact s4.2.2.2.2 k e he
      · have hk : k = m := by
          have := (List.getElem?_eq_some_iff.mp he).1
          rw [List.length_append, hm] at this
          simp at this
          omega
        subst hk
        rw [List.getElem?_append_right (by omega), hm, Nat.sub_self] at he
        have he2 : (tI A 401 p, tI A 405 p, ([] : List Nat)) = e := Option.some.inj he
        subst he2
        rw [if_pos rfl, if_pos rfl, if_pos rfl]
        exact ⟨rfl, rfl, rfl⟩
  exact ⟨_, hu, H.1, H.2⟩
end DH
