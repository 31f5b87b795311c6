/-! ===== PURE: the plan made ===== -/
section NEW3
variable {P T i j n h m : Nat} {w u v : Wd}
theorem i_X3 {x : Int32} (hH : wd_H w = m + 1) (hM : 8 ≤ wd_M w) (hS : 792 ≤ wd_S w) (hI : ∀ g, wd_I w g m = 0) (hn : 300 ≤ n) : ∃ v, f_X3_init n w m x = some v ∧ MG v m x ∧ (∀ a, a < m → ag w v a) ∧ wd_H v = m + 9 ∧ wd_M v + 8 = wd_M w ∧ wd_S v + 792 = wd_S w := by
  obtain ⟨v, v1, v2, v3, v4, v5, v6⟩ := i_X3a (n := n) (x := x) hH hM hS hI
  obtain ⟨⟨-, -, -, -, -, r6, r7, r8⟩, ⟨-, -, -, -, -, n6, n7, n8⟩, -, -⟩ := id v2
  refine ⟨wd_sF (wd_sF (wd_sF v (m + 6) (fun i => if i < 256 then -1 else wd_A v (m + 6) i)) (m + 7) (fun i => if i < 256 then -1 else wd_A (wd_sF v (m + 6) (fun i => if i < 256 then -1 else wd_A v (m + 6) i)) (m + 7) i)) (m + 8) (fun i => if i < 256 then -1 else wd_A (wd_sF (wd_sF v (m + 6) (fun i => if i < 256 then -1 else wd_A v (m + 6) i)) (m + 7) (fun i => if i < 256 then -1 else wd_A (wd_sF v (m + 6) (fun i => if i < 256 then -1 else wd_A v (m + 6) i)) (m + 7) i)) (m + 8) i), ?_, ⟨v2.ag ⟨fun _ => rfl, fun _ => rfl⟩ (fun _ => rfl) (fun _ _ _ => rfl), fun k hk => ⟨?_, ?_, ?_⟩⟩, fun a ha => (v3 a ha).tr ⟨fun _ => rfl, fun _ => rfl, fun i => ?_, fun _ => rfl, rfl⟩, v4, v5, v6⟩
  · rw [v1, r6, fil _ _ _ (by rw [n6]; omega) (by rw [n6]; omega), n6, Option.bind_some, r_sF, r7, fil _ _ _ (by rw [n_sF, n7]; omega) (by rw [n_sF, n7]; omega), n_sF, n7, Option.bind_some, r_sF, r_sF, r8, fil _ _ _ (by rw [n_sF, n_sF, n8]; omega) (by rw [n_sF, n_sF, n8]; omega), n_sF, n_sF, n8, Option.bind_some]
  · rw [a_sF, if_neg (by omega), a_sF, if_neg (by omega), a_sF, if_pos rfl, if_pos hk]
  · rw [a_sF, if_neg (by omega), a_sF, if_pos rfl, if_pos hk]
  · rw [a_sF, if_pos rfl, if_pos hk]
  · rw [a_sF, if_neg (by omega), a_sF, if_neg (by omega), a_sF, if_neg (by omega)]
theorem s_805 {a b c E : Nat} (h1 : a + E = b) (h2 : b + 792 = c - 13) (h3 : E + 805 ≤ c) : a + (E + 805) = c := by
  have h4 : 13 ≤ c := Nat.le_trans (Nat.le_trans (by decide : 13 ≤ 805) (Nat.le_add_left _ _)) h3
  have h5 : c = c - 13 + 13 := (Nat.sub_add_cancel h4).symm
  rw [h5, ← h2, ← h1, Nat.add_assoc (a + E) 792 13, Nat.add_assoc a E (792 + 13)]
theorem i_X5l (hn : 300 ≤ n) : ∀ (k t m : Nat) (w : Wd), t + k = 8 → k < m → wd_R w 502 P = some (P + 2) → wd_N w (P + 2) = 8 → wd_H w = P + 4 + 9 * t → 9 * k ≤ wd_M w → 805 * k ≤ wd_S w → (∀ j, j < t → wd_Q w (P + 2) j = some (mA P j) ∧ MG w (mA P j) (Int32.ofNat j)) →
    ∃ v, wd_lp3 (f_X5_init_l33 n) m P (Int32.ofNat t) w = some v ∧ (∀ j, j < 8 → wd_Q v (P + 2) j = some (mA P j) ∧ MG v (mA P j) (Int32.ofNat j)) ∧ wd_N v (P + 2) = 8 ∧ wd_H v = P + 76 ∧ wd_M v + 9 * k = wd_M w ∧ wd_S v + 805 * k = wd_S w ∧ (∀ a, a < P + 4 → a ≠ P + 2 → ag w v a) := by
  intro k
  induction k with
  | zero =>
    intro t m w ht hm h1 h2 h3 h4 h5 h6
    obtain ⟨m, rfl⟩ : ∃ r, m = r + 1 := ⟨m - 1, by omega⟩
    exact ⟨w, by rw [wd_lp3, f_X5_init_l33, if_pos (by rw [show (8 : Int32) = Int32.ofNat 8 from rfl, j_ll (by omega) (by omega)]; omega)], fun j hj => h6 j (by omega), h2, by omega, rfl, rfl, fun a _ _ => ag.rf _ _⟩
  | succ k ih =>
    intro t m w ht hm h1 h2 h3 h4 h5 h6
    obtain ⟨m, rfl⟩ : ∃ r, m = r + 1 := ⟨m - 1, by omega⟩
    rw [show 805 * (k + 1) = 805 * k + 805 from Nat.mul_succ _ _] at h5 ⊢
    generalize 805 * k = E at h5 ih ⊢
    have hg1 : ∀ a, a ≠ wd_H w → ag w (wd_nw w 4 0 13) a := fun a ha => ⟨fun g => by rw [i_nw, if_neg ha], fun g => by rw [r_nw, if_neg ha], fun g => by rw [a_nw, if_neg ha], fun g => by rw [q_nw, if_neg ha], by rw [n_nw, if_neg ha]⟩
    obtain ⟨u, u1, u2, u3, u4, u5, u6⟩ := i_X3 (n := n) (w := wd_nw w 4 0 13) (m := P + 4 + 9 * t) (x := Int32.ofNat t) (by rw [h_nw, h3]) (by rw [m_nw]; omega) (by rw [s_nw]; omega) (fun g => by rw [i_nw, if_pos h3.symm]) hn
    rw [m_nw] at u5
    rw [s_nw] at u6
    have hg2 : ∀ a, a < P + 4 + 9 * t → ag w u a := fun a ha => (hg1 a (by omega)).tr (u3 a ha)
    have hg3 : ∀ a, a ≠ P + 2 → ag u (wd_sQ u (P + 2) t (some (P + 4 + 9 * t))) a := fun a ha => ⟨fun _ => rfl, fun _ => rfl, fun _ => rfl, fun g => by rw [q_sQ, if_neg (fun q => ha q.1)], rfl⟩
    obtain ⟨v, v1, v2, v3, v4, v5, v6, v7⟩ := ih (t + 1) m (wd_sQ u (P + 2) t (some (P + 4 + 9 * t))) (by omega) (by omega)
      (by rw [r_sQ, (hg2 P (by omega)).2.1]; exact h1) (by rw [n_sQ, (hg2 (P + 2) (by omega)).2.2.2.2]; exact h2) (by rw [h_sQ]; omega) (by rw [m_sQ]; omega) (by rw [s_sQ]; omega)
      (fun j hj => by
        by_cases e : j = t
        · rw [e]
          exact ⟨by rw [q_sQ, if_pos ⟨rfl, rfl⟩], u2.ag (fun a ha _ => hg3 a (by omega))⟩
        · obtain ⟨g1, g2⟩ := h6 j (by omega)
          exact ⟨by rw [q_sQ, if_neg (fun q => e q.2), (hg2 (P + 2) (by omega)).2.2.2.1]; exact g1, g2.ag (fun a ha hb => by
            have e : mA P j = P + 4 + 9 * j := rfl
            exact (hg2 a (by omega)).tr (hg3 a (by omega)))⟩)
    rw [m_sQ] at v5
    rw [s_sQ] at v6
    refine ⟨v, ?_, v2, v3, v4, by omega, s_805 v6 u6 h5, fun a ha hb => ((hg2 a (by omega)).tr (hg3 a hb)).tr (v7 a ha hb)⟩
    rw [wd_lp3, f_X5_init_l33, if_neg (by rw [show (8 : Int32) = Int32.ofNat 8 from rfl, j_ll (by omega) (by omega)]; omega), j_gd (by omega), wd_let, wd_let, h3, u1, Option.bind_some, h1, Option.bind_some, j_gd (by rw [(hg2 (P + 2) (by omega)).2.2.2.2, h2]; exact j_in (by omega) (by omega)), j_nn (by omega), wd_let, wd_let, j_a1]
    exact v1
/-- a new plan -/
def PF (w : Wd) (P : Nat) : Prop :=
  (wd_R w 500 P = some (P + 1) ∧ wd_R w 502 P = some (P + 2) ∧ wd_R w 504 P = some (P + 3) ∧ wd_N w (P + 1) = 8 ∧ wd_N w (P + 2) = 8 ∧ wd_N w (P + 3) = 256) ∧
  (wd_I w 501 P = 0 ∧ wd_I w 503 P = 0) ∧ (∀ x, wd_Q w (P + 3) x = none) ∧ ∀ j, j < 8 → wd_Q w (P + 2) j = some (mA P j) ∧ MG w (mA P j) (Int32.ofNat j)
theorem PF.ag (hF : PF w P) (hag : ∀ a, P ≤ a → a < P + 76 → ag w v a) : PF v P := by
  obtain ⟨h1, h2, h3, h4⟩ := hF
  have a0 := hag P (by omega) (by omega)
  have a1 := hag (P + 1) (by omega) (by omega)
  have a2 := hag (P + 2) (by omega) (by omega)
  have a3 := hag (P + 3) (by omega) (by omega)
  exact ⟨by rw [a0.2.1, a0.2.1, a0.2.1, a1.2.2.2.2, a2.2.2.2.2, a3.2.2.2.2]; exact h1, by rw [a0.1, a0.1]; exact h2, fun x => by rw [a3.2.2.2.1]; exact h3 x, fun j hj => ⟨by rw [a2.2.2.2.1]; exact (h4 j hj).1, (h4 j hj).2.ag (fun a x y => by
    have e : mA P j = P + 4 + 9 * j := rfl
    exact hag a (by omega) (by omega))⟩⟩
theorem i_X5 (hH : wd_H w = P + 1) (hM : 75 ≤ wd_M w) (hS : 6712 ≤ wd_S w) (hI : ∀ g, wd_I w g P = 0) (hn : 300 ≤ n) : ∃ v, f_X5_init n w P = some v ∧ PF v P ∧ (∀ a, a < P → ag w v a) ∧ wd_H v = P + 76 ∧ wd_M v + 75 = wd_M w ∧ wd_S v + 6712 = wd_S w := by
  have e1 : f_X5_init n w P = wd_lp3 (f_X5_init_l33 n) n P (0 : Int32) (nR (nR (nR w 21 8 8 500 P) 23 8 8 502 P) 22 256 256 504 P) := by
    rw [f_X5_init, al _ 21 8 8 500 P _ (by omega), al _ 23 8 8 502 P _ (by simp only [m_nR, s_nR]; omega), al _ 22 256 256 504 P _ (by simp only [m_nR, s_nR]; omega)]
  obtain ⟨v, v1, v2, v3, v4, v5, v6, v7⟩ := i_X5l (n := n) (P := P) hn 8 0 n (nR (nR (nR w 21 8 8 500 P) 23 8 8 502 P) 22 256 256 504 P) (by omega) (by omega)
    (by simp (disch := omega) only [i_sI, i_sR, i_sA, i_sQ, i_sF, i_nw, r_sI, r_sR, r_sA, r_sQ, r_sF, r_nw, a_sI, a_sR, a_sA, a_sQ, a_sF, a_nw, q_sI, q_sR, q_sA, q_sQ, q_sF, q_nw, n_sI, n_sR, n_sA, n_sQ, n_sF, n_nw, h_sI, h_sR, h_sA, h_sQ, h_sF, h_nw, m_sI, m_sR, m_sA, m_sQ, m_sF, m_nw, s_sI, s_sR, s_sA, s_sQ, s_sF, s_nw, i_nR, r_nR, a_nR, q_nR, n_nR, h_nR, m_nR, s_nR, if_pos, if_neg, and_self, if_true, hH]) (by simp (disch := omega) only [i_sI, i_sR, i_sA, i_sQ, i_sF, i_nw, r_sI, r_sR, r_sA, r_sQ, r_sF, r_nw, a_sI, a_sR, a_sA, a_sQ, a_sF, a_nw, q_sI, q_sR, q_sA, q_sQ, q_sF, q_nw, n_sI, n_sR, n_sA, n_sQ, n_sF, n_nw, h_sI, h_sR, h_sA, h_sQ, h_sF, h_nw, m_sI, m_sR, m_sA, m_sQ, m_sF, m_nw, s_sI, s_sR, s_sA, s_sQ, s_sF, s_nw, i_nR, r_nR, a_nR, q_nR, n_nR, h_nR, m_nR, s_nR, if_pos, if_neg, and_self, if_true, hH]) (by simp only [i_sI, i_sR, i_sA, i_sQ, i_sF, i_nw, r_sI, r_sR, r_sA, r_sQ, r_sF, r_nw, a_sI, a_sR, a_sA, a_sQ, a_sF, a_nw, q_sI, q_sR, q_sA, q_sQ, q_sF, q_nw, n_sI, n_sR, n_sA, n_sQ, n_sF, n_nw, h_sI, h_sR, h_sA, h_sQ, h_sF, h_nw, m_sI, m_sR, m_sA, m_sQ, m_sF, m_nw, s_sI, s_sR, s_sA, s_sQ, s_sF, s_nw, i_nR, r_nR, a_nR, q_nR, n_nR, h_nR, m_nR, s_nR, if_pos, if_neg, and_self, if_true, hH]) (by simp only [i_sI, i_sR, i_sA, i_sQ, i_sF, i_nw, r_sI, r_sR, r_sA, r_sQ, r_sF, r_nw, a_sI, a_sR, a_sA, a_sQ, a_sF, a_nw, q_sI, q_sR, q_sA, q_sQ, q_sF, q_nw, n_sI, n_sR, n_sA, n_sQ, n_sF, n_nw, h_sI, h_sR, h_sA, h_sQ, h_sF, h_nw, m_sI, m_sR, m_sA, m_sQ, m_sF, m_nw, s_sI, s_sR, s_sA, s_sQ, s_sF, s_nw, i_nR, r_nR, a_nR, q_nR, n_nR, h_nR, m_nR, s_nR, if_pos, if_neg, and_self, if_true]; omega) (by simp only [i_sI, i_sR, i_sA, i_sQ, i_sF, i_nw, r_sI, r_sR, r_sA, r_sQ, r_sF, r_nw, a_sI, a_sR, a_sA, a_sQ, a_sF, a_nw, q_sI, q_sR, q_sA, q_sQ, q_sF, q_nw, n_sI, n_sR, n_sA, n_sQ, n_sF, n_nw, h_sI, h_sR, h_sA, h_sQ, h_sF, h_nw, m_sI, m_sR, m_sA, m_sQ, m_sF, m_nw, s_sI, s_sR, s_sA, s_sQ, s_sF, s_nw, i_nR, r_nR, a_nR, q_nR, n_nR, h_nR, m_nR, s_nR, if_pos, if_neg, and_self, if_true]; omega) (fun j hj => absurd hj (Nat.not_lt_zero _))
  have g0 := v7 P (by omega) (by omega)
  have g1 := v7 (P + 1) (by omega) (by omega)
  have g3 := v7 (P + 3) (by omega) (by omega)
  refine ⟨v, by rw [e1]; exact v1, ⟨⟨?_, ?_, ?_, ?_, v3, ?_⟩, ⟨?_, ?_⟩, fun x => ?_, v2⟩, fun a ha => (?_ : ag w _ a).tr (v7 a (by omega) (by omega)), v4, ?_, ?_⟩
  · rw [g0.2.1]; simp (disch := omega) only [i_sI, i_sR, i_sA, i_sQ, i_sF, i_nw, r_sI, r_sR, r_sA, r_sQ, r_sF, r_nw, a_sI, a_sR, a_sA, a_sQ, a_sF, a_nw, q_sI, q_sR, q_sA, q_sQ, q_sF, q_nw, n_sI, n_sR, n_sA, n_sQ, n_sF, n_nw, h_sI, h_sR, h_sA, h_sQ, h_sF, h_nw, m_sI, m_sR, m_sA, m_sQ, m_sF, m_nw, s_sI, s_sR, s_sA, s_sQ, s_sF, s_nw, i_nR, r_nR, a_nR, q_nR, n_nR, h_nR, m_nR, s_nR, if_pos, if_neg, and_self, if_true, hH]
  · rw [g0.2.1]; simp (disch := omega) only [i_sI, i_sR, i_sA, i_sQ, i_sF, i_nw, r_sI, r_sR, r_sA, r_sQ, r_sF, r_nw, a_sI, a_sR, a_sA, a_sQ, a_sF, a_nw, q_sI, q_sR, q_sA, q_sQ, q_sF, q_nw, n_sI, n_sR, n_sA, n_sQ, n_sF, n_nw, h_sI, h_sR, h_sA, h_sQ, h_sF, h_nw, m_sI, m_sR, m_sA, m_sQ, m_sF, m_nw, s_sI, s_sR, s_sA, s_sQ, s_sF, s_nw, i_nR, r_nR, a_nR, q_nR, n_nR, h_nR, m_nR, s_nR, if_pos, if_neg, and_self, if_true, hH]
  · rw [g0.2.1]; simp (disch := omega) only [i_sI, i_sR, i_sA, i_sQ, i_sF, i_nw, r_sI, r_sR, r_sA, r_sQ, r_sF, r_nw, a_sI, a_sR, a_sA, a_sQ, a_sF, a_nw, q_sI, q_sR, q_sA, q_sQ, q_sF, q_nw, n_sI, n_sR, n_sA, n_sQ, n_sF, n_nw, h_sI, h_sR, h_sA, h_sQ, h_sF, h_nw, m_sI, m_sR, m_sA, m_sQ, m_sF, m_nw, s_sI, s_sR, s_sA, s_sQ, s_sF, s_nw, i_nR, r_nR, a_nR, q_nR, n_nR, h_nR, m_nR, s_nR, if_pos, if_neg, and_self, if_true, hH]
  · rw [g1.2.2.2.2]; simp (disch := omega) only [i_sI, i_sR, i_sA, i_sQ, i_sF, i_nw, r_sI, r_sR, r_sA, r_sQ, r_sF, r_nw, a_sI, a_sR, a_sA, a_sQ, a_sF, a_nw, q_sI, q_sR, q_sA, q_sQ, q_sF, q_nw, n_sI, n_sR, n_sA, n_sQ, n_sF, n_nw, h_sI, h_sR, h_sA, h_sQ, h_sF, h_nw, m_sI, m_sR, m_sA, m_sQ, m_sF, m_nw, s_sI, s_sR, s_sA, s_sQ, s_sF, s_nw, i_nR, r_nR, a_nR, q_nR, n_nR, h_nR, m_nR, s_nR, if_pos, if_neg, and_self, if_true, hH]
  · rw [g3.2.2.2.2]; simp (disch := omega) only [i_sI, i_sR, i_sA, i_sQ, i_sF, i_nw, r_sI, r_sR, r_sA, r_sQ, r_sF, r_nw, a_sI, a_sR, a_sA, a_sQ, a_sF, a_nw, q_sI, q_sR, q_sA, q_sQ, q_sF, q_nw, n_sI, n_sR, n_sA, n_sQ, n_sF, n_nw, h_sI, h_sR, h_sA, h_sQ, h_sF, h_nw, m_sI, m_sR, m_sA, m_sQ, m_sF, m_nw, s_sI, s_sR, s_sA, s_sQ, s_sF, s_nw, i_nR, r_nR, a_nR, q_nR, n_nR, h_nR, m_nR, s_nR, if_pos, if_neg, and_self, if_true, hH]
  · rw [g0.1]; simp (disch := omega) only [i_sI, i_sR, i_sA, i_sQ, i_sF, i_nw, r_sI, r_sR, r_sA, r_sQ, r_sF, r_nw, a_sI, a_sR, a_sA, a_sQ, a_sF, a_nw, q_sI, q_sR, q_sA, q_sQ, q_sF, q_nw, n_sI, n_sR, n_sA, n_sQ, n_sF, n_nw, h_sI, h_sR, h_sA, h_sQ, h_sF, h_nw, m_sI, m_sR, m_sA, m_sQ, m_sF, m_nw, s_sI, s_sR, s_sA, s_sQ, s_sF, s_nw, i_nR, r_nR, a_nR, q_nR, n_nR, h_nR, m_nR, s_nR, if_pos, if_neg, and_self, if_true, hH, hI]
  · rw [g0.1]; simp (disch := omega) only [i_sI, i_sR, i_sA, i_sQ, i_sF, i_nw, r_sI, r_sR, r_sA, r_sQ, r_sF, r_nw, a_sI, a_sR, a_sA, a_sQ, a_sF, a_nw, q_sI, q_sR, q_sA, q_sQ, q_sF, q_nw, n_sI, n_sR, n_sA, n_sQ, n_sF, n_nw, h_sI, h_sR, h_sA, h_sQ, h_sF, h_nw, m_sI, m_sR, m_sA, m_sQ, m_sF, m_nw, s_sI, s_sR, s_sA, s_sQ, s_sF, s_nw, i_nR, r_nR, a_nR, q_nR, n_nR, h_nR, m_nR, s_nR, if_pos, if_neg, and_self, if_true, hH, hI]
  · rw [g3.2.2.2.1]; simp (disch := omega) only [i_sI, i_sR, i_sA, i_sQ, i_sF, i_nw, r_sI, r_sR, r_sA, r_sQ, r_sF, r_nw, a_sI, a_sR, a_sA, a_sQ, a_sF, a_nw, q_sI, q_sR, q_sA, q_sQ, q_sF, q_nw, n_sI, n_sR, n_sA, n_sQ, n_sF, n_nw, h_sI, h_sR, h_sA, h_sQ, h_sF, h_nw, m_sI, m_sR, m_sA, m_sQ, m_sF, m_nw, s_sI, s_sR, s_sA, s_sQ, s_sF, s_nw, i_nR, r_nR, a_nR, q_nR, n_nR, h_nR, m_nR, s_nR, if_pos, if_neg, and_self, if_true, hH]
  · refine ⟨fun g => ?_, fun g => ?_, fun g => ?_, fun g => ?_, ?_⟩ <;> simp (disch := omega) only [i_sI, i_sR, i_sA, i_sQ, i_sF, i_nw, r_sI, r_sR, r_sA, r_sQ, r_sF, r_nw, a_sI, a_sR, a_sA, a_sQ, a_sF, a_nw, q_sI, q_sR, q_sA, q_sQ, q_sF, q_nw, n_sI, n_sR, n_sA, n_sQ, n_sF, n_nw, h_sI, h_sR, h_sA, h_sQ, h_sF, h_nw, m_sI, m_sR, m_sA, m_sQ, m_sF, m_nw, s_sI, s_sR, s_sA, s_sQ, s_sF, s_nw, i_nR, r_nR, a_nR, q_nR, n_nR, h_nR, m_nR, s_nR, if_pos, if_neg, and_self, if_true, hH]
  · simp only [i_sI, i_sR, i_sA, i_sQ, i_sF, i_nw, r_sI, r_sR, r_sA, r_sQ, r_sF, r_nw, a_sI, a_sR, a_sA, a_sQ, a_sF, a_nw, q_sI, q_sR, q_sA, q_sQ, q_sF, q_nw, n_sI, n_sR, n_sA, n_sQ, n_sF, n_nw, h_sI, h_sR, h_sA, h_sQ, h_sF, h_nw, m_sI, m_sR, m_sA, m_sQ, m_sF, m_nw, s_sI, s_sR, s_sA, s_sQ, s_sF, s_nw, i_nR, r_nR, a_nR, q_nR, n_nR, h_nR, m_nR, s_nR, if_pos, if_neg, and_self, if_true] at v5; omega
  · simp only [i_sI, i_sR, i_sA, i_sQ, i_sF, i_nw, r_sI, r_sR, r_sA, r_sQ, r_sF, r_nw, a_sI, a_sR, a_sA, a_sQ, a_sF, a_nw, q_sI, q_sR, q_sA, q_sQ, q_sF, q_nw, n_sI, n_sR, n_sA, n_sQ, n_sF, n_nw, h_sI, h_sR, h_sA, h_sQ, h_sF, h_nw, m_sI, m_sR, m_sA, m_sQ, m_sF, m_nw, s_sI, s_sR, s_sA, s_sQ, s_sF, s_nw, i_nR, r_nR, a_nR, q_nR, n_nR, h_nR, m_nR, s_nR, if_pos, if_neg, and_self, if_true] at v6; omega
/-- a new plan is right -/
theorem PF.ps (h : PF w P) : PSs P 0 0 w := by
  obtain ⟨h1, ⟨h2, h2'⟩, h3, h4⟩ := h
  have hM := fun i (hi : i < 8) => (h4 i hi).2.1
  refine ⟨⟨h1, fun i hi => ?_, fun i hi => (hM i hi).2.1⟩, ⟨h2, fun c hc => absurd hc (Nat.not_lt_zero _), h2', by omega, by omega⟩, fun i hi => ?_, ⟨fun i k q hi hk hq => ?_, fun x q hx hq => ?_⟩, fun i x hi hx => Or.inl ((h4 i hi).2.2 x hx)⟩
  · obtain ⟨r1, r2, r3, r4, r5, r6, r7, r8⟩ := (hM i hi).1
    exact ⟨(h4 i hi).1, r1, r2, r3, r4, r5, r6, r7, r8⟩
  · obtain ⟨i0, i1, i3, i7, i9⟩ := (hM i hi).2.2.1
    exact ⟨i0, ⟨0, by omega, i9, fun t ht => absurd ht (Nat.not_lt_zero _)⟩, ⟨0, by omega, i3, fun k hk => absurd hk (Nat.not_lt_zero _), fun k _ _ => (hM i hi).2.2.2 k⟩, 0, by omega, i7, fun t ht => absurd ht (Nat.not_lt_zero _)⟩
  · rw [(hM i hi).2.2.2 k] at hq; cases hq
  · rw [h3 x] at hq; cases hq
end NEW3
