/-! ===== PURE: the traffic made ===== -/
section NEW4
variable {P T i j n h m X : Nat} {w u v : Wd}
theorem s_338 {a b c E : Nat} (h1 : a + E = b) (h2 : b + 328 = c - 10) (h3 : E + 338 ≤ c) : a + (E + 338) = c := by
  have h4 : 10 ≤ c := Nat.le_trans (Nat.le_trans (by decide : 10 ≤ 338) (Nat.le_add_left _ _)) h3
  have h5 : c = c - 10 + 10 := (Nat.sub_add_cancel h4).symm
  rw [h5, ← h2, ← h1, Nat.add_assoc (a + E) 328 10, Nat.add_assoc a E (328 + 10)]
theorem i_X9l (hn : 300 ≤ n) (hP : P + 76 ≤ T) : ∀ (k t m : Nat) (w : Wd), t + k = 8 → k < m → (wd_R w 502 P = some (P + 2) ∧ wd_N w (P + 2) = 8 ∧ ∀ j, j < 8 → wd_Q w (P + 2) j = some (mA P j)) → wd_R w 906 T = some (T + 3) → wd_N w (T + 3) = 8 → wd_H w = T + 5 + 7 * t → 7 * k ≤ wd_M w → 338 * k ≤ wd_S w → (∀ j, j < t → wd_Q w (T + 3) j = some (hA T j) ∧ HF w (hA T j) (mA P j)) →
    ∃ v, wd_lp4 (f_X9_init_l50 n) m T (some P) (Int32.ofNat t) w = some v ∧ (∀ j, j < 8 → wd_Q v (T + 3) j = some (hA T j) ∧ HF v (hA T j) (mA P j)) ∧ wd_N v (T + 3) = 8 ∧ wd_H v = T + 61 ∧ wd_M v + 7 * k = wd_M w ∧ wd_S v + 338 * k = wd_S w ∧ (∀ a, a < T + 5 → a ≠ T + 3 → ag w v a) := by
  intro k
  induction k with
  | zero =>
    intro t m w ht hm h0 h1 h2 h3 h4 h5 h6
    obtain ⟨m, rfl⟩ : ∃ r, m = r + 1 := ⟨m - 1, by omega⟩
    exact ⟨w, by rw [wd_lp4, f_X9_init_l50, if_pos (by rw [show (8 : Int32) = Int32.ofNat 8 from rfl, j_ll (by omega) (by omega)]; omega)], fun j hj => h6 j (by omega), h2, by omega, rfl, rfl, fun a _ _ => ag.rf _ _⟩
  | succ k ih =>
    intro t m w ht hm h0 h1 h2 h3 h4 h5 h6
    obtain ⟨m, rfl⟩ : ∃ r, m = r + 1 := ⟨m - 1, by omega⟩
    rw [show 338 * (k + 1) = 338 * k + 338 from Nat.mul_succ _ _] at h5 ⊢
    generalize 338 * k = E at h5 ih ⊢
    obtain ⟨p1, p2, p3⟩ := h0
    have hg1 : ∀ a, a ≠ wd_H w → ag w (wd_nw w 3 0 10) a := fun a ha => ⟨fun g => by rw [i_nw, if_neg ha], fun g => by rw [r_nw, if_neg ha], fun g => by rw [a_nw, if_neg ha], fun g => by rw [q_nw, if_neg ha], by rw [n_nw, if_neg ha]⟩
    have gP := hg1 P (by omega)
    have gP2 := hg1 (P + 2) (by omega)
    have h10 : 10 ≤ wd_S w := Nat.le_trans (Nat.le_trans (by decide : 10 ≤ 338) (Nat.le_add_left _ _)) h5
    have h328 : 328 ≤ wd_S w - 10 := by
      have : 338 ≤ wd_S w := Nat.le_trans (Nat.le_add_left _ _) h5
      exact Nat.le_sub_of_add_le this
    obtain ⟨u, u1, u2, u3, u4, u5, u6⟩ := i_X2 (n := n) (w := wd_nw w 3 0 10) (h := T + 5 + 7 * t) (m := mA P t) (by rw [h_nw, h3]) (by rw [m_nw]; omega) (by rw [s_nw]; exact h328) (fun g => by rw [i_nw, if_pos h3.symm]) (fun g => by rw [r_nw, if_pos h3.symm]) hn
    rw [m_nw] at u5
    rw [s_nw] at u6
    have hg2 : ∀ a, a < T + 5 + 7 * t → ag w u a := fun a ha => (hg1 a (by omega)).tr (u3 a ha)
    have hg3 : ∀ a, a ≠ T + 3 → ag u (wd_sQ u (T + 3) t (some (T + 5 + 7 * t))) a := fun a ha => ⟨fun _ => rfl, fun _ => rfl, fun _ => rfl, fun g => by rw [q_sQ, if_neg (fun q => ha q.1)], rfl⟩
    have kP := (hg2 P (by omega)).tr (hg3 P (by omega))
    have kP2 := (hg2 (P + 2) (by omega)).tr (hg3 (P + 2) (by omega))
    have kT := (hg2 T (by omega)).tr (hg3 T (by omega))
    have hE : E ≤ wd_S u := by
      have e : E + 338 ≤ wd_S u + 328 + 10 := by rw [u6, Nat.sub_add_cancel h10]; exact h5
      rw [Nat.add_assoc (wd_S u) 328 10] at e
      exact Nat.le_of_add_le_add_right e
    obtain ⟨v, v1, v2, v3, v4, v5, v6, v7⟩ := ih (t + 1) m (wd_sQ u (T + 3) t (some (T + 5 + 7 * t))) (by omega) (by omega)
      ⟨by rw [kP.2.1]; exact p1, by rw [kP2.2.2.2.2]; exact p2, fun j hj => by rw [kP2.2.2.2.1]; exact p3 j hj⟩
      (by rw [kT.2.1]; exact h1) (by rw [n_sQ, (hg2 (T + 3) (by omega)).2.2.2.2]; exact h2) (by rw [h_sQ]; omega) (by rw [m_sQ]; omega) (by rw [s_sQ]; exact hE)
      (fun j hj => by
        by_cases e : j = t
        · rw [e]
          exact ⟨by rw [q_sQ, if_pos ⟨rfl, rfl⟩], u2.ag (fun a ha _ => hg3 a (by omega))⟩
        · obtain ⟨g1, g2⟩ := h6 j (by omega)
          exact ⟨by rw [q_sQ, if_neg (fun q => e q.2), (hg2 (T + 3) (by omega)).2.2.2.1]; exact g1, g2.ag (fun a ha hb => by
            have e : hA T j = T + 5 + 7 * j := rfl
            exact (hg2 a (by omega)).tr (hg3 a (by omega)))⟩)
    rw [m_sQ] at v5
    rw [s_sQ] at v6
    refine ⟨v, ?_, v2, v3, v4, by omega, s_338 v6 u6 h5, fun a ha hb => ((hg2 a (by omega)).tr (hg3 a hb)).tr (v7 a ha hb)⟩
    rw [wd_lp4, f_X9_init_l50, if_neg (by rw [show (8 : Int32) = Int32.ofNat 8 from rfl, j_ll (by omega) (by omega)]; omega), j_gd (by omega), wd_let, wd_let, Option.bind_some, gP.2.1, p1, Option.bind_some, j_gd (by rw [gP2.2.2.2.2, p2]; exact j_in (by omega) (by omega)), j_nn (by omega), gP2.2.2.2.1, p3 t (by omega), h3, u1, Option.bind_some, h1, Option.bind_some, j_gd (by rw [(hg2 (T + 3) (by omega)).2.2.2.2, h2]; exact j_ix (by omega) (by omega)), wd_let, wd_let, j_a1]
    exact v1
/-- a new traffic -/
def TF (w : Wd) (T P : Nat) : Prop :=
  (wd_R w 900 T = some (T + 1) ∧ wd_R w 904 T = some P ∧ wd_R w 905 T = some (T + 2) ∧ wd_R w 906 T = some (T + 3) ∧ wd_R w 907 T = some (T + 4) ∧ wd_N w (T + 3) = 8 ∧ wd_N w (T + 4) = 8) ∧
  (wd_I w 901 T = 0 ∧ wd_I w 902 T = 0 ∧ wd_I w 903 T = 0) ∧ (∀ c, wd_A w (T + 4) c = 0) ∧ (wd_R w 800 (T + 1) = none ∧ wd_R w 802 (T + 1) = none ∧ wd_R w 803 (T + 1) = none ∧ wd_I w 801 (T + 1) = 0) ∧ (wd_R w 600 (T + 2) = none ∧ wd_R w 601 (T + 2) = none) ∧
  ∀ j, j < 8 → wd_Q w (T + 3) j = some (hA T j) ∧ HF w (hA T j) (mA P j)
theorem TF.ag (hF : TF w T P) (hag : ∀ a, T ≤ a → a < T + 61 → ag w v a) : TF v T P := by
  obtain ⟨h1, h2, h3, h4, h5, h6⟩ := hF
  have a0 := hag T (by omega) (by omega)
  have a1 := hag (T + 1) (by omega) (by omega)
  have a2 := hag (T + 2) (by omega) (by omega)
  have a3 := hag (T + 3) (by omega) (by omega)
  have a4 := hag (T + 4) (by omega) (by omega)
  exact ⟨by rw [a0.2.1, a0.2.1, a0.2.1, a0.2.1, a0.2.1, a3.2.2.2.2, a4.2.2.2.2]; exact h1, by rw [a0.1, a0.1, a0.1]; exact h2, fun c => by rw [a4.2.2.1]; exact h3 c, by rw [a1.2.1, a1.2.1, a1.2.1, a1.1]; exact h4, by rw [a2.2.1, a2.2.1]; exact h5, fun j hj => ⟨by rw [a3.2.2.2.1]; exact (h6 j hj).1, (h6 j hj).2.ag (fun a x y => by
    have e : hA T j = T + 5 + 7 * j := rfl
    exact hag a (by omega) (by omega))⟩⟩
theorem i_X9 (hH : wd_H w = T + 1) (hM : 60 ≤ wd_M w) (hS : 2726 ≤ wd_S w) (hI : ∀ g, wd_I w g T = 0) (hP : P + 76 ≤ T) (h0 : wd_R w 502 P = some (P + 2) ∧ wd_N w (P + 2) = 8 ∧ ∀ j, j < 8 → wd_Q w (P + 2) j = some (mA P j)) (hn : 300 ≤ n) : ∃ v, f_X9_init n w T (some P) = some v ∧ TF v T P ∧ (∀ a, a < T → ag w v a) ∧ wd_H v = T + 61 ∧ wd_M v + 60 = wd_M w ∧ wd_S v + 2726 = wd_S w := by
  have e1 : f_X9_init n w T (some P) = wd_lp4 (f_X9_init_l50 n) n T (some P) (0 : Int32) (wd_sR (nR (nR (nR (nR w 9 0 4 900 T) 7 0 2 905 T) 24 8 8 906 T) 21 8 8 907 T) 904 T (some P)) := by
    rw [f_X9_init, j_gd (by omega), wd_let, wd_let, f_X8_init, Option.bind_some, wd_let, j_gd (by simp only [i_sI, i_sR, i_sA, i_sQ, i_sF, i_nw, r_sI, r_sR, r_sA, r_sQ, r_sF, r_nw, a_sI, a_sR, a_sA, a_sQ, a_sF, a_nw, q_sI, q_sR, q_sA, q_sQ, q_sF, q_nw, n_sI, n_sR, n_sA, n_sQ, n_sF, n_nw, h_sI, h_sR, h_sA, h_sQ, h_sF, h_nw, m_sI, m_sR, m_sA, m_sQ, m_sF, m_nw, s_sI, s_sR, s_sA, s_sQ, s_sF, s_nw]; omega), wd_let, wd_let, f_X6_init, Option.bind_some, wd_let, al _ 24 8 8 906 T _ (by simp only [i_sI, i_sR, i_sA, i_sQ, i_sF, i_nw, r_sI, r_sR, r_sA, r_sQ, r_sF, r_nw, a_sI, a_sR, a_sA, a_sQ, a_sF, a_nw, q_sI, q_sR, q_sA, q_sQ, q_sF, q_nw, n_sI, n_sR, n_sA, n_sQ, n_sF, n_nw, h_sI, h_sR, h_sA, h_sQ, h_sF, h_nw, m_sI, m_sR, m_sA, m_sQ, m_sF, m_nw, s_sI, s_sR, s_sA, s_sQ, s_sF, s_nw]; omega), al _ 21 8 8 907 T _ (by simp only [i_sI, i_sR, i_sA, i_sQ, i_sF, i_nw, r_sI, r_sR, r_sA, r_sQ, r_sF, r_nw, a_sI, a_sR, a_sA, a_sQ, a_sF, a_nw, q_sI, q_sR, q_sA, q_sQ, q_sF, q_nw, n_sI, n_sR, n_sA, n_sQ, n_sF, n_nw, h_sI, h_sR, h_sA, h_sQ, h_sF, h_nw, m_sI, m_sR, m_sA, m_sQ, m_sF, m_nw, s_sI, s_sR, s_sA, s_sQ, s_sF, s_nw, i_nR, r_nR, a_nR, q_nR, n_nR, h_nR, m_nR, s_nR, if_pos, if_neg, and_self, if_true]; omega), wd_let]
    rfl
  obtain ⟨p1, p2, p3⟩ := h0
  obtain ⟨v, v1, v2, v3, v4, v5, v6, v7⟩ := i_X9l (n := n) (P := P) (T := T) hn hP 8 0 n (wd_sR (nR (nR (nR (nR w 9 0 4 900 T) 7 0 2 905 T) 24 8 8 906 T) 21 8 8 907 T) 904 T (some P)) (by omega) (by omega)
    ⟨by simp (disch := omega) only [i_sI, i_sR, i_sA, i_sQ, i_sF, i_nw, r_sI, r_sR, r_sA, r_sQ, r_sF, r_nw, a_sI, a_sR, a_sA, a_sQ, a_sF, a_nw, q_sI, q_sR, q_sA, q_sQ, q_sF, q_nw, n_sI, n_sR, n_sA, n_sQ, n_sF, n_nw, h_sI, h_sR, h_sA, h_sQ, h_sF, h_nw, m_sI, m_sR, m_sA, m_sQ, m_sF, m_nw, s_sI, s_sR, s_sA, s_sQ, s_sF, s_nw, i_nR, r_nR, a_nR, q_nR, n_nR, h_nR, m_nR, s_nR, if_pos, if_neg, and_self, if_true, hH]; exact p1, by simp (disch := omega) only [i_sI, i_sR, i_sA, i_sQ, i_sF, i_nw, r_sI, r_sR, r_sA, r_sQ, r_sF, r_nw, a_sI, a_sR, a_sA, a_sQ, a_sF, a_nw, q_sI, q_sR, q_sA, q_sQ, q_sF, q_nw, n_sI, n_sR, n_sA, n_sQ, n_sF, n_nw, h_sI, h_sR, h_sA, h_sQ, h_sF, h_nw, m_sI, m_sR, m_sA, m_sQ, m_sF, m_nw, s_sI, s_sR, s_sA, s_sQ, s_sF, s_nw, i_nR, r_nR, a_nR, q_nR, n_nR, h_nR, m_nR, s_nR, if_pos, if_neg, and_self, if_true, hH]; exact p2, fun j hj => by simp (disch := omega) only [i_sI, i_sR, i_sA, i_sQ, i_sF, i_nw, r_sI, r_sR, r_sA, r_sQ, r_sF, r_nw, a_sI, a_sR, a_sA, a_sQ, a_sF, a_nw, q_sI, q_sR, q_sA, q_sQ, q_sF, q_nw, n_sI, n_sR, n_sA, n_sQ, n_sF, n_nw, h_sI, h_sR, h_sA, h_sQ, h_sF, h_nw, m_sI, m_sR, m_sA, m_sQ, m_sF, m_nw, s_sI, s_sR, s_sA, s_sQ, s_sF, s_nw, i_nR, r_nR, a_nR, q_nR, n_nR, h_nR, m_nR, s_nR, if_pos, if_neg, and_self, if_true, hH]; exact p3 j hj⟩
    (by simp (disch := omega) only [i_sI, i_sR, i_sA, i_sQ, i_sF, i_nw, r_sI, r_sR, r_sA, r_sQ, r_sF, r_nw, a_sI, a_sR, a_sA, a_sQ, a_sF, a_nw, q_sI, q_sR, q_sA, q_sQ, q_sF, q_nw, n_sI, n_sR, n_sA, n_sQ, n_sF, n_nw, h_sI, h_sR, h_sA, h_sQ, h_sF, h_nw, m_sI, m_sR, m_sA, m_sQ, m_sF, m_nw, s_sI, s_sR, s_sA, s_sQ, s_sF, s_nw, i_nR, r_nR, a_nR, q_nR, n_nR, h_nR, m_nR, s_nR, if_pos, if_neg, and_self, if_true, hH]) (by simp (disch := omega) only [i_sI, i_sR, i_sA, i_sQ, i_sF, i_nw, r_sI, r_sR, r_sA, r_sQ, r_sF, r_nw, a_sI, a_sR, a_sA, a_sQ, a_sF, a_nw, q_sI, q_sR, q_sA, q_sQ, q_sF, q_nw, n_sI, n_sR, n_sA, n_sQ, n_sF, n_nw, h_sI, h_sR, h_sA, h_sQ, h_sF, h_nw, m_sI, m_sR, m_sA, m_sQ, m_sF, m_nw, s_sI, s_sR, s_sA, s_sQ, s_sF, s_nw, i_nR, r_nR, a_nR, q_nR, n_nR, h_nR, m_nR, s_nR, if_pos, if_neg, and_self, if_true, hH]) (by simp only [i_sI, i_sR, i_sA, i_sQ, i_sF, i_nw, r_sI, r_sR, r_sA, r_sQ, r_sF, r_nw, a_sI, a_sR, a_sA, a_sQ, a_sF, a_nw, q_sI, q_sR, q_sA, q_sQ, q_sF, q_nw, n_sI, n_sR, n_sA, n_sQ, n_sF, n_nw, h_sI, h_sR, h_sA, h_sQ, h_sF, h_nw, m_sI, m_sR, m_sA, m_sQ, m_sF, m_nw, s_sI, s_sR, s_sA, s_sQ, s_sF, s_nw, i_nR, r_nR, a_nR, q_nR, n_nR, h_nR, m_nR, s_nR, if_pos, if_neg, and_self, if_true, hH]) (by simp only [i_sI, i_sR, i_sA, i_sQ, i_sF, i_nw, r_sI, r_sR, r_sA, r_sQ, r_sF, r_nw, a_sI, a_sR, a_sA, a_sQ, a_sF, a_nw, q_sI, q_sR, q_sA, q_sQ, q_sF, q_nw, n_sI, n_sR, n_sA, n_sQ, n_sF, n_nw, h_sI, h_sR, h_sA, h_sQ, h_sF, h_nw, m_sI, m_sR, m_sA, m_sQ, m_sF, m_nw, s_sI, s_sR, s_sA, s_sQ, s_sF, s_nw, i_nR, r_nR, a_nR, q_nR, n_nR, h_nR, m_nR, s_nR, if_pos, if_neg, and_self, if_true]; omega) (by simp only [i_sI, i_sR, i_sA, i_sQ, i_sF, i_nw, r_sI, r_sR, r_sA, r_sQ, r_sF, r_nw, a_sI, a_sR, a_sA, a_sQ, a_sF, a_nw, q_sI, q_sR, q_sA, q_sQ, q_sF, q_nw, n_sI, n_sR, n_sA, n_sQ, n_sF, n_nw, h_sI, h_sR, h_sA, h_sQ, h_sF, h_nw, m_sI, m_sR, m_sA, m_sQ, m_sF, m_nw, s_sI, s_sR, s_sA, s_sQ, s_sF, s_nw, i_nR, r_nR, a_nR, q_nR, n_nR, h_nR, m_nR, s_nR, if_pos, if_neg, and_self, if_true]; omega) (fun j hj => absurd hj (Nat.not_lt_zero _))
  have g0 := v7 T (by omega) (by omega)
  have g1 := v7 (T + 1) (by omega) (by omega)
  have g2 := v7 (T + 2) (by omega) (by omega)
  have g4 := v7 (T + 4) (by omega) (by omega)
  refine ⟨v, by rw [e1]; exact v1, ⟨⟨?_, ?_, ?_, ?_, ?_, v3, ?_⟩, ⟨?_, ?_, ?_⟩, fun c => ?_, ⟨?_, ?_, ?_, ?_⟩, ⟨?_, ?_⟩, v2⟩, fun a ha => (?_ : ag w _ a).tr (v7 a (by omega) (by omega)), v4, ?_, ?_⟩
  · rw [g0.2.1]; simp (disch := omega) only [i_sI, i_sR, i_sA, i_sQ, i_sF, i_nw, r_sI, r_sR, r_sA, r_sQ, r_sF, r_nw, a_sI, a_sR, a_sA, a_sQ, a_sF, a_nw, q_sI, q_sR, q_sA, q_sQ, q_sF, q_nw, n_sI, n_sR, n_sA, n_sQ, n_sF, n_nw, h_sI, h_sR, h_sA, h_sQ, h_sF, h_nw, m_sI, m_sR, m_sA, m_sQ, m_sF, m_nw, s_sI, s_sR, s_sA, s_sQ, s_sF, s_nw, i_nR, r_nR, a_nR, q_nR, n_nR, h_nR, m_nR, s_nR, if_pos, if_neg, and_self, if_true, hH]
  · rw [g0.2.1]; simp (disch := omega) only [i_sI, i_sR, i_sA, i_sQ, i_sF, i_nw, r_sI, r_sR, r_sA, r_sQ, r_sF, r_nw, a_sI, a_sR, a_sA, a_sQ, a_sF, a_nw, q_sI, q_sR, q_sA, q_sQ, q_sF, q_nw, n_sI, n_sR, n_sA, n_sQ, n_sF, n_nw, h_sI, h_sR, h_sA, h_sQ, h_sF, h_nw, m_sI, m_sR, m_sA, m_sQ, m_sF, m_nw, s_sI, s_sR, s_sA, s_sQ, s_sF, s_nw, i_nR, r_nR, a_nR, q_nR, n_nR, h_nR, m_nR, s_nR, if_pos, if_neg, and_self, if_true, hH]
  · rw [g0.2.1]; simp (disch := omega) only [i_sI, i_sR, i_sA, i_sQ, i_sF, i_nw, r_sI, r_sR, r_sA, r_sQ, r_sF, r_nw, a_sI, a_sR, a_sA, a_sQ, a_sF, a_nw, q_sI, q_sR, q_sA, q_sQ, q_sF, q_nw, n_sI, n_sR, n_sA, n_sQ, n_sF, n_nw, h_sI, h_sR, h_sA, h_sQ, h_sF, h_nw, m_sI, m_sR, m_sA, m_sQ, m_sF, m_nw, s_sI, s_sR, s_sA, s_sQ, s_sF, s_nw, i_nR, r_nR, a_nR, q_nR, n_nR, h_nR, m_nR, s_nR, if_pos, if_neg, and_self, if_true, hH]
  · rw [g0.2.1]; simp (disch := omega) only [i_sI, i_sR, i_sA, i_sQ, i_sF, i_nw, r_sI, r_sR, r_sA, r_sQ, r_sF, r_nw, a_sI, a_sR, a_sA, a_sQ, a_sF, a_nw, q_sI, q_sR, q_sA, q_sQ, q_sF, q_nw, n_sI, n_sR, n_sA, n_sQ, n_sF, n_nw, h_sI, h_sR, h_sA, h_sQ, h_sF, h_nw, m_sI, m_sR, m_sA, m_sQ, m_sF, m_nw, s_sI, s_sR, s_sA, s_sQ, s_sF, s_nw, i_nR, r_nR, a_nR, q_nR, n_nR, h_nR, m_nR, s_nR, if_pos, if_neg, and_self, if_true, hH]
  · rw [g0.2.1]; simp (disch := omega) only [i_sI, i_sR, i_sA, i_sQ, i_sF, i_nw, r_sI, r_sR, r_sA, r_sQ, r_sF, r_nw, a_sI, a_sR, a_sA, a_sQ, a_sF, a_nw, q_sI, q_sR, q_sA, q_sQ, q_sF, q_nw, n_sI, n_sR, n_sA, n_sQ, n_sF, n_nw, h_sI, h_sR, h_sA, h_sQ, h_sF, h_nw, m_sI, m_sR, m_sA, m_sQ, m_sF, m_nw, s_sI, s_sR, s_sA, s_sQ, s_sF, s_nw, i_nR, r_nR, a_nR, q_nR, n_nR, h_nR, m_nR, s_nR, if_pos, if_neg, and_self, if_true, hH]
  · rw [g4.2.2.2.2]; simp (disch := omega) only [i_sI, i_sR, i_sA, i_sQ, i_sF, i_nw, r_sI, r_sR, r_sA, r_sQ, r_sF, r_nw, a_sI, a_sR, a_sA, a_sQ, a_sF, a_nw, q_sI, q_sR, q_sA, q_sQ, q_sF, q_nw, n_sI, n_sR, n_sA, n_sQ, n_sF, n_nw, h_sI, h_sR, h_sA, h_sQ, h_sF, h_nw, m_sI, m_sR, m_sA, m_sQ, m_sF, m_nw, s_sI, s_sR, s_sA, s_sQ, s_sF, s_nw, i_nR, r_nR, a_nR, q_nR, n_nR, h_nR, m_nR, s_nR, if_pos, if_neg, and_self, if_true, hH]
  · rw [g0.1]; simp (disch := omega) only [i_sI, i_sR, i_sA, i_sQ, i_sF, i_nw, r_sI, r_sR, r_sA, r_sQ, r_sF, r_nw, a_sI, a_sR, a_sA, a_sQ, a_sF, a_nw, q_sI, q_sR, q_sA, q_sQ, q_sF, q_nw, n_sI, n_sR, n_sA, n_sQ, n_sF, n_nw, h_sI, h_sR, h_sA, h_sQ, h_sF, h_nw, m_sI, m_sR, m_sA, m_sQ, m_sF, m_nw, s_sI, s_sR, s_sA, s_sQ, s_sF, s_nw, i_nR, r_nR, a_nR, q_nR, n_nR, h_nR, m_nR, s_nR, if_pos, if_neg, and_self, if_true, hH, hI]
  · rw [g0.1]; simp (disch := omega) only [i_sI, i_sR, i_sA, i_sQ, i_sF, i_nw, r_sI, r_sR, r_sA, r_sQ, r_sF, r_nw, a_sI, a_sR, a_sA, a_sQ, a_sF, a_nw, q_sI, q_sR, q_sA, q_sQ, q_sF, q_nw, n_sI, n_sR, n_sA, n_sQ, n_sF, n_nw, h_sI, h_sR, h_sA, h_sQ, h_sF, h_nw, m_sI, m_sR, m_sA, m_sQ, m_sF, m_nw, s_sI, s_sR, s_sA, s_sQ, s_sF, s_nw, i_nR, r_nR, a_nR, q_nR, n_nR, h_nR, m_nR, s_nR, if_pos, if_neg, and_self, if_true, hH, hI]
  · rw [g0.1]; simp (disch := omega) only [i_sI, i_sR, i_sA, i_sQ, i_sF, i_nw, r_sI, r_sR, r_sA, r_sQ, r_sF, r_nw, a_sI, a_sR, a_sA, a_sQ, a_sF, a_nw, q_sI, q_sR, q_sA, q_sQ, q_sF, q_nw, n_sI, n_sR, n_sA, n_sQ, n_sF, n_nw, h_sI, h_sR, h_sA, h_sQ, h_sF, h_nw, m_sI, m_sR, m_sA, m_sQ, m_sF, m_nw, s_sI, s_sR, s_sA, s_sQ, s_sF, s_nw, i_nR, r_nR, a_nR, q_nR, n_nR, h_nR, m_nR, s_nR, if_pos, if_neg, and_self, if_true, hH, hI]
  · rw [g4.2.2.1]; simp (disch := omega) only [i_sI, i_sR, i_sA, i_sQ, i_sF, i_nw, r_sI, r_sR, r_sA, r_sQ, r_sF, r_nw, a_sI, a_sR, a_sA, a_sQ, a_sF, a_nw, q_sI, q_sR, q_sA, q_sQ, q_sF, q_nw, n_sI, n_sR, n_sA, n_sQ, n_sF, n_nw, h_sI, h_sR, h_sA, h_sQ, h_sF, h_nw, m_sI, m_sR, m_sA, m_sQ, m_sF, m_nw, s_sI, s_sR, s_sA, s_sQ, s_sF, s_nw, i_nR, r_nR, a_nR, q_nR, n_nR, h_nR, m_nR, s_nR, if_pos, if_neg, and_self, if_true, hH]
  · rw [g1.2.1]; simp (disch := omega) only [i_sI, i_sR, i_sA, i_sQ, i_sF, i_nw, r_sI, r_sR, r_sA, r_sQ, r_sF, r_nw, a_sI, a_sR, a_sA, a_sQ, a_sF, a_nw, q_sI, q_sR, q_sA, q_sQ, q_sF, q_nw, n_sI, n_sR, n_sA, n_sQ, n_sF, n_nw, h_sI, h_sR, h_sA, h_sQ, h_sF, h_nw, m_sI, m_sR, m_sA, m_sQ, m_sF, m_nw, s_sI, s_sR, s_sA, s_sQ, s_sF, s_nw, i_nR, r_nR, a_nR, q_nR, n_nR, h_nR, m_nR, s_nR, if_pos, if_neg, and_self, if_true, hH]
  · rw [g1.2.1]; simp (disch := omega) only [i_sI, i_sR, i_sA, i_sQ, i_sF, i_nw, r_sI, r_sR, r_sA, r_sQ, r_sF, r_nw, a_sI, a_sR, a_sA, a_sQ, a_sF, a_nw, q_sI, q_sR, q_sA, q_sQ, q_sF, q_nw, n_sI, n_sR, n_sA, n_sQ, n_sF, n_nw, h_sI, h_sR, h_sA, h_sQ, h_sF, h_nw, m_sI, m_sR, m_sA, m_sQ, m_sF, m_nw, s_sI, s_sR, s_sA, s_sQ, s_sF, s_nw, i_nR, r_nR, a_nR, q_nR, n_nR, h_nR, m_nR, s_nR, if_pos, if_neg, and_self, if_true, hH]
  · rw [g1.2.1]; simp (disch := omega) only [i_sI, i_sR, i_sA, i_sQ, i_sF, i_nw, r_sI, r_sR, r_sA, r_sQ, r_sF, r_nw, a_sI, a_sR, a_sA, a_sQ, a_sF, a_nw, q_sI, q_sR, q_sA, q_sQ, q_sF, q_nw, n_sI, n_sR, n_sA, n_sQ, n_sF, n_nw, h_sI, h_sR, h_sA, h_sQ, h_sF, h_nw, m_sI, m_sR, m_sA, m_sQ, m_sF, m_nw, s_sI, s_sR, s_sA, s_sQ, s_sF, s_nw, i_nR, r_nR, a_nR, q_nR, n_nR, h_nR, m_nR, s_nR, if_pos, if_neg, and_self, if_true, hH]
  · rw [g1.1]; simp (disch := omega) only [i_sI, i_sR, i_sA, i_sQ, i_sF, i_nw, r_sI, r_sR, r_sA, r_sQ, r_sF, r_nw, a_sI, a_sR, a_sA, a_sQ, a_sF, a_nw, q_sI, q_sR, q_sA, q_sQ, q_sF, q_nw, n_sI, n_sR, n_sA, n_sQ, n_sF, n_nw, h_sI, h_sR, h_sA, h_sQ, h_sF, h_nw, m_sI, m_sR, m_sA, m_sQ, m_sF, m_nw, s_sI, s_sR, s_sA, s_sQ, s_sF, s_nw, i_nR, r_nR, a_nR, q_nR, n_nR, h_nR, m_nR, s_nR, if_pos, if_neg, and_self, if_true, hH]
  · rw [g2.2.1]; simp (disch := omega) only [i_sI, i_sR, i_sA, i_sQ, i_sF, i_nw, r_sI, r_sR, r_sA, r_sQ, r_sF, r_nw, a_sI, a_sR, a_sA, a_sQ, a_sF, a_nw, q_sI, q_sR, q_sA, q_sQ, q_sF, q_nw, n_sI, n_sR, n_sA, n_sQ, n_sF, n_nw, h_sI, h_sR, h_sA, h_sQ, h_sF, h_nw, m_sI, m_sR, m_sA, m_sQ, m_sF, m_nw, s_sI, s_sR, s_sA, s_sQ, s_sF, s_nw, i_nR, r_nR, a_nR, q_nR, n_nR, h_nR, m_nR, s_nR, if_pos, if_neg, and_self, if_true, hH]
  · rw [g2.2.1]; simp (disch := omega) only [i_sI, i_sR, i_sA, i_sQ, i_sF, i_nw, r_sI, r_sR, r_sA, r_sQ, r_sF, r_nw, a_sI, a_sR, a_sA, a_sQ, a_sF, a_nw, q_sI, q_sR, q_sA, q_sQ, q_sF, q_nw, n_sI, n_sR, n_sA, n_sQ, n_sF, n_nw, h_sI, h_sR, h_sA, h_sQ, h_sF, h_nw, m_sI, m_sR, m_sA, m_sQ, m_sF, m_nw, s_sI, s_sR, s_sA, s_sQ, s_sF, s_nw, i_nR, r_nR, a_nR, q_nR, n_nR, h_nR, m_nR, s_nR, if_pos, if_neg, and_self, if_true, hH]
  · refine ⟨fun g => ?_, fun g => ?_, fun g => ?_, fun g => ?_, ?_⟩ <;> simp (disch := omega) only [i_sI, i_sR, i_sA, i_sQ, i_sF, i_nw, r_sI, r_sR, r_sA, r_sQ, r_sF, r_nw, a_sI, a_sR, a_sA, a_sQ, a_sF, a_nw, q_sI, q_sR, q_sA, q_sQ, q_sF, q_nw, n_sI, n_sR, n_sA, n_sQ, n_sF, n_nw, h_sI, h_sR, h_sA, h_sQ, h_sF, h_nw, m_sI, m_sR, m_sA, m_sQ, m_sF, m_nw, s_sI, s_sR, s_sA, s_sQ, s_sF, s_nw, i_nR, r_nR, a_nR, q_nR, n_nR, h_nR, m_nR, s_nR, if_pos, if_neg, and_self, if_true, hH]
  · simp only [i_sI, i_sR, i_sA, i_sQ, i_sF, i_nw, r_sI, r_sR, r_sA, r_sQ, r_sF, r_nw, a_sI, a_sR, a_sA, a_sQ, a_sF, a_nw, q_sI, q_sR, q_sA, q_sQ, q_sF, q_nw, n_sI, n_sR, n_sA, n_sQ, n_sF, n_nw, h_sI, h_sR, h_sA, h_sQ, h_sF, h_nw, m_sI, m_sR, m_sA, m_sQ, m_sF, m_nw, s_sI, s_sR, s_sA, s_sQ, s_sF, s_nw, i_nR, r_nR, a_nR, q_nR, n_nR, h_nR, m_nR, s_nR, if_pos, if_neg, and_self, if_true] at v5; omega
  · simp only [i_sI, i_sR, i_sA, i_sQ, i_sF, i_nw, r_sI, r_sR, r_sA, r_sQ, r_sF, r_nw, a_sI, a_sR, a_sA, a_sQ, a_sF, a_nw, q_sI, q_sR, q_sA, q_sQ, q_sF, q_nw, n_sI, n_sR, n_sA, n_sQ, n_sF, n_nw, h_sI, h_sR, h_sA, h_sQ, h_sF, h_nw, m_sI, m_sR, m_sA, m_sQ, m_sF, m_nw, s_sI, s_sR, s_sA, s_sQ, s_sF, s_nw, i_nR, r_nR, a_nR, q_nR, n_nR, h_nR, m_nR, s_nR, if_pos, if_neg, and_self, if_true] at v6; omega
def b0 (T : Nat) : Be := (fun _ => 0, 0, [], [], [], fun i j => hA T i + 4 + j, fun _ _ => 0, [])
/-- a new traffic is right -/
theorem TF.tm (hF : TF w T P) (hP : P + 76 ≤ T) (hpl : ∀ a, pl P w a → a < P + 76) (hH : T + 61 ≤ wd_H w) (hM : 2 * X + 1 ≤ wd_M w) (hS : 15 * (2 * X + 1) ≤ wd_S w) : Tm P T X w w (b0 T) EA := by
  obtain ⟨⟨h1, h2, h3, h4, h5, h6, h7⟩, ⟨i1, i2, i3⟩, hA', ⟨r1, r2, r3, r4⟩, ⟨s1, s2⟩, hQ⟩ := hF
  refine ⟨fun a _ => ag.rf _ _, ⟨hP, fun i hi => absurd hi (Nat.not_lt_zero _), fun a ha => absurd ha List.not_mem_nil, fun i j hi => absurd hi (Nat.not_lt_zero _), List.nodup_nil, fun a ha => ?_, fun a ha => by have := hpl a ha; omega, ⟨Nat.zero_le _, Nat.zero_le _, hM, hS⟩, fun a ha => absurd ha List.not_mem_nil, Nat.zero_le _⟩,
    ⟨⟨h1, h2, h3, h4, h5, h6, h7, fun i hi => (hQ i hi).1⟩, i1, i2, i3, fun c hc => hA' c⟩, fun i hi => absurd hi (Nat.not_lt_zero _), ⟨Nat.zero_le _, s1, s2, fun i hi => absurd hi (Nat.not_lt_zero _)⟩, ⟨r1, r2, r3, r4, trivial⟩, fun i hi => ?_⟩
  · rcases ha with ha | ⟨i, hi, -⟩ | ha
    · exact ⟨by omega, fun q => by have := hpl a q; omega⟩
    · exact absurd hi (Nat.not_lt_zero _)
    · exact absurd ha List.not_mem_nil
  · obtain ⟨hq, f1, f2, ⟨f3, f4, f5, f6⟩, ⟨f7, f8⟩, f9⟩ := hQ i hi
    exact ⟨f1, ⟨f2, f6⟩, ⟨f3, f7, f8, fun e he => absurd he List.not_mem_nil⟩, ⟨f4, Nat.zero_le _, fun j hj => ⟨f9 j hj, Nat.le_add_right _ _, by show hA T i + 4 + j < hA T i + 7; omega⟩, fun j k hj hk e => by have e : hA T i + 4 + j = hA T i + 4 + k := e; omega, fun j e he => by cases he⟩, ⟨f5, by show 0 + 0 < 1073741824; omega, fun k f hk hf => by cases hf⟩⟩
end NEW4
