/-! ===== PURE: what is made: hosts, machines ===== -/
section NEW1
variable {P T i j n h m : Nat} {w u v : Wd}
/-- a new array, put into a field -/
def nR (w : Wd) (k N sz g a : Nat) : Wd := wd_sR (wd_nw w k N sz) g a (some (wd_H w))
theorem i_nR (w : Wd) (k N sz g a x y : Nat) : wd_I (nR w k N sz g a) x y = if y = wd_H w then 0 else wd_I w x y := rfl
theorem r_nR (w : Wd) (k N sz g a x y : Nat) : wd_R (nR w k N sz g a) x y = if x = g ∧ y = a then some (wd_H w) else if y = wd_H w then none else wd_R w x y := rfl
theorem a_nR (w : Wd) (k N sz g a x y : Nat) : wd_A (nR w k N sz g a) x y = if x = wd_H w then 0 else wd_A w x y := rfl
theorem q_nR (w : Wd) (k N sz g a x y : Nat) : wd_Q (nR w k N sz g a) x y = if x = wd_H w then none else wd_Q w x y := rfl
theorem n_nR (w : Wd) (k N sz g a x : Nat) : wd_N (nR w k N sz g a) x = if x = wd_H w then N else wd_N w x := rfl
theorem h_nR (w : Wd) (k N sz g a : Nat) : wd_H (nR w k N sz g a) = wd_H w + 1 := rfl
theorem m_nR (w : Wd) (k N sz g a : Nat) : wd_M (nR w k N sz g a) = wd_M w - 1 := rfl
theorem s_nR (w : Wd) (k N sz g a : Nat) : wd_S (nR w k N sz g a) = wd_S w - sz := rfl
theorem al {ρ : Type} (w : Wd) (k N sz g a : Nat) (F : Wd → Option ρ) (h : 1 ≤ wd_M w ∧ sz ≤ wd_S w) : wd_gd (wd_M w = 0 ∨ wd_S w < sz) (wd_let (wd_H w) fun x => wd_let (wd_nw w k N sz) fun w1 => wd_let (wd_sR w1 g a (some x)) fun w2 => F w2) = F (nR w k N sz g a) := by
  rw [j_gd (by omega)]; rfl
theorem sF_A (w : Wd) (a t : Nat) (f : Nat → Int32) (x : Int32) : wd_sA (wd_sF w a f) a t x = wd_sF w a (fun i => if i = t then x else f i) := by
  have e : wd_A (wd_sA (wd_sF w a f) a t x) = wd_A (wd_sF w a (fun i => if i = t then x else f i)) := by
    funext b i
    rw [a_sA, a_sF, a_sF]
    by_cases hb : b = a
    · by_cases hi : i = t
      · rw [if_pos ⟨hb, hi⟩, if_pos hb, if_pos hi]
      · rw [if_neg (fun q => hi q.2), if_pos hb, if_pos hb, if_neg hi]
    · rw [if_neg (fun q => hb q.1), if_neg hb, if_neg hb]
  exact Prod.ext rfl (Prod.ext rfl (Prod.ext rfl (Prod.ext e rfl)))
theorem sF_0 (w : Wd) (a : Nat) : wd_sF w a (wd_A w a) = w := by
  have e : wd_A (wd_sF w a (wd_A w a)) = wd_A w := by
    funext b i
    rw [a_sF]
    by_cases hb : b = a
    · rw [if_pos hb, hb]
    · rw [if_neg hb]
  exact Prod.ext rfl (Prod.ext rfl (Prod.ext rfl (Prod.ext e rfl)))
theorem fil (w : Wd) (a : Nat) (x : Int32) (hn : wd_N w a < n) (hN : wd_N w a < 2147483648) : f_J7_fill_53178 n w (some a) x = some (wd_sF w a (fun i => if i < wd_N w a then x else wd_A w a i)) := by
  have key : ∀ (k t m : Nat), t + k = wd_N w a → k < m → wd_lp5 (f_J7_fill_53178_l5 n) m (some a) x (Int32.ofNat t) (Int32.ofNat (wd_N w a)) (wd_sF w a (fun i => if i < t then x else wd_A w a i)) = some (wd_sF w a (fun i => if i < wd_N w a then x else wd_A w a i)) := by
    intro k
    induction k with
    | zero =>
      intro t m ht hm
      obtain ⟨m, rfl⟩ : ∃ r, m = r + 1 := ⟨m - 1, by omega⟩
      rw [wd_lp5, f_J7_fill_53178_l5, if_pos (by rw [j_ll (by omega) (by omega)]; omega), show t = wd_N w a by omega]
    | succ k ih =>
      intro t m ht hm
      obtain ⟨m, rfl⟩ : ∃ r, m = r + 1 := ⟨m - 1, by omega⟩
      have e : (fun i => if i = t then x else if i < t then x else wd_A w a i) = (fun i => if i < t + 1 then x else wd_A w a i) := by
        funext i
        by_cases h1 : i = t
        · rw [if_pos h1, if_pos (by omega)]
        · by_cases h2 : i < t
          · rw [if_neg h1, if_pos h2, if_pos (by omega)]
          · rw [if_neg h1, if_neg h2, if_neg (by omega)]
      rw [wd_lp5, f_J7_fill_53178_l5, if_neg (by rw [j_ll (by omega) (by omega)]; omega), Option.bind_some, j_gd (by rw [n_sF]; exact j_in (by omega) hN), j_nn (by omega), wd_let, wd_let, sF_A, e, j_a1]
      exact ih (t + 1) m (by omega) (by omega)
  have e0 : wd_sF w a (fun i => if i < 0 then x else wd_A w a i) = w := by
    rw [show (fun i => if i < 0 then x else wd_A w a i) = wd_A w a from funext fun i => if_neg (Nat.not_lt_zero _)]
    exact sF_0 w a
  have := key (wd_N w a) 0 n (by omega) hn
  rw [e0] at this
  rw [f_J7_fill_53178, Option.bind_some, wd_let]
  exact this
/-- a new host -/
def HF (w : Wd) (h m : Nat) : Prop :=
  (wd_R w 200 h = some m ∧ wd_R w 205 h = some (h + 1) ∧ wd_R w 208 h = some (h + 2) ∧ wd_R w 209 h = some (h + 3) ∧ wd_N w (h + 1) = 256 ∧ wd_N w (h + 2) = 3 ∧ wd_N w (h + 3) = 60) ∧
  (∀ x, x < 256 → wd_A w (h + 1) x = -1) ∧ (wd_I w 201 h = 0 ∧ wd_I w 202 h = 0 ∧ wd_I w 203 h = 0 ∧ wd_I w 204 h = 0) ∧ (wd_R w 206 h = none ∧ wd_R w 207 h = none) ∧ ∀ j, j < 3 → wd_Q w (h + 2) j = some (h + 4 + j)
theorem HF.ag (hF : HF w h m) (hag : ∀ a, h ≤ a → a < h + 7 → ag w v a) : HF v h m := by
  obtain ⟨h1, h2, h3, h4, h5⟩ := hF
  have a0 := hag h (by omega) (by omega)
  have a1 := hag (h + 1) (by omega) (by omega)
  have a2 := hag (h + 2) (by omega) (by omega)
  have a3 := hag (h + 3) (by omega) (by omega)
  exact ⟨by rw [a0.2.1, a0.2.1, a0.2.1, a0.2.1, a1.2.2.2.2, a2.2.2.2.2, a3.2.2.2.2]; exact h1, fun x hx => by rw [a1.2.2.1]; exact h2 x hx, by rw [a0.1, a0.1, a0.1, a0.1]; exact h3, by rw [a0.2.1, a0.2.1]; exact h4, fun j hj => by rw [a2.2.2.2.1]; exact h5 j hj⟩
theorem i_X2l : ∀ (k t m : Nat) (w : Wd), t + k = 3 → k < m → wd_R w 208 h = some (h + 2) → wd_N w (h + 2) = 3 → wd_H w = h + 4 + t → k ≤ wd_M w → 3 * k ≤ wd_S w → (∀ j, j < t → wd_Q w (h + 2) j = some (h + 4 + j)) →
    ∃ v, wd_lp3 (f_X2_init_l44 n) m h (Int32.ofNat t) w = some v ∧ (∀ j, j < 3 → wd_Q v (h + 2) j = some (h + 4 + j)) ∧ wd_N v (h + 2) = 3 ∧ wd_H v = h + 7 ∧ wd_M v + k = wd_M w ∧ wd_S v + 3 * k = wd_S w ∧ (∀ a, a < h + 4 → a ≠ h + 2 → ag w v a) := by
  intro k
  induction k with
  | zero =>
    intro t m w ht hm h1 h2 h3 h4 h5 h6
    obtain ⟨m, rfl⟩ : ∃ r, m = r + 1 := ⟨m - 1, by omega⟩
    refine ⟨w, by rw [wd_lp3, f_X2_init_l44, if_pos (by rw [show (3 : Int32) = Int32.ofNat 3 from rfl, j_ll (by omega) (by omega)]; omega)], fun j hj => h6 j (by omega), h2, by omega, rfl, rfl, fun a _ _ => ag.rf _ _⟩
  | succ k ih =>
    intro t m w ht hm h1 h2 h3 h4 h5 h6
    obtain ⟨m, rfl⟩ : ∃ r, m = r + 1 := ⟨m - 1, by omega⟩
    have hag : ∀ a, a < h + 4 → a ≠ h + 2 → ag w (wd_sQ (wd_nw w 2 0 3) (h + 2) t (some (wd_H w))) a := fun a ha hb =>
      ⟨fun g => by simp (disch := omega) only [i_sI, i_sR, i_sA, i_sQ, i_sF, i_nw, r_sI, r_sR, r_sA, r_sQ, r_sF, r_nw, a_sI, a_sR, a_sA, a_sQ, a_sF, a_nw, q_sI, q_sR, q_sA, q_sQ, q_sF, q_nw, n_sI, n_sR, n_sA, n_sQ, n_sF, n_nw, h_sI, h_sR, h_sA, h_sQ, h_sF, h_nw, m_sI, m_sR, m_sA, m_sQ, m_sF, m_nw, s_sI, s_sR, s_sA, s_sQ, s_sF, s_nw, h3, if_pos, if_neg], fun g => by simp (disch := omega) only [i_sI, i_sR, i_sA, i_sQ, i_sF, i_nw, r_sI, r_sR, r_sA, r_sQ, r_sF, r_nw, a_sI, a_sR, a_sA, a_sQ, a_sF, a_nw, q_sI, q_sR, q_sA, q_sQ, q_sF, q_nw, n_sI, n_sR, n_sA, n_sQ, n_sF, n_nw, h_sI, h_sR, h_sA, h_sQ, h_sF, h_nw, m_sI, m_sR, m_sA, m_sQ, m_sF, m_nw, s_sI, s_sR, s_sA, s_sQ, s_sF, s_nw, h3, if_pos, if_neg], fun g => by simp (disch := omega) only [i_sI, i_sR, i_sA, i_sQ, i_sF, i_nw, r_sI, r_sR, r_sA, r_sQ, r_sF, r_nw, a_sI, a_sR, a_sA, a_sQ, a_sF, a_nw, q_sI, q_sR, q_sA, q_sQ, q_sF, q_nw, n_sI, n_sR, n_sA, n_sQ, n_sF, n_nw, h_sI, h_sR, h_sA, h_sQ, h_sF, h_nw, m_sI, m_sR, m_sA, m_sQ, m_sF, m_nw, s_sI, s_sR, s_sA, s_sQ, s_sF, s_nw, h3, if_pos, if_neg], fun g => by simp (disch := omega) only [i_sI, i_sR, i_sA, i_sQ, i_sF, i_nw, r_sI, r_sR, r_sA, r_sQ, r_sF, r_nw, a_sI, a_sR, a_sA, a_sQ, a_sF, a_nw, q_sI, q_sR, q_sA, q_sQ, q_sF, q_nw, n_sI, n_sR, n_sA, n_sQ, n_sF, n_nw, h_sI, h_sR, h_sA, h_sQ, h_sF, h_nw, m_sI, m_sR, m_sA, m_sQ, m_sF, m_nw, s_sI, s_sR, s_sA, s_sQ, s_sF, s_nw, h3, if_pos, if_neg], by simp (disch := omega) only [i_sI, i_sR, i_sA, i_sQ, i_sF, i_nw, r_sI, r_sR, r_sA, r_sQ, r_sF, r_nw, a_sI, a_sR, a_sA, a_sQ, a_sF, a_nw, q_sI, q_sR, q_sA, q_sQ, q_sF, q_nw, n_sI, n_sR, n_sA, n_sQ, n_sF, n_nw, h_sI, h_sR, h_sA, h_sQ, h_sF, h_nw, m_sI, m_sR, m_sA, m_sQ, m_sF, m_nw, s_sI, s_sR, s_sA, s_sQ, s_sF, s_nw, h3, if_pos, if_neg]⟩
    obtain ⟨v, v1, v2, v3, v4, v5, v6, v7⟩ := ih (t + 1) m (wd_sQ (wd_nw w 2 0 3) (h + 2) t (some (wd_H w))) (by omega) (by omega)
      (by simp (disch := omega) only [i_sI, i_sR, i_sA, i_sQ, i_sF, i_nw, r_sI, r_sR, r_sA, r_sQ, r_sF, r_nw, a_sI, a_sR, a_sA, a_sQ, a_sF, a_nw, q_sI, q_sR, q_sA, q_sQ, q_sF, q_nw, n_sI, n_sR, n_sA, n_sQ, n_sF, n_nw, h_sI, h_sR, h_sA, h_sQ, h_sF, h_nw, m_sI, m_sR, m_sA, m_sQ, m_sF, m_nw, s_sI, s_sR, s_sA, s_sQ, s_sF, s_nw, h3, if_pos, if_neg]; exact h1) (by simp (disch := omega) only [i_sI, i_sR, i_sA, i_sQ, i_sF, i_nw, r_sI, r_sR, r_sA, r_sQ, r_sF, r_nw, a_sI, a_sR, a_sA, a_sQ, a_sF, a_nw, q_sI, q_sR, q_sA, q_sQ, q_sF, q_nw, n_sI, n_sR, n_sA, n_sQ, n_sF, n_nw, h_sI, h_sR, h_sA, h_sQ, h_sF, h_nw, m_sI, m_sR, m_sA, m_sQ, m_sF, m_nw, s_sI, s_sR, s_sA, s_sQ, s_sF, s_nw, h3, if_pos, if_neg]; exact h2) (by simp only [i_sI, i_sR, i_sA, i_sQ, i_sF, i_nw, r_sI, r_sR, r_sA, r_sQ, r_sF, r_nw, a_sI, a_sR, a_sA, a_sQ, a_sF, a_nw, q_sI, q_sR, q_sA, q_sQ, q_sF, q_nw, n_sI, n_sR, n_sA, n_sQ, n_sF, n_nw, h_sI, h_sR, h_sA, h_sQ, h_sF, h_nw, m_sI, m_sR, m_sA, m_sQ, m_sF, m_nw, s_sI, s_sR, s_sA, s_sQ, s_sF, s_nw]; omega) (by simp only [i_sI, i_sR, i_sA, i_sQ, i_sF, i_nw, r_sI, r_sR, r_sA, r_sQ, r_sF, r_nw, a_sI, a_sR, a_sA, a_sQ, a_sF, a_nw, q_sI, q_sR, q_sA, q_sQ, q_sF, q_nw, n_sI, n_sR, n_sA, n_sQ, n_sF, n_nw, h_sI, h_sR, h_sA, h_sQ, h_sF, h_nw, m_sI, m_sR, m_sA, m_sQ, m_sF, m_nw, s_sI, s_sR, s_sA, s_sQ, s_sF, s_nw]; omega) (by simp only [i_sI, i_sR, i_sA, i_sQ, i_sF, i_nw, r_sI, r_sR, r_sA, r_sQ, r_sF, r_nw, a_sI, a_sR, a_sA, a_sQ, a_sF, a_nw, q_sI, q_sR, q_sA, q_sQ, q_sF, q_nw, n_sI, n_sR, n_sA, n_sQ, n_sF, n_nw, h_sI, h_sR, h_sA, h_sQ, h_sF, h_nw, m_sI, m_sR, m_sA, m_sQ, m_sF, m_nw, s_sI, s_sR, s_sA, s_sQ, s_sF, s_nw]; omega)
      (fun j hj => by
        rw [q_sQ]
        by_cases e : j = t
        · rw [if_pos ⟨rfl, e⟩, e, h3]
        · rw [if_neg (fun q => e q.2), q_nw, if_neg (by omega)]; exact h6 j (by omega))
    refine ⟨v, ?_, v2, v3, v4, by simp only [i_sI, i_sR, i_sA, i_sQ, i_sF, i_nw, r_sI, r_sR, r_sA, r_sQ, r_sF, r_nw, a_sI, a_sR, a_sA, a_sQ, a_sF, a_nw, q_sI, q_sR, q_sA, q_sQ, q_sF, q_nw, n_sI, n_sR, n_sA, n_sQ, n_sF, n_nw, h_sI, h_sR, h_sA, h_sQ, h_sF, h_nw, m_sI, m_sR, m_sA, m_sQ, m_sF, m_nw, s_sI, s_sR, s_sA, s_sQ, s_sF, s_nw] at v5; omega, by simp only [i_sI, i_sR, i_sA, i_sQ, i_sF, i_nw, r_sI, r_sR, r_sA, r_sQ, r_sF, r_nw, a_sI, a_sR, a_sA, a_sQ, a_sF, a_nw, q_sI, q_sR, q_sA, q_sQ, q_sF, q_nw, n_sI, n_sR, n_sA, n_sQ, n_sF, n_nw, h_sI, h_sR, h_sA, h_sQ, h_sF, h_nw, m_sI, m_sR, m_sA, m_sQ, m_sF, m_nw, s_sI, s_sR, s_sA, s_sQ, s_sF, s_nw] at v6; omega, fun a ha hb => (hag a ha hb).tr (v7 a ha hb)⟩
    rw [wd_lp3, f_X2_init_l44, if_neg (by rw [show (3 : Int32) = Int32.ofNat 3 from rfl, j_ll (by omega) (by omega)]; omega), j_gd (by omega), wd_let, wd_let, f_X1_init, Option.bind_some, h1, Option.bind_some, j_gd (by rw [n_nw, if_neg (by omega), h2]; exact j_in (by omega) (by omega)), j_nn (by omega), wd_let, wd_let, j_a1]
    exact v1
theorem i_X2 (hH : wd_H w = h + 1) (hM : 6 ≤ wd_M w) (hS : 328 ≤ wd_S w) (hI : ∀ g, wd_I w g h = 0) (hR : ∀ g, wd_R w g h = none) (hn : 300 ≤ n) : ∃ v, f_X2_init n w h (some m) = some v ∧ HF v h m ∧ (∀ a, a < h → ag w v a) ∧ wd_H v = h + 7 ∧ wd_M v + 6 = wd_M w ∧ wd_S v + 328 = wd_S w := by
  have e205 : wd_R (wd_sR (nR (nR (nR w 21 256 256 205 h) 25 3 3 208 h) 21 60 60 209 h) 200 h (some m)) 205 h = some (h + 1) := by simp (disch := omega) only [i_sI, i_sR, i_sA, i_sQ, i_sF, i_nw, r_sI, r_sR, r_sA, r_sQ, r_sF, r_nw, a_sI, a_sR, a_sA, a_sQ, a_sF, a_nw, q_sI, q_sR, q_sA, q_sQ, q_sF, q_nw, n_sI, n_sR, n_sA, n_sQ, n_sF, n_nw, h_sI, h_sR, h_sA, h_sQ, h_sF, h_nw, m_sI, m_sR, m_sA, m_sQ, m_sF, m_nw, s_sI, s_sR, s_sA, s_sQ, s_sF, s_nw, i_nR, r_nR, a_nR, q_nR, n_nR, h_nR, m_nR, s_nR, if_pos, if_neg, and_self, if_true, hH]
  have eN : wd_N (wd_sR (nR (nR (nR w 21 256 256 205 h) 25 3 3 208 h) 21 60 60 209 h) 200 h (some m)) (h + 1) = 256 := by simp (disch := omega) only [i_sI, i_sR, i_sA, i_sQ, i_sF, i_nw, r_sI, r_sR, r_sA, r_sQ, r_sF, r_nw, a_sI, a_sR, a_sA, a_sQ, a_sF, a_nw, q_sI, q_sR, q_sA, q_sQ, q_sF, q_nw, n_sI, n_sR, n_sA, n_sQ, n_sF, n_nw, h_sI, h_sR, h_sA, h_sQ, h_sF, h_nw, m_sI, m_sR, m_sA, m_sQ, m_sF, m_nw, s_sI, s_sR, s_sA, s_sQ, s_sF, s_nw, i_nR, r_nR, a_nR, q_nR, n_nR, h_nR, m_nR, s_nR, if_pos, if_neg, and_self, if_true, hH]
  have e1 : f_X2_init n w h (some m) = wd_lp3 (f_X2_init_l44 n) n h 0 (wd_sF (wd_sR (nR (nR (nR w 21 256 256 205 h) 25 3 3 208 h) 21 60 60 209 h) 200 h (some m)) (h + 1) (fun i => if i < 256 then -1 else wd_A (wd_sR (nR (nR (nR w 21 256 256 205 h) 25 3 3 208 h) 21 60 60 209 h) 200 h (some m)) (h + 1) i)) := by
    rw [f_X2_init, al _ 21 256 256 205 h _ (by omega), al _ 25 3 3 208 h _ (by rw [m_nR, s_nR]; omega), al _ 21 60 60 209 h _ (by rw [m_nR, s_nR, m_nR, s_nR]; omega), wd_let, e205, fil _ _ _ (by rw [eN]; omega) (by rw [eN]; omega), eN, Option.bind_some]
  obtain ⟨v, v1, v2, v3, v4, v5, v6, v7⟩ := i_X2l (n := n) (h := h) 3 0 n (by omega) (by omega)
    (w := wd_sF (wd_sR (nR (nR (nR w 21 256 256 205 h) 25 3 3 208 h) 21 60 60 209 h) 200 h (some m)) (h + 1) (fun i => if i < 256 then -1 else wd_A (wd_sR (nR (nR (nR w 21 256 256 205 h) 25 3 3 208 h) 21 60 60 209 h) 200 h (some m)) (h + 1) i))
    (by simp (disch := omega) only [i_sI, i_sR, i_sA, i_sQ, i_sF, i_nw, r_sI, r_sR, r_sA, r_sQ, r_sF, r_nw, a_sI, a_sR, a_sA, a_sQ, a_sF, a_nw, q_sI, q_sR, q_sA, q_sQ, q_sF, q_nw, n_sI, n_sR, n_sA, n_sQ, n_sF, n_nw, h_sI, h_sR, h_sA, h_sQ, h_sF, h_nw, m_sI, m_sR, m_sA, m_sQ, m_sF, m_nw, s_sI, s_sR, s_sA, s_sQ, s_sF, s_nw, i_nR, r_nR, a_nR, q_nR, n_nR, h_nR, m_nR, s_nR, if_pos, if_neg, and_self, if_true, hH]) (by simp (disch := omega) only [i_sI, i_sR, i_sA, i_sQ, i_sF, i_nw, r_sI, r_sR, r_sA, r_sQ, r_sF, r_nw, a_sI, a_sR, a_sA, a_sQ, a_sF, a_nw, q_sI, q_sR, q_sA, q_sQ, q_sF, q_nw, n_sI, n_sR, n_sA, n_sQ, n_sF, n_nw, h_sI, h_sR, h_sA, h_sQ, h_sF, h_nw, m_sI, m_sR, m_sA, m_sQ, m_sF, m_nw, s_sI, s_sR, s_sA, s_sQ, s_sF, s_nw, i_nR, r_nR, a_nR, q_nR, n_nR, h_nR, m_nR, s_nR, if_pos, if_neg, and_self, if_true, hH]) (by simp only [i_sI, i_sR, i_sA, i_sQ, i_sF, i_nw, r_sI, r_sR, r_sA, r_sQ, r_sF, r_nw, a_sI, a_sR, a_sA, a_sQ, a_sF, a_nw, q_sI, q_sR, q_sA, q_sQ, q_sF, q_nw, n_sI, n_sR, n_sA, n_sQ, n_sF, n_nw, h_sI, h_sR, h_sA, h_sQ, h_sF, h_nw, m_sI, m_sR, m_sA, m_sQ, m_sF, m_nw, s_sI, s_sR, s_sA, s_sQ, s_sF, s_nw, i_nR, r_nR, a_nR, q_nR, n_nR, h_nR, m_nR, s_nR, if_pos, if_neg, and_self, if_true, hH]) (by simp only [i_sI, i_sR, i_sA, i_sQ, i_sF, i_nw, r_sI, r_sR, r_sA, r_sQ, r_sF, r_nw, a_sI, a_sR, a_sA, a_sQ, a_sF, a_nw, q_sI, q_sR, q_sA, q_sQ, q_sF, q_nw, n_sI, n_sR, n_sA, n_sQ, n_sF, n_nw, h_sI, h_sR, h_sA, h_sQ, h_sF, h_nw, m_sI, m_sR, m_sA, m_sQ, m_sF, m_nw, s_sI, s_sR, s_sA, s_sQ, s_sF, s_nw, i_nR, r_nR, a_nR, q_nR, n_nR, h_nR, m_nR, s_nR, if_pos, if_neg, and_self, if_true]; omega) (by simp only [i_sI, i_sR, i_sA, i_sQ, i_sF, i_nw, r_sI, r_sR, r_sA, r_sQ, r_sF, r_nw, a_sI, a_sR, a_sA, a_sQ, a_sF, a_nw, q_sI, q_sR, q_sA, q_sQ, q_sF, q_nw, n_sI, n_sR, n_sA, n_sQ, n_sF, n_nw, h_sI, h_sR, h_sA, h_sQ, h_sF, h_nw, m_sI, m_sR, m_sA, m_sQ, m_sF, m_nw, s_sI, s_sR, s_sA, s_sQ, s_sF, s_nw, i_nR, r_nR, a_nR, q_nR, n_nR, h_nR, m_nR, s_nR, if_pos, if_neg, and_self, if_true]; omega) (fun j hj => absurd hj (Nat.not_lt_zero _))
  have g0 := v7 h (by omega) (by omega)
  have g1 := v7 (h + 1) (by omega) (by omega)
  have g3 := v7 (h + 3) (by omega) (by omega)
  refine ⟨v, by rw [e1]; exact v1, ⟨⟨?_, ?_, ?_, ?_, ?_, v3, ?_⟩, fun x hx => ?_, ⟨?_, ?_, ?_, ?_⟩, ⟨?_, ?_⟩, v2⟩, fun a ha => (?_ : ag w _ a).tr (v7 a (by omega) (by omega)), v4, ?_, ?_⟩
  · rw [g0.2.1]; simp (disch := omega) only [i_sI, i_sR, i_sA, i_sQ, i_sF, i_nw, r_sI, r_sR, r_sA, r_sQ, r_sF, r_nw, a_sI, a_sR, a_sA, a_sQ, a_sF, a_nw, q_sI, q_sR, q_sA, q_sQ, q_sF, q_nw, n_sI, n_sR, n_sA, n_sQ, n_sF, n_nw, h_sI, h_sR, h_sA, h_sQ, h_sF, h_nw, m_sI, m_sR, m_sA, m_sQ, m_sF, m_nw, s_sI, s_sR, s_sA, s_sQ, s_sF, s_nw, i_nR, r_nR, a_nR, q_nR, n_nR, h_nR, m_nR, s_nR, if_pos, if_neg, and_self, if_true, hH]
  · rw [g0.2.1]; simp (disch := omega) only [i_sI, i_sR, i_sA, i_sQ, i_sF, i_nw, r_sI, r_sR, r_sA, r_sQ, r_sF, r_nw, a_sI, a_sR, a_sA, a_sQ, a_sF, a_nw, q_sI, q_sR, q_sA, q_sQ, q_sF, q_nw, n_sI, n_sR, n_sA, n_sQ, n_sF, n_nw, h_sI, h_sR, h_sA, h_sQ, h_sF, h_nw, m_sI, m_sR, m_sA, m_sQ, m_sF, m_nw, s_sI, s_sR, s_sA, s_sQ, s_sF, s_nw, i_nR, r_nR, a_nR, q_nR, n_nR, h_nR, m_nR, s_nR, if_pos, if_neg, and_self, if_true, hH]
  · rw [g0.2.1]; simp (disch := omega) only [i_sI, i_sR, i_sA, i_sQ, i_sF, i_nw, r_sI, r_sR, r_sA, r_sQ, r_sF, r_nw, a_sI, a_sR, a_sA, a_sQ, a_sF, a_nw, q_sI, q_sR, q_sA, q_sQ, q_sF, q_nw, n_sI, n_sR, n_sA, n_sQ, n_sF, n_nw, h_sI, h_sR, h_sA, h_sQ, h_sF, h_nw, m_sI, m_sR, m_sA, m_sQ, m_sF, m_nw, s_sI, s_sR, s_sA, s_sQ, s_sF, s_nw, i_nR, r_nR, a_nR, q_nR, n_nR, h_nR, m_nR, s_nR, if_pos, if_neg, and_self, if_true, hH]
  · rw [g0.2.1]; simp (disch := omega) only [i_sI, i_sR, i_sA, i_sQ, i_sF, i_nw, r_sI, r_sR, r_sA, r_sQ, r_sF, r_nw, a_sI, a_sR, a_sA, a_sQ, a_sF, a_nw, q_sI, q_sR, q_sA, q_sQ, q_sF, q_nw, n_sI, n_sR, n_sA, n_sQ, n_sF, n_nw, h_sI, h_sR, h_sA, h_sQ, h_sF, h_nw, m_sI, m_sR, m_sA, m_sQ, m_sF, m_nw, s_sI, s_sR, s_sA, s_sQ, s_sF, s_nw, i_nR, r_nR, a_nR, q_nR, n_nR, h_nR, m_nR, s_nR, if_pos, if_neg, and_self, if_true, hH]
  · rw [g1.2.2.2.2]; simp (disch := omega) only [i_sI, i_sR, i_sA, i_sQ, i_sF, i_nw, r_sI, r_sR, r_sA, r_sQ, r_sF, r_nw, a_sI, a_sR, a_sA, a_sQ, a_sF, a_nw, q_sI, q_sR, q_sA, q_sQ, q_sF, q_nw, n_sI, n_sR, n_sA, n_sQ, n_sF, n_nw, h_sI, h_sR, h_sA, h_sQ, h_sF, h_nw, m_sI, m_sR, m_sA, m_sQ, m_sF, m_nw, s_sI, s_sR, s_sA, s_sQ, s_sF, s_nw, i_nR, r_nR, a_nR, q_nR, n_nR, h_nR, m_nR, s_nR, if_pos, if_neg, and_self, if_true, hH]
  · rw [g3.2.2.2.2]; simp (disch := omega) only [i_sI, i_sR, i_sA, i_sQ, i_sF, i_nw, r_sI, r_sR, r_sA, r_sQ, r_sF, r_nw, a_sI, a_sR, a_sA, a_sQ, a_sF, a_nw, q_sI, q_sR, q_sA, q_sQ, q_sF, q_nw, n_sI, n_sR, n_sA, n_sQ, n_sF, n_nw, h_sI, h_sR, h_sA, h_sQ, h_sF, h_nw, m_sI, m_sR, m_sA, m_sQ, m_sF, m_nw, s_sI, s_sR, s_sA, s_sQ, s_sF, s_nw, i_nR, r_nR, a_nR, q_nR, n_nR, h_nR, m_nR, s_nR, if_pos, if_neg, and_self, if_true, hH]
  · rw [g1.2.2.1, a_sF, if_pos rfl, if_pos hx]
  · rw [g0.1]; simp (disch := omega) only [i_sI, i_sR, i_sA, i_sQ, i_sF, i_nw, r_sI, r_sR, r_sA, r_sQ, r_sF, r_nw, a_sI, a_sR, a_sA, a_sQ, a_sF, a_nw, q_sI, q_sR, q_sA, q_sQ, q_sF, q_nw, n_sI, n_sR, n_sA, n_sQ, n_sF, n_nw, h_sI, h_sR, h_sA, h_sQ, h_sF, h_nw, m_sI, m_sR, m_sA, m_sQ, m_sF, m_nw, s_sI, s_sR, s_sA, s_sQ, s_sF, s_nw, i_nR, r_nR, a_nR, q_nR, n_nR, h_nR, m_nR, s_nR, if_pos, if_neg, and_self, if_true, hH, hI]
  · rw [g0.1]; simp (disch := omega) only [i_sI, i_sR, i_sA, i_sQ, i_sF, i_nw, r_sI, r_sR, r_sA, r_sQ, r_sF, r_nw, a_sI, a_sR, a_sA, a_sQ, a_sF, a_nw, q_sI, q_sR, q_sA, q_sQ, q_sF, q_nw, n_sI, n_sR, n_sA, n_sQ, n_sF, n_nw, h_sI, h_sR, h_sA, h_sQ, h_sF, h_nw, m_sI, m_sR, m_sA, m_sQ, m_sF, m_nw, s_sI, s_sR, s_sA, s_sQ, s_sF, s_nw, i_nR, r_nR, a_nR, q_nR, n_nR, h_nR, m_nR, s_nR, if_pos, if_neg, and_self, if_true, hH, hI]
  · rw [g0.1]; simp (disch := omega) only [i_sI, i_sR, i_sA, i_sQ, i_sF, i_nw, r_sI, r_sR, r_sA, r_sQ, r_sF, r_nw, a_sI, a_sR, a_sA, a_sQ, a_sF, a_nw, q_sI, q_sR, q_sA, q_sQ, q_sF, q_nw, n_sI, n_sR, n_sA, n_sQ, n_sF, n_nw, h_sI, h_sR, h_sA, h_sQ, h_sF, h_nw, m_sI, m_sR, m_sA, m_sQ, m_sF, m_nw, s_sI, s_sR, s_sA, s_sQ, s_sF, s_nw, i_nR, r_nR, a_nR, q_nR, n_nR, h_nR, m_nR, s_nR, if_pos, if_neg, and_self, if_true, hH, hI]
  · rw [g0.1]; simp (disch := omega) only [i_sI, i_sR, i_sA, i_sQ, i_sF, i_nw, r_sI, r_sR, r_sA, r_sQ, r_sF, r_nw, a_sI, a_sR, a_sA, a_sQ, a_sF, a_nw, q_sI, q_sR, q_sA, q_sQ, q_sF, q_nw, n_sI, n_sR, n_sA, n_sQ, n_sF, n_nw, h_sI, h_sR, h_sA, h_sQ, h_sF, h_nw, m_sI, m_sR, m_sA, m_sQ, m_sF, m_nw, s_sI, s_sR, s_sA, s_sQ, s_sF, s_nw, i_nR, r_nR, a_nR, q_nR, n_nR, h_nR, m_nR, s_nR, if_pos, if_neg, and_self, if_true, hH, hI]
  · rw [g0.2.1]; simp (disch := omega) only [i_sI, i_sR, i_sA, i_sQ, i_sF, i_nw, r_sI, r_sR, r_sA, r_sQ, r_sF, r_nw, a_sI, a_sR, a_sA, a_sQ, a_sF, a_nw, q_sI, q_sR, q_sA, q_sQ, q_sF, q_nw, n_sI, n_sR, n_sA, n_sQ, n_sF, n_nw, h_sI, h_sR, h_sA, h_sQ, h_sF, h_nw, m_sI, m_sR, m_sA, m_sQ, m_sF, m_nw, s_sI, s_sR, s_sA, s_sQ, s_sF, s_nw, i_nR, r_nR, a_nR, q_nR, n_nR, h_nR, m_nR, s_nR, if_pos, if_neg, and_self, if_true, hH, hR]
  · rw [g0.2.1]; simp (disch := omega) only [i_sI, i_sR, i_sA, i_sQ, i_sF, i_nw, r_sI, r_sR, r_sA, r_sQ, r_sF, r_nw, a_sI, a_sR, a_sA, a_sQ, a_sF, a_nw, q_sI, q_sR, q_sA, q_sQ, q_sF, q_nw, n_sI, n_sR, n_sA, n_sQ, n_sF, n_nw, h_sI, h_sR, h_sA, h_sQ, h_sF, h_nw, m_sI, m_sR, m_sA, m_sQ, m_sF, m_nw, s_sI, s_sR, s_sA, s_sQ, s_sF, s_nw, i_nR, r_nR, a_nR, q_nR, n_nR, h_nR, m_nR, s_nR, if_pos, if_neg, and_self, if_true, hH, hR]
  · refine ⟨fun g => ?_, fun g => ?_, fun g => ?_, fun g => ?_, ?_⟩ <;> simp (disch := omega) only [i_sI, i_sR, i_sA, i_sQ, i_sF, i_nw, r_sI, r_sR, r_sA, r_sQ, r_sF, r_nw, a_sI, a_sR, a_sA, a_sQ, a_sF, a_nw, q_sI, q_sR, q_sA, q_sQ, q_sF, q_nw, n_sI, n_sR, n_sA, n_sQ, n_sF, n_nw, h_sI, h_sR, h_sA, h_sQ, h_sF, h_nw, m_sI, m_sR, m_sA, m_sQ, m_sF, m_nw, s_sI, s_sR, s_sA, s_sQ, s_sF, s_nw, i_nR, r_nR, a_nR, q_nR, n_nR, h_nR, m_nR, s_nR, if_pos, if_neg, and_self, if_true, hH]
  · simp only [i_sI, i_sR, i_sA, i_sQ, i_sF, i_nw, r_sI, r_sR, r_sA, r_sQ, r_sF, r_nw, a_sI, a_sR, a_sA, a_sQ, a_sF, a_nw, q_sI, q_sR, q_sA, q_sQ, q_sF, q_nw, n_sI, n_sR, n_sA, n_sQ, n_sF, n_nw, h_sI, h_sR, h_sA, h_sQ, h_sF, h_nw, m_sI, m_sR, m_sA, m_sQ, m_sF, m_nw, s_sI, s_sR, s_sA, s_sQ, s_sF, s_nw, i_nR, r_nR, a_nR, q_nR, n_nR, h_nR, m_nR, s_nR, if_pos, if_neg, and_self, if_true] at v5; omega
  · simp only [i_sI, i_sR, i_sA, i_sQ, i_sF, i_nw, r_sI, r_sR, r_sA, r_sQ, r_sF, r_nw, a_sI, a_sR, a_sA, a_sQ, a_sF, a_nw, q_sI, q_sR, q_sA, q_sQ, q_sF, q_nw, n_sI, n_sR, n_sA, n_sQ, n_sF, n_nw, h_sI, h_sR, h_sA, h_sQ, h_sF, h_nw, m_sI, m_sR, m_sA, m_sQ, m_sF, m_nw, s_sI, s_sR, s_sA, s_sQ, s_sF, s_nw, i_nR, r_nR, a_nR, q_nR, n_nR, h_nR, m_nR, s_nR, if_pos, if_neg, and_self, if_true] at v6; omega
end NEW1
