/-! ===== PURE: the plan made ===== -/
section NEW2
variable {P T i j n h m : Nat} {w u v : Wd}
/-- a new machine -/
def MF (w : Wd) (m : Nat) (x : Int32) : Prop :=
  (wd_R w 302 m = some (m + 1) ∧ wd_R w 304 m = some (m + 2) ∧ wd_R w 305 m = some (m + 3) ∧ wd_R w 306 m = some (m + 4) ∧ wd_R w 308 m = some (m + 5) ∧ wd_R w 310 m = some (m + 6) ∧ wd_R w 311 m = some (m + 7) ∧ wd_R w 312 m = some (m + 8)) ∧
  (wd_N w (m + 1) = 4 ∧ wd_N w (m + 2) = 6 ∧ wd_N w (m + 3) = 6 ∧ wd_N w (m + 4) = 6 ∧ wd_N w (m + 5) = 2 ∧ wd_N w (m + 6) = 256 ∧ wd_N w (m + 7) = 256 ∧ wd_N w (m + 8) = 256) ∧
  (wd_I w 300 m = x ∧ wd_I w 301 m = 0 ∧ wd_I w 303 m = 0 ∧ wd_I w 307 m = 0 ∧ wd_I w 309 m = 0) ∧ ∀ k, wd_Q w (m + 1) k = none
def MG (w : Wd) (m : Nat) (x : Int32) : Prop := MF w m x ∧ ∀ k, k < 256 → wd_A w (m + 6) k = -1 ∧ wd_A w (m + 7) k = -1 ∧ wd_A w (m + 8) k = -1
theorem MF.ag {x : Int32} (hF : MF w m x) (h0 : (∀ g, wd_I v g m = wd_I w g m) ∧ (∀ g, wd_R v g m = wd_R w g m)) (h1 : ∀ k, wd_Q v (m + 1) k = wd_Q w (m + 1) k) (hN : ∀ a, m < a → a < m + 9 → wd_N v a = wd_N w a) : MF v m x := by
  obtain ⟨f1, f2, f3, f4⟩ := hF
  obtain ⟨i0, r0⟩ := h0
  exact ⟨by rw [r0, r0, r0, r0, r0, r0, r0, r0]; exact f1, by rw [hN (m + 1) (by omega) (by omega), hN (m + 2) (by omega) (by omega), hN (m + 3) (by omega) (by omega), hN (m + 4) (by omega) (by omega), hN (m + 5) (by omega) (by omega), hN (m + 6) (by omega) (by omega), hN (m + 7) (by omega) (by omega), hN (m + 8) (by omega) (by omega)]; exact f2, by rw [i0, i0, i0, i0, i0]; exact f3, fun k => by rw [h1]; exact f4 k⟩
theorem MG.ag {x : Int32} (hF : MG w m x) (hag : ∀ a, m ≤ a → a < m + 9 → ag w v a) : MG v m x :=
  ⟨hF.1.ag ⟨(hag m (by omega) (by omega)).1, (hag m (by omega) (by omega)).2.1⟩ (hag (m + 1) (by omega) (by omega)).2.2.2.1 (fun a h1 h2 => (hag a (by omega) h2).2.2.2.2), fun k hk => by
    rw [(hag (m + 6) (by omega) (by omega)).2.2.1, (hag (m + 7) (by omega) (by omega)).2.2.1, (hag (m + 8) (by omega) (by omega)).2.2.1]; exact hF.2 k hk⟩
theorem i_X3a {x : Int32} (hH : wd_H w = m + 1) (hM : 8 ≤ wd_M w) (hS : 792 ≤ wd_S w) (hI : ∀ g, wd_I w g m = 0) : ∃ v, f_X3_init n w m x = (Option.bind (f_J7_fill_53178 n v (wd_R v 310 m) (-1 : Int32)) fun w59 => Option.bind (f_J7_fill_53178 n w59 (wd_R w59 311 m) (-1 : Int32)) fun w61 => Option.bind (f_J7_fill_53178 n w61 (wd_R w61 312 m) (-1 : Int32)) fun w63 => some w63) ∧ MF v m x ∧ (∀ a, a < m → ag w v a) ∧ wd_H v = m + 9 ∧ wd_M v + 8 = wd_M w ∧ wd_S v + 792 = wd_S w := by
  refine ⟨wd_sI (nR (nR (nR (nR (nR (nR (nR (nR w 22 4 4 302 m) 21 6 6 304 m) 21 6 6 305 m) 21 6 6 306 m) 21 2 2 308 m) 21 256 256 310 m) 21 256 256 311 m) 21 256 256 312 m) 300 m x, ?_, ⟨⟨?_, ?_, ?_, ?_, ?_, ?_, ?_, ?_⟩, ⟨?_, ?_, ?_, ?_, ?_, ?_, ?_, ?_⟩, ⟨?_, ?_, ?_, ?_, ?_⟩, fun k => ?_⟩, fun a ha => ⟨fun g => ?_, fun g => ?_, fun g => ?_, fun g => ?_, ?_⟩, ?_, ?_, ?_⟩
  · rw [f_X3_init, al _ 22 4 4 302 m _ (by omega), al _ 21 6 6 304 m _ (by simp only [m_nR, s_nR]; omega), al _ 21 6 6 305 m _ (by simp only [m_nR, s_nR]; omega), al _ 21 6 6 306 m _ (by simp only [m_nR, s_nR]; omega), al _ 21 2 2 308 m _ (by simp only [m_nR, s_nR]; omega), al _ 21 256 256 310 m _ (by simp only [m_nR, s_nR]; omega), al _ 21 256 256 311 m _ (by simp only [m_nR, s_nR]; omega), al _ 21 256 256 312 m _ (by simp only [m_nR, s_nR]; omega), wd_let]
  all_goals first
    | (simp (disch := omega) only [i_sI, i_sR, i_sA, i_sQ, i_sF, i_nw, r_sI, r_sR, r_sA, r_sQ, r_sF, r_nw, a_sI, a_sR, a_sA, a_sQ, a_sF, a_nw, q_sI, q_sR, q_sA, q_sQ, q_sF, q_nw, n_sI, n_sR, n_sA, n_sQ, n_sF, n_nw, h_sI, h_sR, h_sA, h_sQ, h_sF, h_nw, m_sI, m_sR, m_sA, m_sQ, m_sF, m_nw, s_sI, s_sR, s_sA, s_sQ, s_sF, s_nw, i_nR, r_nR, a_nR, q_nR, n_nR, h_nR, m_nR, s_nR, if_pos, if_neg, and_self, if_true, hH, hI]; done)
    | (simp only [i_sI, i_sR, i_sA, i_sQ, i_sF, i_nw, r_sI, r_sR, r_sA, r_sQ, r_sF, r_nw, a_sI, a_sR, a_sA, a_sQ, a_sF, a_nw, q_sI, q_sR, q_sA, q_sQ, q_sF, q_nw, n_sI, n_sR, n_sA, n_sQ, n_sF, n_nw, h_sI, h_sR, h_sA, h_sQ, h_sF, h_nw, m_sI, m_sR, m_sA, m_sQ, m_sF, m_nw, s_sI, s_sR, s_sA, s_sQ, s_sF, s_nw, i_nR, r_nR, a_nR, q_nR, n_nR, h_nR, m_nR, s_nR, if_pos, if_neg, and_self, if_true]; omega)
end NEW2
