/-! ===== PURE: the law's loop ===== -/
section LP
variable {P i j n c B nm g q K G s b : Nat} {z w u v : Wd} {b1 b2 : Be} {A1 A2 : Ta}
theorem x_cell (hN : wd_N w b < 2147483648) {k : Nat} (hk : k < 2147483648) : ∃ c, f_L_cell n w (some b) (Int32.ofNat k) = some (c, w) := by
  rw [f_L_cell, Option.bind_some]
  by_cases e : Int32.ofNat (wd_N w b) ≤ Int32.ofNat k
  · rw [if_pos e]; exact ⟨_, rfl⟩
  · rw [if_neg e]
    rw [j_ll hN hk] at e
    rw [j_gd (j_in (by omega) hN)]
    exact ⟨_, rfl⟩
theorem q_st {q E : Nat} (h : q + (E + 150000) ≤ 300000000) : q + 150000 ≤ 400000000 ∧ q + 150000 + E ≤ 300000000 ∧ q + E ≤ 300000000 := by omega
theorem l_111 (hn : 200000 ≤ n) (hb : b < B) : ∀ (k t m : Nat) (w z : Wd) (nm s q : Nat) (b1 : Be) (A1 : Ta) (b2 : Be) (A2 : Ta), t + k = 44 → k < m → Ls B nm t q 3360 5403360 (s + 2 * k) z w b1 A1 b2 A2 → q + 150000 * k ≤ 300000000 → wd_N w b < 2147483648 →
    ∃ v, wd_lp5 (f_L_law_l111 n) m (some b) B (B + 200) (Int32.ofNat t) w = some ((1 : Int32), v) := by
  intro k
  induction k with
  | zero =>
    intro t m w z nm s q b1 A1 b2 A2 ht hm h hq hN
    obtain ⟨m, rfl⟩ : ∃ r, m = r + 1 := ⟨m - 1, by omega⟩
    exact ⟨w, by rw [wd_lp5, f_L_law_l111, if_pos (by rw [show (44 : Int32) = Int32.ofNat 44 from rfl, j_ll (by omega) (by omega)]; omega)]⟩
  | succ k ih =>
    intro t m w z nm s q b1 A1 b2 A2 ht hm h hq hN
    obtain ⟨m, rfl⟩ : ∃ r, m = r + 1 := ⟨m - 1, by omega⟩
    rw [Nat.mul_succ] at hq
    obtain ⟨q1, q2, q3⟩ := q_st hq
    have e29 : (Int32.ofNat t - Int32.ofNat t / (29 : Int32) * (29 : Int32)) = Int32.ofNat (t % 29) := j_md (m := t) (k := 29) (by omega) (by omega)
    have e11 : (Int32.ofNat t - Int32.ofNat t / (11 : Int32) * (11 : Int32)) = Int32.ofNat (t % 11) := j_md (m := t) (k := 11) (by omega) (by omega)
    have e3 : (3 : Int32) + Int32.ofNat (t % 29) = Int32.ofNat (3 + t % 29) := by rw [show (3 : Int32) = Int32.ofNat 3 from rfl, j_ad]
    obtain ⟨c1, hc1⟩ := x_cell (n := n) (w := w) (b := b) hN (k := 3 + t % 29) (by omega)
    have h2 : Ls B nm t q 3360 5403360 (s + 2 * k + 2) z w b1 A1 b2 A2 := h
    obtain ⟨v, nm', z', b1', A1', b2', A2', g1, g2, g3⟩ := l_act (n := n) h2 (by omega) rfl rfl hn (c1 >>> (((Int32.ofNat t / (29 : Int32)) * (9 : Int32)) &&& 31))
    have hNv : wd_N v b < 2147483648 := by rw [(g3 b hb).2.2.2.2]; exact hN
    rw [wd_lp5, f_L_law_l111, if_neg (by rw [show (44 : Int32) = Int32.ofNat 44 from rfl, j_ll (by omega) (by omega)]; omega), e29, e3, hc1, wd_b2_s, g1, wd_b2_s, if_neg (by decide), e11]
    by_cases e : Int32.ofNat (t % 11) = (10 : Int32)
    · rw [if_pos e]
      have h8 := g2.1.mm.2
      have hl := g2.flen
      have hl2 : (b_fl b1').length < n := by
        have := ls_2len g2.1.2.1.2.2.2.2.2.1.2.2.2.2
        omega
      obtain ⟨d, hd⟩ := x_digest (n := n) g2.2.2.2.2.1 g2.2.1 h8 hn hl2 (fun j => g2.2.2.2.2.2.1 203 j)
      obtain ⟨c2, hc2⟩ := x_cell (n := n) (w := v) (b := b) hNv (k := t % 29) (by omega)
      obtain ⟨v', b3, A3, t1, t2, t3⟩ := l_tried (n := n) g2 hn (by omega) rfl q1 c2
      have hNv' : wd_N v' b < 2147483648 := by rw [(t3 b (lt_ot hb)).2.2.2.2]; exact hNv
      rw [hd v b2' A2' _ g2.1, wd_b2_s, l_machines g2 (by omega) (by omega), wd_b2_s, if_neg (by decide), l_frames g2 hn, wd_b2_s, if_neg (by decide), hc2, wd_b2_s, t1, wd_b2_s, if_neg (by decide), hd v' b3 A3 _ t2.1, wd_b2_s, lg_eq, if_pos rfl, f_L_law_j207, wd_let, j_a1]
      exact ih (t + 1) m v' z' nm' s (q + 150000) b1' A1' b3 A3 (by omega) (by omega) t2 q2 hNv'
    · rw [if_neg e, f_L_law_j207, wd_let, j_a1]
      exact ih (t + 1) m v z' nm' s q b1' A1' b2' A2' (by omega) (by omega) g2 q3 hNv
end LP
