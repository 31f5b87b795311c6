/-! ===== PURE: the law's meaning ===== -/
theorem l_law {n b B : Nat} (L : Nat) (xs : Nat → Int32) (hb : b < B) (hL : L ≤ 260) (hn : 200000 ≤ n) : ∃ v, f_L_law n (wd_init b L xs B) (some b) = some ((1 : Int32), v) := by
  have hM0 : wd_M (wd_init b L xs B) = 600074 := rfl
  have hS0 : wd_S (wd_init b L xs B) = 7301550 := rfl
  have hH0 : wd_H (wd_init b L xs B) = B := rfl
  have hN0 : wd_N (wd_init b L xs B) b = L := if_pos rfl
  generalize wd_init b L xs B = w at *
  have g1 := ag_new w 12 0 3
  have m1 : wd_M (wd_nw w 12 0 3) = 600073 := by rw [m_nw, hM0]
  have s1 : wd_S (wd_nw w 12 0 3) = 7301547 := by rw [s_nw, hS0]
  obtain ⟨v, v1, v2, v3, v4, v5, v6, v7, v8, v9⟩ := i_X11 (n := n) (w := wd_nw w 12 0 3) (B := B) (by rw [h_nw, hH0]) (by rw [m1]; decide) (by rw [s1]; decide) (by omega)
  rw [m1] at v8
  rw [s1] at v9
  have m2 : wd_M v = 599874 := Nat.add_right_cancel (v8.trans (by decide : 600073 = 599874 + 199))
  have s2 : wd_S v = 7289355 := Nat.add_right_cancel (v9.trans (by decide : 7301547 = 7289355 + 12192))
  have g2 := ag_mna v 32 2
  have hLp : Lp B 0 0 (0 + 2 * 44 + 3 + 1 + 1) 0 b (wd_mna v 32 2) (b0 (B + 77)) (b0 (B + 139)) := by
    refine i_lp (v2.ag (fun a _ h => g2 a (by omega))) (v3.ag (fun a _ h => g2 a (by omega))) (v4.ag (fun a _ h => g2 a (by omega))) v5 ?_ ?_ ?_ ?_ (fun k hk => ⟨?_, ?_⟩) ?_
    · show wd_H v + 1 + 32 = B + 233
      omega
    · show 360002 + (0 + 2 * 44 + 3 + 1 + 1) ≤ wd_M v - (1 + 32)
      rw [m2]; decide
    · show 5400030 + 6 * (0 + 2 * 44 + 3 + 1 + 1) ≤ wd_S v - (32 + 32 * 2)
      rw [s2]; decide
    · show (if B + 200 = wd_H v then 32 else _) = 32
      rw [if_pos v7.symm]
    · show (if B + 200 = wd_H v then (if k < 32 then some (wd_H v + 1 + k) else none) else _) = _
      rw [if_pos v7.symm, if_pos hk, v7]
    · show (if B + 201 + k = wd_H v then 32 else if wd_H v < B + 201 + k ∧ B + 201 + k ≤ wd_H v + 32 then 2 else _) = 2
      rw [if_neg (by omega), if_pos (by omega)]
    · rw [(g2 b (by omega)).2.2.2.2, (v6 b hb).2.2.2.2, (g1 b (by omega)).2.2.2.2, hN0]; omega
  obtain ⟨y, hy⟩ := l_18 (n := n) hn hb 32 0 n (wd_mna v 32 2) (by omega) (by omega) hLp
  refine ⟨y, ?_⟩
  rw [f_L_law, j_gd (by rw [hM0, hS0]; decide), wd_let, wd_let, hH0, v1, Option.bind_some, j_gd (by rw [m2, s2]; decide), wd_let, wd_let, v7]
  exact hy
/-- THE LAW'S MEANING: on every script its body answers 1 -/
theorem pure_law (b L : Nat) (xs : Nat → Int32) (B : Nat) (hb : b < B) (hL : L ≤ 260) : ∃ (n : Nat) (w' : Wd), f_L_law n (wd_init b L xs B) (some b) = some ((1 : Int32), w') := by
  obtain ⟨v, hv'⟩ := l_law (n := 200000) (b := b) (B := B) L xs hb hL (Nat.le_refl _)
  exact ⟨200000, v, hv'⟩
