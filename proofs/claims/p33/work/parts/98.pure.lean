/-- THE LAW'S MEANING: on every script its body answers 1 -/
theorem pure_law (b L : Nat) (xs : Nat → Int32) (B : Nat) (hb : b < B) (hL : L ≤ 260) : ∃ (n : Nat) (w' : Wd), f_L_law n (wd_init b L xs B) (some b) = some ((1 : Int32), w') := by
  sorry
