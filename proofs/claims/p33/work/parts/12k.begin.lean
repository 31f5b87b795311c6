/-! ===== PURE: the law's beginning ===== -/
section BG1
variable {P i j n c B nm nc g q K G s b t : Nat} {z w u v : Wd} {b1 b2 : Be} {A1 A2 : Ta}
def EA : Ta := A0 (fun _ _ => -1) 0
/-- before the law's acts: t of the table's elements cleared -/
def Lp (B nc nm s t b : Nat) (w : Wd) (b1 b2 : Be) : Prop :=
  Nw B nc nm s w w b1 EA b2 EA ∧ Fw B w ∧ (∀ i k, i < 8 → k < 4 → wd_Q w (mA (B + 1) i + 1) k = none) ∧
  (wd_N w (B + 200) = 32 ∧ (∀ k, k < 32 → wd_Q w (B + 200) k = some (B + 201 + k) ∧ wd_N w (B + 201 + k) = 2) ∧ ∀ k, k < t → wd_A w (B + 201 + k) 1 = -1) ∧
  (∀ x y, b_ng b1 x y = 0) ∧ (∀ i, b_ng b2 203 i = 0) ∧ wd_N w b < 2147483648
theorem Lp.op {mc mm s' : Nat} (h : Lp B nc nm s t b w b1 b2) (hb : b < B) (hN : Nw B mc mm s' v v b1 EA b2 EA) (hot : ∀ a, Ot B a → ag w v a) (hF : Fw B v) (hQ : ∀ i k, i < 8 → wd_Q v (mA (B + 1) i + 1) k = wd_Q w (mA (B + 1) i + 1) k) (ht : t ≤ 32) : Lp B mc mm s' t b v b1 b2 := by
  obtain ⟨h1, h2, h3, ⟨h4, h5, h6⟩, h7, h8, h9⟩ := h
  refine ⟨hN, hF, fun i k hi hk => by rw [hQ i k hi]; exact h3 i k hi hk, ⟨?_, fun k hk => ?_, fun k hk => ?_⟩, h7, h8, ?_⟩
  · rw [(hot (B + 200) (ot_of (by omega) (by omega))).2.2.2.2]; exact h4
  · rw [(hot (B + 200) (ot_of (by omega) (by omega))).2.2.2.1, (hot (B + 201 + k) (ot_of (by omega) (by omega))).2.2.2.2]; exact h5 k hk
  · rw [(hot (B + 201 + k) (ot_of (by omega) (by omega))).2.2.1]; exact h6 k hk
  · rw [(hot b (lt_ot hb)).2.2.2.2]; exact h9
theorem lp_cable (h : Lp B nc nm (s + 1) t b w b1 b2) (hb : b < B) (ht : t ≤ 32) (hc : nc < 2) {k : Nat} (hk : k < 90) : ∃ v, f_X11_addCable n w B ((12 : Int32) + Int32.ofNat k) = some (Int32.ofNat nc, v) ∧ Lp B (nc + 1) nm s t b v b1 b2 := by
  obtain ⟨v, v1, v2, v3, v4, v5, v6⟩ := x_addCable (n := n) h.1 hc (k := 12 + k) (by omega) (by omega)
  refine ⟨v, ?_, h.op hb v2 v3 (fun i hi => by rw [v6 i hi]; exact h.2.1 i hi) v5 ht⟩
  rw [show (12 : Int32) + Int32.ofNat k = Int32.ofNat (12 + k) by rw [show (12 : Int32) = Int32.ofNat 12 from rfl, j_ad]]
  exact v1
theorem lp_machine (h : Lp B nc nm (s + 1) t b w b1 b2) (hb : b < B) (ht : t ≤ 32) (hm : nm < 8) {p : Int32} (hp : p = 0 ∨ p = 1) : ∃ v, f_X11_addMachine n w B p = some (some (Int32.ofNat nm), v) ∧ Lp B nc (nm + 1) s t b v b1 b2 := by
  obtain ⟨o, v, mm, v1, v2, v3, v4, v5, v6, v7, v8, v9⟩ := x_addMachine (n := n) h.1 hp
  obtain ⟨e1, e2⟩ := v8 hm
  subst e2
  refine ⟨v, by rw [v1, e1], h.op hb v2 v3 (fun i hi => ?_) v5 ht⟩
  rcases v9 i hi with e | e
  · rw [e]; exact h.2.1 i hi
  · rw [e]; exact hp
theorem lp_clear (h : Lp B nc nm s t b w b1 b2) (hb : b < B) (ht : t < 32) : Lp B nc nm s (t + 1) b (wd_sA w (B + 201 + t) 1 (-1)) b1 b2 := by
  obtain ⟨h1, h2, h3, ⟨h4, h5, h6⟩, h7, h8, h9⟩ := h
  have hag : ∀ a, ¬ (B + 200 ≤ a ∧ a < B + 233) → ag w (wd_sA w (B + 201 + t) 1 (-1)) a := fun a ha => ⟨fun _ => rfl, fun _ => rfl, fun y => by rw [a_sA, if_neg (by omega)], fun _ => rfl, rfl⟩
  refine ⟨(h1.oth hag ⟨rfl, rfl, rfl⟩).now, h2, h3, ⟨h4, h5, fun k hk => ?_⟩, h7, h8, h9⟩
  rw [a_sA]
  by_cases e : k = t
  · rw [if_pos ⟨by rw [e], rfl⟩]
  · rw [if_neg (by omega)]; exact h6 k (by omega)
theorem Lp.ls (h : Lp B 2 nm s 32 b w b1 b2) (h3 : 3 ≤ nm) : Ls B nm 0 0 K G s w w b1 EA b2 EA := by
  obtain ⟨h1, h2, h3', ⟨h4, h5, h6⟩, h7, h8, h9⟩ := h
  have hM : Mq (B + 1) w (fun _ _ => -1) := fun i x _ _ => Or.inl rfl
  have e0 : ∀ g i, g ≠ 901 → tN EA g i = 0 := fun g i hg => by
    show (if g = 901 then 0 else 0) = 0
    rw [if_neg hg]
  have e9 : ∀ i, tN EA 901 i = 0 := fun i => rfl
  refine ⟨h1, h3, ⟨h4, h5, fun i k hi hk => Or.inr ⟨h3' i k hi hk, h6 _ (by omega)⟩⟩, h2, A0_iv hM (by omega) (by omega), h7, ⟨?_, ?_, ?_, fun j => Nat.zero_le _, fun j => ?_⟩, ⟨?_, ?_, ?_⟩, hM, ?_, fun i hi => ?_⟩
  · rw [e0 _ _ (by omega)]; exact Nat.zero_le _
  · rw [e0 _ _ (by omega)]; exact Nat.zero_le _
  · rw [e9]; exact Nat.zero_le _
  · rw [e0 _ _ (by omega)]; exact Nat.zero_le _
  · rw [e0 _ _ (by omega), e0 _ _ (by omega), e0 _ _ (by omega)]
  · rw [e0 _ _ (by omega), e0 _ _ (by omega)]; exact Nat.le_refl _
  · rw [e0 _ _ (by omega)]; exact Nat.zero_le _
  · rw [e9]; exact Nat.zero_le _
  · rw [h8]; exact Nat.le_refl _
theorem l_74 (hn : 200000 ≤ n) (hb : b < B) : ∀ (k t m : Nat) (w : Wd), t + k = 3 → k < m → Lp B 2 t (s + 2 * 44 + k) 32 b w b1 b2 → ∃ v, wd_lp5 (f_L_law_l74 n) m (some b) B (B + 200) (Int32.ofNat t) w = some ((1 : Int32), v) := by
  intro k
  induction k with
  | zero =>
    intro t m w ht hm h
    obtain ⟨m, rfl⟩ : ∃ r, m = r + 1 := ⟨m - 1, by omega⟩
    obtain ⟨v, hv'⟩ := l_111 (n := n) hn hb 44 0 n w w t s 0 b1 EA b2 EA (by omega) (by omega) (h.ls (by omega)) (by omega) h.2.2.2.2.2.2
    exact ⟨v, by rw [wd_lp5, f_L_law_l74, if_pos (by rw [show (3 : Int32) = Int32.ofNat 3 from rfl, j_ll (by omega) (by omega)]; omega)]; exact hv'⟩
  | succ k ih =>
    intro t m w ht hm h
    obtain ⟨m, rfl⟩ : ∃ r, m = r + 1 := ⟨m - 1, by omega⟩
    obtain ⟨c, hc⟩ := x_cell (n := n) (w := w) (b := b) h.2.2.2.2.2.2 (k := 2) (by omega)
    obtain ⟨r, r1, r2⟩ := x_below (n := n) (w := w) (c >>> (Int32.ofNat t &&& 31)) (m := 4) (by omega) (by omega)
    have h' : Lp B 2 t (s + 2 * 44 + k + 1) 32 b w b1 b2 := h
    have e99 : ∀ p : Int32, p = 0 ∨ p = 1 → ∃ v, f_L_law_j99 n (wd_lp5 (f_L_law_l74 n) m) p B (some b) B (B + 200) (Int32.ofNat t) w = some ((1 : Int32), v) := fun p hp => by
      obtain ⟨v, v1, v2⟩ := lp_machine (n := n) h' hb (Nat.le_refl _) (by omega) hp
      obtain ⟨v', v3⟩ := ih (t + 1) m v (by omega) (by omega) v2
      exact ⟨v', by rw [f_L_law_j99, v1, wd_b2_s, ox_S, wd_let, j_a1]; exact v3⟩
    rw [wd_lp5, f_L_law_l74, if_neg (by rw [show (3 : Int32) = Int32.ofNat 3 from rfl, j_ll (by omega) (by omega)]; omega), show f_L_cell n w (some b) 2 = some (c, w) from hc, wd_b2_s, show f_L_below n w (c >>> (Int32.ofNat t &&& 31)) 4 = some (Int32.ofNat r, w) from r2, wd_b2_s]
    by_cases e : Int32.ofNat r ≤ (0 : Int32)
    · rw [if_pos e]; exact e99 0 (Or.inl rfl)
    · rw [if_neg e]; exact e99 1 (Or.inr rfl)
theorem l_18 (hn : 200000 ≤ n) (hb : b < B) : ∀ (k t m : Nat) (w : Wd), t + k = 32 → k < m → Lp B 0 0 (s + 2 * 44 + 3 + 1 + 1) t b w b1 b2 → ∃ v, wd_lp5 (f_L_law_l18 n) m (some b) B (B + 200) (Int32.ofNat t) w = some ((1 : Int32), v) := by
  intro k
  induction k with
  | zero =>
    intro t m w ht hm h
    obtain ⟨m, rfl⟩ : ∃ r, m = r + 1 := ⟨m - 1, by omega⟩
    have e : t = 32 := by omega
    subst e
    obtain ⟨c, hc⟩ := x_cell (n := n) (w := w) (b := b) h.2.2.2.2.2.2 (k := 0) (by omega)
    obtain ⟨r, r1, r2⟩ := x_below (n := n) (w := w) c (m := 40) (by omega) (by omega)
    obtain ⟨v, v1, v2⟩ := lp_cable (n := n) h hb (Nat.le_refl _) (by omega) (k := r) (by omega)
    obtain ⟨d, hd⟩ := x_cell (n := n) (w := v) (b := b) v2.2.2.2.2.2.2 (k := 1) (by omega)
    obtain ⟨r', r1', r2'⟩ := x_below (n := n) (w := v) d (m := 90) (by omega) (by omega)
    obtain ⟨v', v3, v4⟩ := lp_cable (n := n) v2 hb (Nat.le_refl _) (by omega) (k := r') (by omega)
    obtain ⟨y, hy⟩ := l_74 (n := n) hn hb 3 0 n v' (by omega) (by omega) v4
    refine ⟨y, ?_⟩
    rw [wd_lp5, f_L_law_l18, if_pos (by rw [show (32 : Int32) = Int32.ofNat 32 from rfl, j_ll (by omega) (by omega)]; omega), show f_L_cell n w (some b) 0 = some (c, w) from hc, wd_b2_s, show f_L_below n w c 40 = some (Int32.ofNat r, w) from r2, wd_b2_s, v1, wd_b2_s, show f_L_cell n v (some b) 1 = some (d, v) from hd, wd_b2_s, show f_L_below n v d 90 = some (Int32.ofNat r', v) from r2', wd_b2_s, v3, wd_b2_s]
    exact hy
  | succ k ih =>
    intro t m w ht hm h
    obtain ⟨m, rfl⟩ : ∃ r, m = r + 1 := ⟨m - 1, by omega⟩
    have h32 : t < 32 := by omega
    obtain ⟨t1, t2, -⟩ := h.2.2.2.1
    obtain ⟨q1, q2⟩ := t2 t h32
    obtain ⟨y, hy⟩ := ih (t + 1) m _ (by omega) (by omega) (lp_clear h hb h32)
    refine ⟨y, ?_⟩
    rw [wd_lp5, f_L_law_l18, if_neg (by rw [show (32 : Int32) = Int32.ofNat 32 from rfl, j_ll (by omega) (by omega)]; omega), j_gd (by rw [t1]; exact j_in h32 (by omega)), j_nn (by omega), q1, Option.bind_some, j_gd (by rw [q2]; decide), wd_let, wd_let, j_a1]
    exact hy
end BG1
