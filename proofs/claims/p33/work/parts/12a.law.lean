/-! ===== PURE: the law's state ===== -/
section LS1
variable {i j n c B nm g q s K G : Nat} {z w u v : Wd} {b1 b2 : Be} {A1 A2 : Ta}
theorem j_and (x : Int32) : ∃ y, y < 2147483648 ∧ x &&& (2147483647 : Int32) = Int32.ofNat y := by
  have h0 : ¬ (x &&& (2147483647 : Int32)) < 0 := by
    rw [j_lt]
    have e : (x &&& (2147483647 : Int32)).toInt = (x.toBitVec &&& (2147483647 : Int32).toBitVec).toInt := rfl
    have m : (x.toBitVec &&& (2147483647 : Int32).toBitVec).msb = false := by
      rw [BitVec.msb_and]
      have : ((2147483647 : Int32).toBitVec).msb = false := by decide
      rw [this, Bool.and_false]
    rw [e, BitVec.toInt_eq_toNat_of_msb m]
    simp
  obtain ⟨y, y1, y2⟩ := j_of h0
  exact ⟨y, y2, y1⟩
theorem x_below (x : Int32) {m : Nat} (h0 : 0 < m) (hm : m < 2147483648) : ∃ r, r < m ∧ f_L_below n w x (Int32.ofNat m) = some (Int32.ofNat r, w) := by
  obtain ⟨y, y1, y2⟩ := j_and x
  refine ⟨y % m, Nat.mod_lt _ h0, ?_⟩
  rw [f_L_below, j_gd (by rw [show (0 : Int32) = Int32.ofNat 0 from rfl, j_ee (by omega) (by omega)]; omega), y2, j_md y1 hm]
/-- the law's table says which ports there are -/
def Tb (B : Nat) (z w : Wd) : Prop := wd_N w (B + 200) = 32 ∧ (∀ k, k < 32 → wd_Q w (B + 200) k = some (B + 201 + k) ∧ wd_N w (B + 201 + k) = 2) ∧
  ∀ i k, i < 8 → k < 4 → (∃ q x, wd_Q z (mA (B + 1) i + 1) k = some q ∧ x < 256 ∧ wd_I z 702 q = Int32.ofNat x ∧ wd_A w (B + 201 + (4 * i + k)) 0 = wd_I z 701 q ∧ wd_A w (B + 201 + (4 * i + k)) 1 = Int32.ofNat x) ∨ (wd_Q z (mA (B + 1) i + 1) k = none ∧ wd_A w (B + 201 + (4 * i + k)) 1 = -1)
def Fw (B : Nat) (z : Wd) : Prop := ∀ i, i < 8 → wd_I z 301 (mA (B + 1) i) = 0 ∨ wd_I z 301 (mA (B + 1) i) = 1
/-- the law's state, g acts done, q notes tried, s things left -/
def Ls (B nm g q K G s : Nat) (z w : Wd) (b1 : Be) (A1 : Ta) (b2 : Be) (A2 : Ta) : Prop :=
  Nw B 2 nm s z w b1 A1 b2 A2 ∧ 3 ≤ nm ∧ Tb B z w ∧ Fw B z ∧ Iv (B + 1) z (60 + 48 * g) A1 ∧ (∀ x y, b_ng b1 x y = 0) ∧
  (tN A1 1 0 ≤ g * K ∧ tN A1 3 0 ≤ g * K ∧ tN A1 901 0 ≤ g * K ∧ (∀ j, (tO A1 j).length ≤ g * 84) ∧ ∀ j, tN A1 204 j ≤ g * G) ∧
  (tN A1 902 0 = tN A1 907 0 + tN A1 907 1 ∧ tN A1 903 0 ≤ tN A1 902 0 ∧ tN A1 902 0 ≤ g * 12) ∧ Tc B z b2 A2 400000 q
theorem Tb.ot (h : Tb B z w) (hag : ∀ a, B + 200 ≤ a → a < B + 233 → ag w v a) : Tb B z v := by
  obtain ⟨t1, t2, t3⟩ := h
  refine ⟨by rw [(hag _ (by omega) (by omega)).2.2.2.2]; exact t1, fun k hk => by rw [(hag (B + 200) (by omega) (by omega)).2.2.2.1, (hag (B + 201 + k) (by omega) (by omega)).2.2.2.2]; exact t2 k hk, fun i k hi hk => ?_⟩
  rw [(hag (B + 201 + (4 * i + k)) (by omega) (by omega)).2.2.1, (hag (B + 201 + (4 * i + k)) (by omega) (by omega)).2.2.1]
  exact t3 i k hi hk
theorem Tb.sq (h : Tb B z w) (hq : Sq (B + 1) z v) (hn : ∀ i k, i < 8 → wd_Q v (mA (B + 1) i + 1) k = wd_Q z (mA (B + 1) i + 1) k) : Tb B v w := by
  obtain ⟨t1, t2, t3⟩ := h
  refine ⟨t1, t2, fun i k hi hk => ?_⟩
  rcases t3 i k hi hk with ⟨q, x, q1, q2, q3, q4, q5⟩ | ⟨q1, q2⟩
  · obtain ⟨e1, e2, e3, e4⟩ := hq.1 i k q ⟨hi, hk, q1⟩
    exact Or.inl ⟨q, x, e1.2.2, q2, e4.trans q3, q4.trans e3.symm, q5⟩
  · exact Or.inr ⟨by rw [hn i k hi]; exact q1, q2⟩
theorem ot_of {a : Nat} (h1 : B + 200 ≤ a) (h2 : a < B + 233) : Ot B a := Or.inr ⟨h1, h2⟩
theorem Mq.sq {M : Nat → Nat → Int32} (h : Mq (B + 1) z M) (hq : Sq (B + 1) z v) : Mq (B + 1) v M := fun i x hi hx => by
  rcases h i x hi hx with e | ⟨q, q1, q2⟩
  · exact Or.inl e
  · obtain ⟨e1, e2⟩ := hq.2 x q hx q1
    exact Or.inr ⟨q, e1, q2.trans e2.symm⟩
theorem Ls.now (h : Ls B nm g q K G s z w b1 A1 b2 A2) : Ls B nm g q K G s w w b1 A1 b2 A2 := by
  obtain ⟨h1, h2, h3, h4, h5, h6, h7, h8, h9⟩ := h
  have hw := h1.2.1.1
  have hq := Sq.now h1.1.2.2.2.1 hw
  have hn : ∀ i k, i < 8 → wd_Q w (mA (B + 1) i + 1) k = wd_Q z (mA (B + 1) i + 1) k := fun i k hi => (pw_m hw hi (j := 1) (by omega)).2.2.2.1 k
  exact ⟨h1.now, h2, h3.sq hq hn, fun i hi => by rw [(pw_m0 hw hi).1]; exact h4 i hi, h5.zz hq.1 hq.2, h6, h7, h8, h9.1.sq hq, h9.2⟩
/-- one act more; nothing of the traffic's counted -/
theorem Ls.up (h : Ls B nm g q K G s z w b1 A1 b2 A2) (hg : g ≤ 43) : Ls B nm (g + 1) q K G s z w b1 A1 b2 A2 := by
  obtain ⟨h1, h2, h3, h4, h5, h6, ⟨k1, k2, k3, k4, k5⟩, ⟨l1, l2, l3⟩, h9⟩ := h
  have e1 : g * K ≤ (g + 1) * K := Nat.mul_le_mul_right _ (by omega)
  have e2 : g * G ≤ (g + 1) * G := Nat.mul_le_mul_right _ (by omega)
  exact ⟨h1, h2, h3, h4, h5.le (by omega) (by omega), h6, ⟨by omega, by omega, by omega, fun j => by have := k4 j; omega, fun j => by have := k5 j; omega⟩, ⟨l1, l2, by omega⟩, h9⟩
/-- a change of the plan -/
theorem Ls.mut (h : Ls B nm g q K G (s + 1) w w b1 A1 b2 A2) {mm : Nat} (hm : 3 ≤ mm) (hN : Nw B 2 mm s v v b1 A1 b2 A2) (hot : ∀ a, Ot B a → ag w v a) (hq : Sq (B + 1) w v) (hn : ∀ i k, i < 8 → wd_Q v (mA (B + 1) i + 1) k = wd_Q w (mA (B + 1) i + 1) k) (hF : Fw B v) : Ls B mm g q K G s v v b1 A1 b2 A2 := by
  obtain ⟨h1, h2, h3, h4, h5, h6, h7, h8, h9⟩ := h
  exact ⟨hN, hm, (h3.sq hq hn).ot (fun a x y => hot a (ot_of x y)), hF, h5.zz hq.1 hq.2, h6, h7, h8, h9.1.sq hq, h9.2⟩
/-- what the net's traffic did in an act -/
theorem Ls.tra (h : Ls B nm g q K G s z w b1 A1 b2 A2) (hg : g ≤ 43) {b' : Be} {A' : Ta} {d : Nat} (hN : Nw B 2 nm s z v b' A' b2 A2) (hot : ∀ a, Ot B a → ag w v a) (hI : Iv (B + 1) z (60 + 48 * (g + 1)) A') (hb : b_ng b' = b_ng b1) (hC : Ct A1 A' K K 84 G) (hm : Cm A1 A' d) (hd : d ≤ 12) : Ls B nm (g + 1) q K G s z v b' A' b2 A2 := by
  obtain ⟨h1, h2, h3, h4, h5, h6, ⟨k1, k2, k3, k4, k5⟩, ⟨l1, l2, l3⟩, h9⟩ := h
  have e1 : (g + 1) * K = g * K + K := Nat.succ_mul _ _
  have e2 : (g + 1) * G = g * G + G := Nat.succ_mul _ _
  obtain ⟨c1, c2, c3, c4, c5, c6, c7⟩ := hC
  obtain ⟨m1, m2, m3, m4⟩ := hm
  exact ⟨hN, h2, h3.ot (fun a x y => hot a (ot_of x y)), h4, hI, fun x y => by rw [hb]; exact h6 x y, ⟨by omega, by omega, by omega, fun j => by have := k4 j; have := c6 j; omega, fun j => by have := k5 j; have := c7 j; omega⟩, ⟨by omega, by omega, by omega⟩, h9⟩
theorem Ce.cm {A A' : Ta} (h : Ce A A') : Cm A A' 0 := ⟨by rw [h.1]; rfl, by rw [h.2.2, h.2.2]; rfl, by rw [h.2.1]; omega, by rw [h.2.1]; omega⟩
theorem Ls.mach (h : Ls B nm g q K G s z w b1 A1 b2 A2) : f_X11_machines n w B = some (Int32.ofNat nm, w) := by rw [f_X11_machines, h.1.2.2.2.2.1.1, Option.bind_some, h.1.mm.1]
theorem Ls.pack (h : Ls B nm g q K G s z w b1 A1 b2 A2) : f_X11_packets n w B = some (Int32.ofNat (tN A1 901 0), w) := by rw [f_X11_packets, h.1.2.2.2.2.1.2.1, Option.bind_some, h.1.2.1.2.2.1.2.1]
theorem Ls.step (h : Ls B nm g q K G s z w b1 A1 b2 A2) : f_X11_steps n w B = some (Int32.ofNat (tN A1 902 0), w) := by rw [f_X11_steps, h.1.2.2.2.2.1.2.1, Option.bind_some, h.1.2.1.2.2.1.2.2.1, h.2.2.2.2.2.1, Nat.zero_add]
theorem Ls.fram (h : Ls B nm g q K G s z w b1 A1 b2 A2) : f_X11_frames n w B = some (Int32.ofNat (tF A1).length, w) := by rw [f_X11_frames, h.1.2.2.2.2.1.2.1, Option.bind_some, h.1.2.1.2.2.1.1.1, Option.bind_some, fl_len h.1.2.1]
theorem Ls.wait (h : Ls B nm g q K G s z w b1 A1 b2 A2) (hj : j < nm) : f_X11_waiting n w B (Int32.ofNat j) = some (Int32.ofNat (tW A1 j).length, w) := by rw [f_X11_waiting, x_hostOf h.1 hj, wd_b2_s, Option.bind_some, (h.1.2.1.2.2.2.2.2.2 j (by have := h.1.mm.2; omega)).2.2.1.1]
theorem gs_le {A A' : Ta} {b : Be} (h : ∀ j, tN A 204 j ≤ tN A' 204 j) : ∀ k t, gsum b A k t ≤ gsum b A' k t := by
  intro k
  induction k with
  | zero => intro t; exact Nat.le_refl _
  | succ k ih => intro t; rw [gsum, gsum]; have := ih (t + 1); have := h t; omega
theorem gs_add {A A' : Ta} {b : Be} {j d : Nat} (h : ∀ j, tN A 204 j ≤ tN A' 204 j) (hd : tN A 204 j + d ≤ tN A' 204 j) : ∀ k t, t ≤ j → j < t + k → gsum b A k t + d ≤ gsum b A' k t := by
  intro k
  induction k with
  | zero => intro t h1 h2; omega
  | succ k ih =>
    intro t h1 h2
    rw [gsum, gsum]
    by_cases e : t = j
    · have := gs_le (b := b) h k (t + 1)
      rw [e] at this ⊢
      omega
    · have := ih (t + 1) (by omega) (by omega)
      have := h t
      omega
theorem gs_b {A : Ta} {b : Be} {E : Nat} (hb : ∀ x y, b_ng b x y = 0) (h : ∀ j, tN A 204 j ≤ E) : ∀ k t, gsum b A k t ≤ k * E := by
  intro k
  induction k with
  | zero => intro t; exact Nat.zero_le _
  | succ k ih =>
    intro t
    rw [gsum, hb, Nat.succ_mul]
    have := ih (t + 1)
    have := h t
    omega
theorem Ls.gone (h : Ls B nm g q K G s z w b1 A1 b2 A2) (hn : 9 ≤ n) : f_X11_gone n w B = some (Int32.ofNat (gsum b1 A1 8 0), w) := by rw [f_X11_gone, h.1.2.2.2.2.1.2.1, Option.bind_some, o_goneInAll h.1.2.1 hn, wd_b2_s]
/-- an element of the table -/
theorem Tb.at (h : Tb B z w) {k : Nat} (hk : k < 32) : (∃ q x, wd_Q z (mA (B + 1) (k / 4) + 1) (k % 4) = some q ∧ x < 256 ∧ wd_I z 702 q = Int32.ofNat x ∧ wd_A w (B + 201 + k) 0 = wd_I z 701 q ∧ wd_A w (B + 201 + k) 1 = Int32.ofNat x) ∨ (wd_Q z (mA (B + 1) (k / 4) + 1) (k % 4) = none ∧ wd_A w (B + 201 + k) 1 = -1) := by
  have := h.2.2 (k / 4) (k % 4) (by omega) (by omega)
  rw [show 4 * (k / 4) + k % 4 = k by omega] at this
  exact this
theorem x_addressOf (h : Tb B z w) (hn : 40 ≤ n) (x : Int32) : ∃ a, a < 256 ∧ f_L_addressOf n w (some (B + 200)) x = some (Int32.ofNat a, w) := by
  have key : ∀ (k t m : Nat), t + k = 32 → k < m → ∃ a, a < 256 ∧ wd_lp4 (f_L_addressOf_l2 n) m (some (B + 200)) x (Int32.ofNat t) w = some (Int32.ofNat a, w) := by
    intro k
    induction k with
    | zero =>
      intro t m ht hm
      obtain ⟨m, rfl⟩ : ∃ r, m = r + 1 := ⟨m - 1, by omega⟩
      obtain ⟨r, r1, r2⟩ := x_below (n := n) (w := w) x (m := 256) (by omega) (by omega)
      refine ⟨r, r1, ?_⟩
      rw [wd_lp4, f_L_addressOf_l2, if_pos (by rw [show (32 : Int32) = Int32.ofNat 32 from rfl, j_ll (by omega) (by omega)]; omega), show f_L_below n w x 256 = some (Int32.ofNat r, w) from r2, wd_b2_s]
    | succ k ih =>
      intro t m ht hm
      obtain ⟨m, rfl⟩ : ∃ r, m = r + 1 := ⟨m - 1, by omega⟩
      obtain ⟨r, r1, r2⟩ := x_below (n := n) (w := w) x (m := 32) (by omega) (by omega)
      have r2' : f_L_below n w x 32 = some (Int32.ofNat r, w) := r2
      have ei : (Int32.ofNat r + Int32.ofNat t) - (Int32.ofNat r + Int32.ofNat t) / (32 : Int32) * (32 : Int32) = Int32.ofNat ((r + t) % 32) := by rw [j_ad]; exact j_md (m := r + t) (k := 32) (by omega) (by omega)
      have hl : (r + t) % 32 < 32 := Nat.mod_lt _ (by omega)
      obtain ⟨t1, t2, t3⟩ := id h
      obtain ⟨q1, q2⟩ := t2 _ hl
      rw [wd_lp4, f_L_addressOf_l2, if_neg (by rw [show (32 : Int32) = Int32.ofNat 32 from rfl, j_ll (by omega) (by omega)]; omega), r2', wd_b2_s, Option.bind_some, ei, j_gd (by rw [t1]; exact j_in hl (by omega)), j_nn (by omega), q1, Option.bind_some, show (1 : Int32) = Int32.ofNat 1 from rfl, j_gd (by rw [q2]; exact j_in (by omega) (by omega)), j_nn (by omega)]
      rcases h.at hl with ⟨q, a, g1, g2, g3, g4, g5⟩ | ⟨g1, g2⟩
      · rw [g5, if_neg (j_n0 (by omega)), r2', wd_b2_s, ei, j_gd (by rw [t1]; exact j_in hl (by omega)), j_nn (by omega), q1, Option.bind_some, j_gd (by rw [q2]; exact j_ix (by omega) (by omega)), g5]
        exact ⟨a, g2, rfl⟩
      · rw [g2, if_pos (by decide), wd_let, j_ad]
        exact ih (t + 1) m (by omega) (by omega)
  exact key 32 0 n (by omega) (by omega)
end LS1
