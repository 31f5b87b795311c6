/-! ===== PURE: the frames are right ===== -/
section FR
variable {P i j n c B nm g q K G s : Nat} {z w u v : Wd} {b1 b2 : Be} {A1 A2 : Ta}
theorem fd_21 {Q : Nat → ((Nat → Int32) × Option Nat) → Prop} : ∀ (d t m : Nat) (l : List Nat) (fs : List ((Nat → Int32) × Option Nat)) (o : Option Nat), ls_c (wd_R w 6) o l → ls_2 Q l fs → d < fs.length → d < m → t + d < 2147483648 → ∃ a f, fs[d]? = some f ∧ Q a f ∧ wd_lp4 (f_X8_find_l21 n) m (Int32.ofNat (t + d)) o (Int32.ofNat t) w = some (some a, w) := by
  intro d
  induction d with
  | zero =>
    intro t m l fs o h1 h2 h3 hm ht
    obtain ⟨m, rfl⟩ : ∃ r, m = r + 1 := ⟨m - 1, by omega⟩
    cases fs with
    | nil => simp at h3
    | cons f fs =>
      cases l with
      | nil => exact h2.elim
      | cons a l =>
        refine ⟨a, f, rfl, h2.1, ?_⟩
        rw [wd_lp4, f_X8_find_l21, if_pos (by rw [j_ll (by omega) (by omega)]; omega), f_X8_find_j41, h1.1]
  | succ d ih =>
    intro t m l fs o h1 h2 h3 hm ht
    obtain ⟨m, rfl⟩ : ∃ r, m = r + 1 := ⟨m - 1, by omega⟩
    cases fs with
    | nil => simp at h3
    | cons f fs =>
      cases l with
      | nil => exact h2.elim
      | cons a l =>
        rw [List.length_cons] at h3
        obtain ⟨a', f', g1, g2, g3⟩ := ih (t + 1) m l fs (wd_R w 6 a) h1.2 h2.2 (by omega) (by omega) (by omega)
        refine ⟨a', f', g1, g2, ?_⟩
        rw [wd_lp4, f_X8_find_l21, if_neg (by rw [j_ll (by omega) (by omega)]; omega), h1.1, wd_on_S, wd_let, wd_let, j_a1, show t + (d + 1) = t + 1 + d by omega]
        exact g3
theorem Ls.flen (h : Ls B nm g q K G s z w b1 A1 b2 A2) : (tF A1).length ≤ 150000 := by
  obtain ⟨r1, r2, r3, r4, r5⟩ := h.1.2.1.2.2.2.2.2.1
  have := h.1.2.1.2.1.2.2.2.2.2.2.2.1.2.1
  rw [List.length_append] at this
  have := ls_2len r5
  omega
theorem x_frame (h : Ls B nm g q K G s z w b1 A1 b2 A2) (hn : 200000 ≤ n) {k : Nat} (hk : k < (tF A1).length) : ∃ f, Fq (B + 1) z A1 f ∧ ∀ x, x < 8 → f_X11_frame n w B (Int32.ofNat k) (Int32.ofNat x) = some (pv A1 f x, w) := by
  have hl := h.flen
  obtain ⟨r1, r2, r3, r4, r5⟩ := h.1.2.1.2.2.2.2.2.1
  obtain ⟨a, f, g1, g2, g3⟩ := fd_21 (n := n) k 0 n (b_fl b1) (tF A1) _ r1 r5 hk (by omega) (by omega)
  have hm : f ∈ tF A1 := List.mem_of_getElem? g1
  refine ⟨f, h.2.2.2.2.1.2.2.2.1.1 f hm, fun x hx => ?_⟩
  have g3' : wd_lp4 (f_X8_find_l21 n) n (Int32.ofNat k) (wd_R w 800 (B + 77 + 1)) 0 w = some (some a, w) := by
    rw [Nat.zero_add] at g3; exact g3
  rw [f_X11_frame, h.1.2.2.2.2.1.2.1, Option.bind_some, h.1.2.1.2.2.1.1.1, Option.bind_some, f_X8_find, if_neg (j_n0 (by omega)), fl_len h.1.2.1, if_pos (by rw [j_lx (by omega) (by omega)]; omega), wd_let, g3', wd_b2_s, wd_on_S, show f_X11_needPart n w (Int32.ofNat x) 8 = some w from x_part x 8 hx (by omega), Option.bind_some, o_part h.1.2.1 g2.1 g2.2 (fun p hp => h.2.2.2.2.1.2.1.1 f hm p hp) hx, wd_b2_s]
/-- the table at a port -/
theorem Ls.port (h : Ls B nm g q K G s z w b1 A1 b2 A2) {i k q' : Nat} (hq : Pq (B + 1) z i k q') : 4 * i + k < 32 ∧ wd_I z 700 q' = Int32.ofNat (4 * i + k) ∧ wd_A w (B + 201 + (4 * i + k)) 0 = wd_I z 701 q' ∧ wd_A w (B + 201 + (4 * i + k)) 1 = wd_I z 702 q' ∧ ∃ x, x < 256 ∧ wd_I z 702 q' = Int32.ofNat x := by
  obtain ⟨hi, hk, hq⟩ := hq
  obtain ⟨d1, -, x, d3, d4, d5⟩ := h.1.1.2.2.2.1.1 i k q' hi hk hq
  rcases h.2.2.1.2.2 i k hi hk with ⟨q2, y, q1, q3, q4, q5, q6⟩ | ⟨q1, -⟩
  · rw [hq] at q1
    cases q1
    exact ⟨by omega, d1, q5, by rw [q6, q4], x, d3, d4⟩
  · rw [hq] at q1; cases q1
theorem f_153 (h : Ls B nm g q K G s z w b1 A1 b2 A2) (hn : 200000 ≤ n) {k : Nat} (hk : k < (tF A1).length) (r2 : Option Nat → Option Nat → Int32 → Wd → Option (Int32 × Wd)) : f_L_areFramesRight_l2 n r2 (some B) (some (B + 200)) (Int32.ofNat k) w = r2 (some B) (some (B + 200)) (Int32.ofNat (k + 1)) w := by
  have hl := h.flen
  have hT := h.2.2.1
  have hp := h.2.2.2.2.1.2.2.2.2.2
  have fn0 : ∀ {k m : Nat}, k < 100 → m < 100 → k ≠ m → ¬ Int32.ofNat k = Int32.ofNat m := fun hk hm e f => e (by rw [j_ee (by omega) (by omega)] at f; exact f)
  obtain ⟨f, ⟨⟨i, kk, q', hq, f0, f1, f4⟩, hs⟩, hf⟩ := x_frame h hn hk
  obtain ⟨p1, p2, p3, p4, x, x1, x2⟩ := h.port hq
  have o0 : f_X11_frame n w B (Int32.ofNat k) 0 = some (f.1 0, w) := hf 0 (by omega)
  have o1 : f_X11_frame n w B (Int32.ofNat k) 1 = some (f.1 1, w) := hf 1 (by omega)
  have o2 : f_X11_frame n w B (Int32.ofNat k) 2 = some (f.1 2, w) := hf 2 (by omega)
  have o3 : f_X11_frame n w B (Int32.ofNat k) 3 = some (f.1 3, w) := hf 3 (by omega)
  have o4 : f_X11_frame n w B (Int32.ofNat k) 4 = some (pv A1 f 4, w) := hf 4 (by omega)
  have o7 : f_X11_frame n w B (Int32.ofNat k) 7 = some (pv A1 f 7, w) := hf 7 (by omega)
  have e153 : f_L_areFramesRight_j153 n r2 (some B) (some (B + 200)) (Int32.ofNat k) w = r2 (some B) (some (B + 200)) (Int32.ofNat (k + 1)) w := by rw [f_L_areFramesRight_j153, wd_let, j_a1]
  -- the rest, once both ports are there
  have e70 : f_L_areFramesRight_j70 n r2 (some B) (some (B + 200)) (Int32.ofNat k) (Int32.ofNat (4 * i + kk)) (f.1 2) (f.1 3) w = r2 (some B) (some (B + 200)) (Int32.ofNat (k + 1)) w := by
    rcases hs with ⟨s1, s2, s3⟩ | ⟨s1, ⟨i', k', q2, s2, s3⟩, s4⟩ | ⟨s1, ⟨i', k', q2, s2, s3⟩, p, s4, s5, s6⟩
    · have v7 : pv A1 f 7 = -1 := by unfold pv; rw [if_neg (by omega), s3]; rfl
      rw [s1, s2, f_L_areFramesRight_j70, if_pos rfl, f_L_areFramesRight_j81, if_pos rfl, f_L_areFramesRight_j92, if_pos rfl, if_neg (by decide), f_L_areFramesRight_j117, if_neg (by decide), f_L_areFramesRight_j135, if_neg (by decide), Option.bind_some, o7, wd_b2_s, v7, if_pos rfl, e153]
    · have v7 : pv A1 f 7 = -1 := by unfold pv; rw [if_neg (by omega), s4]; rfl
      have v4 : pv A1 f 4 = f.1 4 := by unfold pv; rw [if_neg (by omega), s4]; rfl
      rw [s1, s3, f_L_areFramesRight_j70, if_neg (j_m1 (by have := s2.1; have := s2.2.1; omega)), f_L_areFramesRight_j81, if_neg (by decide), f_L_areFramesRight_j92, if_pos rfl, if_pos rfl, Option.bind_some, o4, wd_b2_s, Option.bind_some, tb_get hT p1, j_c1, p4, v4, f4 s1, if_pos rfl, f_L_areFramesRight_j117, if_neg (by decide), f_L_areFramesRight_j135, if_neg (by decide), Option.bind_some, o7, wd_b2_s, v7, if_pos rfl, e153]
    · have v4 : pv A1 f 4 = tI A1 405 p := by unfold pv; rw [if_neg (by omega), s4]; rfl
      have hh := h.2.2.2.2.1.2.2.1 p s5
      have h1 := hh.1 405 (by omega) (by omega)
      have h2 := hh.2.1.1
      rw [s1, s3, f_L_areFramesRight_j70, if_neg (j_m1 (by have := s2.1; have := s2.2.1; omega)), f_L_areFramesRight_j81, if_neg (by decide), f_L_areFramesRight_j92, if_pos rfl, if_neg (by decide), f_L_areFramesRight_j117, if_pos rfl, Option.bind_some, o4, wd_b2_s, h.pack, wd_b2_s, v4, h1, if_neg (by rw [j_ll (by omega) (by omega)]; omega), f_L_areFramesRight_j135, if_pos (by decide), e153]
  have hM : f.1 2 = -1 ∨ ∃ m, m < 32 ∧ f.1 2 = Int32.ofNat m ∧ ¬ wd_A w (B + 201 + m) 1 < 0 := by
    have key : ∀ x, Mk (B + 1) z x → ∃ m, m < 32 ∧ x = Int32.ofNat m ∧ ¬ wd_A w (B + 201 + m) 1 < 0 := by
      rintro x ⟨i', k', q2, s2, s3⟩
      obtain ⟨g1, g2, g3, g4, y, g5, g6⟩ := h.port s2
      exact ⟨_, g1, s3, by rw [g4, g6]; exact j_n0 (by omega)⟩
    rcases hs with ⟨-, s2, -⟩ | ⟨-, s2, -⟩ | ⟨-, s2, -⟩
    · exact Or.inl s2
    · exact Or.inr (key _ s2)
    · exact Or.inr (key _ s2)
  rw [f_L_areFramesRight_l2, Option.bind_some, h.fram, wd_b2_s, if_neg (by rw [j_ll (by omega) (by omega)]; omega), o1, wd_b2_s, o2, wd_b2_s, o3, wd_b2_s, Option.bind_some, f1, p2, tb_get hT p1, j_c1, p4, x2, if_neg (j_n0 (by omega)), tb_get0 hT p1, j_c0, o0, wd_b2_s, p3, f0, if_pos rfl]
  rcases hM with e | ⟨m, m1, m2, m3⟩
  · rw [if_pos e, e70]
  · rw [if_neg (by rw [m2]; exact j_m1 (by omega))]
    rw [m2] at e70 ⊢
    rw [j_gd (by rw [hT.1]; exact j_in m1 (by omega)), j_nn (by omega), (hT.2.1 m m1).1, Option.bind_some, j_gd (by rw [(hT.2.1 m m1).2]; decide), if_neg m3, e70]
theorem l_frames (h : Ls B nm g q K G s z w b1 A1 b2 A2) (hn : 200000 ≤ n) : f_L_areFramesRight n w (some B) (some (B + 200)) = some ((1 : Int32), w) := by
  have hl := h.flen
  have key : ∀ (k t m : Nat), t + k = (tF A1).length → k < m → wd_lp4 (f_L_areFramesRight_l2 n) m (some B) (some (B + 200)) (Int32.ofNat t) w = some ((1 : Int32), w) := by
    intro k
    induction k with
    | zero =>
      intro t m ht hm
      obtain ⟨m, rfl⟩ : ∃ r, m = r + 1 := ⟨m - 1, by omega⟩
      rw [wd_lp4, f_L_areFramesRight_l2, Option.bind_some, h.fram, wd_b2_s, if_pos (by rw [j_ll (by omega) (by omega)]; omega)]
    | succ k ih =>
      intro t m ht hm
      obtain ⟨m, rfl⟩ : ∃ r, m = r + 1 := ⟨m - 1, by omega⟩
      rw [wd_lp4, f_153 h hn (by omega), ih (t + 1) m (by omega) (by omega)]
  exact key (tF A1).length 0 n (by omega) (by omega)
end FR
