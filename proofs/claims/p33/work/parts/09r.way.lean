/-! ===== PURE: where from, may it be wrapped, unwrapped ===== -/
section SF
variable {P T X i j n : Nat} {z w u : Wd} {b : Be} {A A' : Ta}
theorem pov_q {x : Int32} {q : Nat} (h : pov P z i x = some q) : ∃ k, k < 4 ∧ x = Int32.ofNat k ∧ wd_Q z (mA P i + 1) k = some q := by
  unfold pov at h
  by_cases c1 : x < 0
  · rw [if_pos c1] at h; cases h
  rw [if_neg c1] at h
  by_cases c2 : Int32.ofNat 4 ≤ x
  · rw [if_pos c2] at h; cases h
  rw [if_neg c2] at h
  obtain ⟨k, hk, rfl⟩ := j_up (N := 4) c1 (by omega) c2
  rw [j_nn (by omega)] at h
  exact ⟨k, hk, rfl, h⟩
theorem pl_q (hi : i < 8) {k q : Nat} (hk : k < 4) (h : wd_Q z (mA P i + 1) k = some q) : pl P z q :=
  Or.inr ⟨i, k, hi, hk, by rw [← h, show mA P i + 1 = P + 5 + 9 * i by unfold mA; omega]⟩
def soP (P : Nat) (z : Wd) (i : Nat) (x : Int32) : Option Nat := pov P z i (if ptv P z i x = -2 then ptv P z i (fav P z i (hpv P z i x)) else ptv P z i x)
def soV (P : Nat) (z : Wd) (i : Nat) (x : Int32) : Int32 := if owv P z i x = true then x else match soP P z i x with
  | none => -1
  | some q => wd_I z 702 q
theorem p_sourceFor (hz : PS P z) (hw : PW P z w) (hi : i < 8) (hn : 5 ≤ n) (x : Int32) : f_X9_sourceFor n w (some (mA P i)) x = some (soV P z i x, w) := by
  have h36 : ∀ y, f_X9_sourceFor_j36 n (some (mA P i)) y w = some ((match pov P z i y with | none => -1 | some q => wd_I z 702 q), w) := fun y => by
    rw [f_X9_sourceFor_j36, Option.bind_some, p_port hz hw hi, wd_b2_s]
    cases h : pov P z i y with
    | none => rfl
    | some q =>
      obtain ⟨k, hk, -, hq⟩ := pov_q h
      rw [wd_on_S, (pw_q hw hi hk hq).1]
  unfold f_X9_sourceFor soV soP
  rw [Option.bind_some, p_owns hz hw hi hn, wd_b2_s]
  by_cases c : owv P z i x = true
  · rw [if_pos c, if_neg (by rw [bi_0, c]; decide)]
  · rw [if_neg c, if_pos (by rw [bi_0]; simpa using c), p_portTo hz hw hi, wd_b2_s]
    by_cases d : ptv P z i x = -2
    · rw [if_pos d, if_pos d, p_hopTo hz hw hi, wd_b2_s, p_farOf hz hw hi, wd_b2_s, p_portTo hz hw hi, wd_b2_s, h36]
    · rw [if_neg d, if_neg d, h36]
def cwP (P : Nat) (z : Wd) (i : Nat) (x : Int32) : Bool := !(owv P z i (fav P z i (hpv P z i x))) && (pov P z i (ptv P z i (fav P z i (hpv P z i x)))).isSome
theorem o_canWrap (hT : Tm P T X z w b A) (hz : PS P z) (hi : i < 8) (hn : 5 ≤ n) {p : Nat} (hp : p < tN A 1 0) : f_X9_canWrap n w (some (mA P i)) (some (b_pa b p)) = some (bi (cwP P z i (tI A 402 p)), w) := by
  have hw := hT.1
  have h2 := (hT.2.2.2.1 p hp).1 402 (by omega) (by omega)
  unfold f_X9_canWrap f_X9_canWrap_j37 cwP
  rw [Option.bind_some, Option.bind_some, h2, p_hopTo hz hw hi, wd_b2_s, p_farOf hz hw hi, wd_b2_s, p_owns hz hw hi hn, wd_b2_s]
  cases c : owv P z i (fav P z i (hpv P z i (tI A 402 p))) with
  | true => rw [if_neg (by decide)]; rfl
  | false =>
    rw [if_pos (by decide), p_portTo hz hw hi, wd_b2_s, p_port hz hw hi, wd_b2_s]
    cases d : pov P z i (ptv P z i (fav P z i (hpv P z i (tI A 402 p)))) with
    | none => rfl
    | some q => rfl
def unF (P : Nat) (z : Wd) (A : Ta) (j p : Nat) : Option Nat × Ta := if htv P z j (tI A 401 p) = true then (tR A 410 p, A) else (none, uN A 204 j (tN A 204 j + 1))
theorem o_unwrap (hT : Tm P T X z w b A) (hz : PS P z) (hj : j < 8) (hn : 3 ≤ n) {p : Nat} (hp : p < tN A 1 0) :
    ∃ v, f_X2_unwrap n w (hA T j) (some (b_pa b p)) = some ((unF P z A j p).1.map (b_pa b), v) ∧ Tm P T X z v b (unF P z A j p).2 ∧ Rl T w b v b := by
  have hw := hT.1
  have hk := hT.2.2.2.1 p hp
  have s1 := (hT.2.2.2.2.2.2 j hj).1
  unfold f_X2_unwrap unF
  rw [Option.bind_some, s1.1, Option.bind_some, hk.1 401 (by omega) (by omega), p_hasTunnelTo hz hw hj hn, wd_b2_s]
  by_cases c : htv P z j (tI A 401 p) = true
  · rw [if_pos c, if_neg (by rw [bi_0, c]; decide), hk.2]
    exact ⟨w, rfl, hT, Rl.rf _ _ _⟩
  · rw [if_neg c, if_pos (by rw [bi_0]; simpa using c)]
    obtain ⟨g1, g2⟩ := o_gone hT hj
    exact ⟨_, rfl, g1, g2⟩
theorem nw_old {hd : Nat → Int32} {ins : Option Nat} {p : Nat} (hp : p < tN A 1 0) (g : Nat) : tI (nwA A hd ins) g p = tI A g p := by
  show (if p = tN A 1 0 then hd g else tI A g p) = _
  rw [if_neg (by omega)]
def acF (A : Ta) (j p : Nat) : Option Nat × Ta :=
  if tI A 400 p = 1 then (some (tN A 1 0), uI (brA A 2 (tI A 402 p) (tI A 401 p) (tI A 403 p)) 406 (tN A 1 0) (tI A 405 p)) else (none, uO A j (nt A p :: tO A j))
theorem o_accept (hT : Tm P T X z w b A) (hI : Ix A) (hJ : Iy A) (hj : j < 8) (hX : tN A 1 0 + 1 ≤ X) {p : Nat} (hp : p < tN A 1 0) (hr : b_ng b 203 j + (tO A j).length + 1 < 1073741824) :
    ∃ v b', f_X9_accept n w T (some (hA T j)) (some (b_pa b p)) = some ((acF A j p).1.map (b_pa b'), v) ∧ Tm P T X z v b' (acF A j p).2 ∧ Rl T w b v b' := by
  have hk := (hT.2.2.2.1 p hp).1
  unfold f_X9_accept acF
  rw [Option.bind_some, hk 400 (by omega) (by omega), hk 401 (by omega) (by omega), hk 402 (by omega) (by omega), hk 403 (by omega) (by omega)]
  by_cases c : tI A 400 p = 1
  · rw [if_pos c, if_pos c]
    obtain ⟨v, b', h1, h2, h3⟩ := o_bear (n := n) hT hI hJ hX 2 (tI A 402 p) (tI A 401 p) (tI A 403 p)
    have hnp : tN A 1 0 < tN (brA A 2 (tI A 402 p) (tI A 401 p) (tI A 403 p)) 1 0 := by
      show _ < tN A 1 0 + 1
      omega
    have h5 : wd_I v 405 (b_pa b p) = tI A 405 p := by
      have := (h2.2.2.2.1 p (Nat.lt_trans hp hnp)).1 405 (by omega) (by omega)
      rw [h3.pa (hT.pn hp)] at this
      rw [this]
      exact nw_old (ins := none) hp 405
    obtain ⟨g1, g2⟩ := o_head h2 (g := 406) hnp (by omega) (by omega) (tI A 405 p)
    refine ⟨_, b', ?_, g1, h3.tr g2⟩
    rw [h1, wd_b2_s, Option.bind_some, wd_let, h5]; rfl
  · rw [if_neg c, if_neg c]
    obtain ⟨v, h1, h2, h3⟩ := o_writeNote (n := n) hT hj hp hr
    refine ⟨v, b, ?_, h2, h3⟩
    rw [Option.bind_some, h1, Option.bind_some]; rfl
def isC (k : Int32) : Bool := decide (k = 3 ∨ k = 4 ∨ k = 5)
theorem o_isComplaint (hT : Tm P T X z w b A) {p : Nat} (hp : p < tN A 1 0) : f_X4_isComplaint n w (b_pa b p) = some (bi (isC (tI A 400 p)), w) := by
  have hk := (hT.2.2.2.1 p hp).1
  unfold f_X4_isComplaint isC f_X4_isComplaint_j24
  rw [hk 400 (by omega) (by omega)]
  by_cases c : tI A 400 p = 3
  · rw [if_pos c, decide_eq_true (Or.inl c)]; rfl
  rw [if_neg c]
  by_cases d : tI A 400 p = 4
  · rw [if_pos d, decide_eq_true (Or.inr (Or.inl d))]; rfl
  rw [if_neg d]
  by_cases e : tI A 400 p = 5
  · rw [if_pos e, decide_eq_true (Or.inr (Or.inr e))]; rfl
  rw [if_neg e, decide_eq_false (fun q => q.elim c (fun q => q.elim d e))]; rfl
def cmA (A : Ta) (k f t ab : Int32) : Ta := uI (uI (brA A k f t 0) 408 (tN A 1 0) 1) 406 (tN A 1 0) ab
def coG (P : Nat) (z : Wd) (A1 : Ta) (j p : Nat) (k ab : Int32) : Option Nat × Ta :=
  if isC (tI A1 400 p) = true ∨ tI A1 407 p ≠ 0 then (none, A1)
  else if 0 ≤ soV P z j (tI A1 401 p) then (some (tN A1 1 0), cmA A1 k (soV P z j (tI A1 401 p)) (tI A1 401 p) ab) else (none, A1)
def coF (P : Nat) (z : Wd) (A : Ta) (j p : Nat) (k ab : Int32) : Option Nat × Ta := coG P z (uN A 204 j (tN A 204 j + 1)) j p k ab
theorem br_np {k f t s : Int32} : tN A 1 0 < tN (brA A k f t s) 1 0 := by
  show _ < tN A 1 0 + 1
  omega
theorem o_bearC (hT : Tm P T X z w b A) (hI : Ix A) (hJ : Iy A) (hX : tN A 1 0 + 1 ≤ X) (k f t ab : Int32) :
    ∃ v b', (wd_b2 (f_X9_bear n w T k f t (0 : Int32)) fun r16 w14 => Option.bind r16 fun a17 => wd_let (wd_sI w14 408 a17 (1 : Int32)) fun w18 => wd_let (wd_sI w18 406 a17 ab) fun w20 => some ((some a17), w20)) = some (some (b_pa b' (tN A 1 0)), v) ∧ Tm P T X z v b' (cmA A k f t ab) ∧ Rl T w b v b' := by
  obtain ⟨v, b', h1, h2, h3⟩ := o_bear (n := n) hT hI hJ hX k f t 0
  have hb : tN A 1 0 < tN (brA A k f t 0) 1 0 := br_np
  unfold cmA
  generalize brA A k f t 0 = B at *
  obtain ⟨k1, k2⟩ := o_head h2 (g := 408) hb (by omega) (by omega) 1
  have hb1 : tN A 1 0 < tN (uI B 408 (tN A 1 0) 1) 1 0 := by rw [tN_uI]; exact hb
  obtain ⟨k3, k4⟩ := o_head k1 (g := 406) (p := tN A 1 0) hb1 (by omega) (by omega) ab
  refine ⟨_, b', ?_, k3, (h3.tr k2).tr k4⟩
  rw [h1, wd_b2_s, Option.bind_some, wd_let, wd_let]
theorem o_complainG (hT : Tm P T X z w b A) (hI : Ix A) (hJ : Iy A) (hz : PS P z) (hj : j < 8) (hn : 5 ≤ n) (hX : tN A 1 0 + 1 ≤ X) {p : Nat} (hp : p < tN A 1 0) (k ab : Int32) :
    ∃ v b', (wd_b2 (f_X4_isComplaint n w (b_pa b p)) fun r7 w5 => if r7 = 0 then if (wd_I w5 407 (b_pa b p)) = 0 then wd_b2 (f_X9_sourceFor n w5 (wd_R w5 200 (hA T j)) (wd_I w5 401 (b_pa b p))) fun r12 w10 => if 0 ≤ r12 then wd_b2 (f_X9_bear n w10 T k r12 (wd_I w10 401 (b_pa b p)) (0 : Int32)) fun r16 w14 => Option.bind r16 fun a17 => wd_let (wd_sI w14 408 a17 (1 : Int32)) fun w18 => wd_let (wd_sI w18 406 a17 ab) fun w20 => some ((some a17), w20) else some (none, w10) else f_X9_complain_j24 n w5 else f_X9_complain_j24 n w5) = some ((coG P z A j p k ab).1.map (b_pa b'), v) ∧ Tm P T X z v b' (coG P z A j p k ab).2 ∧ Rl T w b v b' := by
  have hk := (hT.2.2.2.1 p hp).1
  have s1 := (hT.2.2.2.2.2.2 j hj).1
  unfold coG f_X9_complain_j24
  rw [o_isComplaint hT hp, wd_b2_s, hk 407 (by omega) (by omega), hk 401 (by omega) (by omega), s1.1]
  cases c : isC (tI A 400 p) with
  | true =>
    rw [if_neg (by decide), if_pos (Or.inl rfl)]
    exact ⟨w, b, rfl, hT, Rl.rf _ _ _⟩
  | false =>
    rw [if_pos (by decide)]
    by_cases d : tI A 407 p = 0
    · rw [if_pos d, if_neg (fun q => q.elim (fun q => Bool.noConfusion q) (fun q => q d)), p_sourceFor hz hT.1 hj hn, wd_b2_s]
      by_cases e : 0 ≤ soV P z j (tI A 401 p)
      · rw [if_pos e, if_pos e, hk 401 (by omega) (by omega)]
        obtain ⟨v, b', h1, h2, h3⟩ := o_bearC (n := n) hT hI hJ hX k (soV P z j (tI A 401 p)) (tI A 401 p) ab
        exact ⟨v, b', h1, h2, h3⟩
      · rw [if_neg e, if_neg e]
        exact ⟨w, b, rfl, hT, Rl.rf _ _ _⟩
    · rw [if_neg d, if_pos (Or.inr d)]
      exact ⟨w, b, rfl, hT, Rl.rf _ _ _⟩
theorem o_complain (hT : Tm P T X z w b A) (hI : Ix A) (hJ : Iy A) (hz : PS P z) (hj : j < 8) (hn : 5 ≤ n) (hX : tN A 1 0 + 1 ≤ X) {p : Nat} (hp : p < tN A 1 0) (k ab : Int32) :
    ∃ v b', f_X9_complain n w T (some (hA T j)) (some (b_pa b p)) k ab = some ((coF P z A j p k ab).1.map (b_pa b'), v) ∧ Tm P T X z v b' (coF P z A j p k ab).2 ∧ Rl T w b v b' := by
  obtain ⟨g1, g2⟩ := o_gone hT hj
  have hI1 : Ix (uN A 204 j (tN A 204 j + 1)) := hI
  have hJ1 : Iy (uN A 204 j (tN A 204 j + 1)) := hJ
  have hX1 : tN (uN A 204 j (tN A 204 j + 1)) 1 0 + 1 ≤ X := hX
  have hp1 : p < tN (uN A 204 j (tN A 204 j + 1)) 1 0 := hp
  unfold coF
  generalize uN A 204 j (tN A 204 j + 1) = A1 at *
  obtain ⟨v, b', h1, h2, h3⟩ := o_complainG (n := n) g1 hI1 hJ1 hz hj hn hX1 hp1 k ab
  refine ⟨v, b', ?_, h2, g2.tr h3⟩
  rw [f_X9_complain, Option.bind_some, wd_let, Option.bind_some]
  exact h1
end SF
