/-! ===== meanings and contracts, laid by wip/p33/gen ===== -/
def f_X11_digest_l172 (n : Nat) (rec172 : Nat → Int64 → Int32 → Wd → Option (Int64 × Wd)) (x0 : Nat) (x1 : Int64) (x3 : Int32) (w : Wd) : Option (Int64 × Wd) :=
  Option.bind (wd_R w 1100 x0) fun a27 =>
  if (wd_I w 503 a27) ≤ x3 then
    some (x1, w)
  else
    wd_b2 (f_X11_hostOf n w x0 x3) fun r31 w29 =>
    wd_b2 (f_X11_digestHost n w29 x0 x1 r31) fun r34 w32 =>
    wd_let (x3 + 1) fun v35 =>
    rec172 x0 r34 v35 w32
def f_X11_digest_l137 (n : Nat) (rec137 : Nat → Int64 → Int32 → Wd → Option (Int64 × Wd)) (x0 : Nat) (x1 : Int64) (x3 : Int32) (w : Wd) : Option (Int64 × Wd) :=
  Option.bind (wd_R w 1100 x0) fun a25 =>
  if (wd_I w 501 a25) ≤ x3 then
    wd_lp4 (f_X11_digest_l172 n) n x0 x1 (0 : Int32) w
  else
    Option.bind (wd_R w 1101 x0) fun a37 =>
    wd_b2 (f_X9_carriedOn n w a37 x3) fun r40 w38 =>
    wd_let ((x1 * (31 : Int64)) + r40.toInt64) fun v41 =>
    wd_let (x3 + 1) fun v43 =>
    rec137 x0 v41 v43 w38
def f_X11_digest_l100 (n : Nat) (rec93 : Nat → Int64 → Option Nat → Wd → Option (Int64 × Wd)) (rec100 : Nat → Int64 → Option Nat → Int32 → Wd → Option (Int64 × Wd)) (x0 : Nat) (x1 : Int64) (x3 : Option Nat) (x4 : Int32) (w : Wd) : Option (Int64 × Wd) :=
  if (8 : Int32) ≤ x4 then
    Option.bind x3 fun a46 =>
    wd_let (wd_R w 6 a46) fun v47 =>
    rec93 x0 x1 v47 w
  else
    Option.bind x3 fun a49 =>
    wd_b2 (f_X0_part n w a49 x4) fun r52 w50 =>
    wd_let ((x1 * (31 : Int64)) + r52.toInt64) fun v53 =>
    wd_let (x4 + 1) fun v55 =>
    rec100 x0 v53 (some a49) v55 w50
def f_X11_digest_l93 (n : Nat) (rec93 : Nat → Int64 → Option Nat → Wd → Option (Int64 × Wd)) (x0 : Nat) (x1 : Int64) (x3 : Option Nat) (w : Wd) : Option (Int64 × Wd) :=
  wd_on x3 (
    wd_lp4 (f_X11_digest_l137 n) n x0 x1 (0 : Int32) w)
    (fun a24 =>
    wd_lp5 (f_X11_digest_l100 n rec93) n x0 x1 (some a24) (0 : Int32) w)
def f_X11_digest (n : Nat) (w : Wd) (this : Nat) : Option (Int64 × Wd) :=
  Option.bind (wd_R w 1100 this) fun a1 =>
  wd_let (((58062 : Int64) * (31 : Int64)) + (wd_I w 503 a1).toInt64) fun v2 =>
  Option.bind (wd_R w 1101 this) fun a4 =>
  wd_let ((v2 * (31 : Int64)) + (wd_I w 901 a4).toInt64) fun v5 =>
  Option.bind (wd_R w 1101 this) fun a7 =>
  wd_let ((v5 * (31 : Int64)) + (wd_I w 902 a7).toInt64) fun v8 =>
  Option.bind (wd_R w 1101 this) fun a10 =>
  wd_b2 (f_X9_goneInAll n w a10) fun r13 w11 =>
  wd_let ((v8 * (31 : Int64)) + r13.toInt64) fun v14 =>
  Option.bind (wd_R w11 1101 this) fun a16 =>
  Option.bind (wd_R w11 900 a16) fun a17 =>
  wd_let ((v14 * (31 : Int64)) + (wd_I w11 801 a17).toInt64) fun v18 =>
  Option.bind (wd_R w11 1101 this) fun a20 =>
  Option.bind (wd_R w11 900 a20) fun a21 =>
  wd_let (wd_R w11 800 a21) fun v22 =>
  wd_lp4 (f_X11_digest_l93 n) n this v18 v22 w11
set_option maxHeartbeats 4000000 in
set_option maxRecDepth 100000 in
theorem v_X11_digest_b172 {p : Program} {l : Launch} {e : Env} {R : Room} {s : State} {m : MethodId} {args : Array Value} {below : List Frame} {meth : Method} {c : Code} {E : wd_E} {w0 : Wd} {r' : Int64} {w' : Wd} (n : Nat) (C : wd_X p s m args meth c cX11_digest RX11 5 (some .long) "digest" E) (hR : 3 ≤ R.frames ∧ 70 ≤ R.locals) (rec172 : Nat → Int64 → Int32 → Wd → Option (Int64 × Wd)) (hrec172 : ∀ (x0_ : Nat) (x1_ : Int64) (x3_ : Int32) (w_ : Wd) (H : Heap) (locs : List Loc) (cells slots : Nat) (ls : Array Slot), wd_Z E w0 R s w_ H locs cells slots [(some x0_, 12)] → lv_has ls 5 [(0, .ref x0_), (1, .long x1_), (3, .int x3_)] → rec172 x0_ x1_ x3_ w_ = some (r', w') → W p l e R s m args below meth c H locs cells slots (wd_fin E w0 (some (.long r')) w' True R args s below) (F0 m 172 ls [])) (x0 : Nat) (x1 : Int64) (x3 : Int32) (w : Wd) (H : Heap) (locs : List Loc) (cells slots : Nat) (ls : Array Slot) (hZ : wd_Z E w0 R s w H locs cells slots [(some x0, 12)]) (hl : lv_has ls 5 [(0, .ref x0), (1, .long x1), (3, .int x3)]) (hf : f_X11_digest_l172 n rec172 x0 x1 x3 w = some (r', w')) : W p l e R s m args below meth c H locs cells slots (wd_fin E w0 (some (.long r')) w' True R args s below) (F0 m 172 ls []) := by
  obtain ⟨hx, hb, hr, hml, hts, hown, hlocks, hmn, hK⟩ := id C
  unfold f_X11_digest_l172 at hf
  refine lv_iload_n (i := 3) hx hb dX11_digest_172 rfl (lv_at hl 2 rfl) ?_
  refine lv_aload_n (i := 0) hx hb dX11_digest_173 rfl (lv_at hl 0 rfl) ?_
  refine z_getR (tk := 5) fd_1100 rfl hx hb hts hown hK hZ (hZ.k 0 rfl rfl) tw_306 dX11_digest_174 ?_; clear hZ; intro hZ
  have hf9 := Option.bind_eq_some_iff.mp hf; clear hf; obtain ⟨a27, ha27, hf⟩ := hf9
  replace hZ := hZ.add (r := some a27) (k := 6) (Nat.succ_ne_zero _) (fun q hq => by cases hq; exact hZ.k 0 rfl ha27)
  rw [ha27]
  refine z_getI fd_503 rfl hx hb hts hown hK hZ (hZ.k 0 rfl rfl) tw_124 dX11_digest_177 ?_
  refine lv_icmp_ge (tgt := 200) hx hb dX11_digest_180 (by decide) (fun h28 => ?_) (fun h28 => ?_)
  · replace hf := wd_ite_p h28 hf
    refine lv_lload_n (i := 1) hx hb dX11_digest_200 rfl (lv_at hl 1 rfl) ?_
    obtain ⟨rfl, rfl⟩ := Prod.mk.inj (Option.some.inj hf)
    exact z_lret hx hb hr hlocks hZ trivial dX11_digest_201
  · replace hf := wd_ite_n h28 hf
    refine lv_aload_n (i := 0) hx hb dX11_digest_183 rfl (lv_at hl 0 rfl) ?_
    refine lv_lload_n (i := 1) hx hb dX11_digest_184 rfl (lv_at hl 1 rfl) ?_
    refine lv_aload_n (i := 0) hx hb dX11_digest_185 rfl (lv_at hl 0 rfl) ?_
    refine lv_iload_n (i := 3) hx hb dX11_digest_186 rfl (lv_at hl 2 rfl) ?_
    have hf9 := wd_b2_e hf; clear hf; obtain ⟨r31, w29, hc30, hf⟩ := hf9
    refine z_callV (ci := 11) (As := [.int x3]) (rest := [.long x1, .ref x0]) (c_X11_hostOf l E n w x0 x3 r31 w29 (hZ.k 2 rfl rfl) hc30) mo_X11_hostOf rfl (by decide) rfl tw_448 tw_2 tw_446 hx hb hml hts hown hK ⟨Nat.le_trans (by decide) hR.1, Nat.le_trans (by decide) hR.2⟩ hZ (hZ.k 2 rfl rfl) rfl hl.1 rfl (Nat.le_of_ble_eq_true rfl) rfl dX11_digest_187 ?_; clear hZ; intro H locs cells slots hX hZ
    replace hZ := hZ.add (Nat.succ_ne_zero _) hX
    have hf9 := wd_b2_e hf; clear hf; obtain ⟨r34, w32, hc33, hf⟩ := hf9
    refine z_callV (ci := 11) (As := [.long x1, va_rf r31]) (rest := []) (c_X11_digestHost l E n w29 x0 x1 r31 r34 w32 (hZ.k 3 rfl rfl) (fun q hq => hZ.k 0 rfl hq) hc33) mo_X11_digestHost rfl (by decide) rfl tw_472 tw_3 tw_470 hx hb hml hts hown hK ⟨Nat.le_trans (by decide) hR.1, Nat.le_trans (by decide) hR.2⟩ hZ (hZ.k 3 rfl rfl) rfl hl.1 rfl (Nat.le_of_ble_eq_true rfl) rfl dX11_digest_190 ?_; clear hZ; intro H locs cells slots hX hZ
    refine lv_lstore_n (i := 1) (lv' := [(1, .long r34), (0, .ref x0), (3, .int x3)]) hx hb dX11_digest_193 rfl hl (by decide) rfl ?_; clear hl; intro ls hl
    have hf9 := wd_let_e hf; clear hf; obtain ⟨v35, e36, hf⟩ := hf9
    refine lv_iinc (k := 2) (v := v35) (lv' := [(3, .int v35), (1, .long r34), (0, .ref x0)]) hx hb dX11_digest_194 hl rfl (by rw [← e36]; rfl) (by decide) rfl ?_; clear hl; intro ls hl
    refine lv_goto (tgt := 172) hx hb dX11_digest_197 (by decide) ?_
    exact hrec172 x0 r34 v35 w32 _ _ _ _ _ ⟨hZ.1, hZ.2.1, hZ.2.2.1, hZ.2.2.2.1, (List.forall_mem_cons.mpr ⟨⟨Nat.succ_ne_zero _, (fun q hq => by cases hq; exact (hZ.k 3 rfl rfl))⟩, (fun _ hq => absurd hq List.not_mem_nil)⟩), hZ.2.2.2.2.2⟩ (lv_sub hl [2, 1, 0] rfl) hf

theorem v_X11_digest_l172 {p : Program} {l : Launch} {e : Env} {R : Room} {s : State} {m : MethodId} {args : Array Value} {below : List Frame} {meth : Method} {c : Code} {E : wd_E} {w0 : Wd} {r' : Int64} {w' : Wd} (n : Nat) (C : wd_X p s m args meth c cX11_digest RX11 5 (some .long) "digest" E) (hR : 3 ≤ R.frames ∧ 70 ≤ R.locals) : ∀ (k : Nat) (x0 : Nat) (x1 : Int64) (x3 : Int32) (w : Wd) (H : Heap) (locs : List Loc) (cells slots : Nat) (ls : Array Slot), wd_Z E w0 R s w H locs cells slots [(some x0, 12)] → lv_has ls 5 [(0, .ref x0), (1, .long x1), (3, .int x3)] → wd_lp4 (f_X11_digest_l172 n) k x0 x1 x3 w = some (r', w') → W p l e R s m args below meth c H locs cells slots (wd_fin E w0 (some (.long r')) w' True R args s below) (F0 m 172 ls []) := by
  intro k
  induction k with
  | zero => intro _ _ _ _ _ _ _ _ _ _ _ hf; cases hf
  | succ k ih =>
    intro x0 x1 x3 w H locs cells slots ls hZ hl hf
    exact v_X11_digest_b172 n C hR (wd_lp4 (f_X11_digest_l172 n) k) ih x0 x1 x3 w H locs cells slots ls hZ hl hf

set_option maxHeartbeats 4000000 in
set_option maxRecDepth 100000 in
theorem v_X11_digest_b137 {p : Program} {l : Launch} {e : Env} {R : Room} {s : State} {m : MethodId} {args : Array Value} {below : List Frame} {meth : Method} {c : Code} {E : wd_E} {w0 : Wd} {r' : Int64} {w' : Wd} (n : Nat) (C : wd_X p s m args meth c cX11_digest RX11 5 (some .long) "digest" E) (hR : 3 ≤ R.frames ∧ 70 ≤ R.locals) (rec137 : Nat → Int64 → Int32 → Wd → Option (Int64 × Wd)) (hrec137 : ∀ (x0_ : Nat) (x1_ : Int64) (x3_ : Int32) (w_ : Wd) (H : Heap) (locs : List Loc) (cells slots : Nat) (ls : Array Slot), wd_Z E w0 R s w_ H locs cells slots [(some x0_, 12)] → lv_has ls 5 [(0, .ref x0_), (1, .long x1_), (3, .int x3_)] → rec137 x0_ x1_ x3_ w_ = some (r', w') → W p l e R s m args below meth c H locs cells slots (wd_fin E w0 (some (.long r')) w' True R args s below) (F0 m 137 ls [])) (x0 : Nat) (x1 : Int64) (x3 : Int32) (w : Wd) (H : Heap) (locs : List Loc) (cells slots : Nat) (ls : Array Slot) (hZ : wd_Z E w0 R s w H locs cells slots [(some x0, 12)]) (hl : lv_has ls 5 [(0, .ref x0), (1, .long x1), (3, .int x3)]) (hf : f_X11_digest_l137 n rec137 x0 x1 x3 w = some (r', w')) : W p l e R s m args below meth c H locs cells slots (wd_fin E w0 (some (.long r')) w' True R args s below) (F0 m 137 ls []) := by
  obtain ⟨hx, hb, hr, hml, hts, hown, hlocks, hmn, hK⟩ := id C
  unfold f_X11_digest_l137 at hf
  refine lv_iload_n (i := 3) hx hb dX11_digest_137 rfl (lv_at hl 2 rfl) ?_
  refine lv_aload_n (i := 0) hx hb dX11_digest_138 rfl (lv_at hl 0 rfl) ?_
  refine z_getR (tk := 5) fd_1100 rfl hx hb hts hown hK hZ (hZ.k 0 rfl rfl) tw_306 dX11_digest_139 ?_; clear hZ; intro hZ
  have hf9 := Option.bind_eq_some_iff.mp hf; clear hf; obtain ⟨a25, ha25, hf⟩ := hf9
  replace hZ := hZ.add (r := some a25) (k := 6) (Nat.succ_ne_zero _) (fun q hq => by cases hq; exact hZ.k 0 rfl ha25)
  rw [ha25]
  refine z_getI fd_501 rfl hx hb hts hown hK hZ (hZ.k 0 rfl rfl) tw_120 dX11_digest_142 ?_
  refine lv_icmp_ge (tgt := 170) hx hb dX11_digest_145 (by decide) (fun h26 => ?_) (fun h26 => ?_)
  · replace hf := wd_ite_p h26 hf
    refine lv_iconst (v := 0) hx hb dX11_digest_170 (by decide) ?_
    refine lv_istore_n (i := 3) (lv' := [(3, .int (0 : Int32)), (0, .ref x0), (1, .long x1)]) hx hb dX11_digest_171 rfl hl (by decide) rfl ?_; clear hl; intro ls hl
    exact v_X11_digest_l172 n C hR n x0 x1 (0 : Int32) w _ _ _ _ _ ⟨hZ.1, hZ.2.1, hZ.2.2.1, hZ.2.2.2.1, (List.forall_mem_cons.mpr ⟨⟨Nat.succ_ne_zero _, (fun q hq => by cases hq; exact (hZ.k 2 rfl rfl))⟩, (fun _ hq => absurd hq List.not_mem_nil)⟩), hZ.2.2.2.2.2⟩ (lv_sub hl [1, 2, 0] rfl) hf
  · replace hf := wd_ite_n h26 hf
    refine lv_lload_n (i := 1) hx hb dX11_digest_148 rfl (lv_at hl 1 rfl) ?_
    refine lv_ldc2 (v := 31) hx hb hown (hts _ tw_425) dX11_digest_149 ?_
    refine lv_lmul hx hb dX11_digest_152 ?_
    refine lv_aload_n (i := 0) hx hb dX11_digest_153 rfl (lv_at hl 0 rfl) ?_
    refine z_getR (tk := 9) fd_1101 rfl hx hb hts hown hK hZ (hZ.k 2 rfl rfl) tw_307 dX11_digest_154 ?_; clear hZ; intro hZ
    refine lv_iload_n (i := 3) hx hb dX11_digest_157 rfl (lv_at hl 2 rfl) ?_
    have hf9 := Option.bind_eq_some_iff.mp hf; clear hf; obtain ⟨a37, ha37, hf⟩ := hf9
    replace hZ := hZ.add (r := some a37) (k := 10) (Nat.succ_ne_zero _) (fun q hq => by cases hq; exact hZ.k 0 rfl ha37)
    rw [ha37]
    have hf9 := wd_b2_e hf; clear hf; obtain ⟨r40, w38, hc39, hf⟩ := hf9
    refine z_callV (ci := 9) (As := [.int x3]) (rest := [.long (x1 * (31 : Int64))]) (c_X9_carriedOn l E n w a37 x3 r40 w38 (hZ.k 0 rfl rfl) hc39) mo_X9_carriedOn rfl (by decide) rfl tw_443 tw_444 tw_442 hx hb hml hts hown hK ⟨Nat.le_trans (by decide) hR.1, Nat.le_trans (by decide) hR.2⟩ hZ (hZ.k 0 rfl rfl) rfl hl.1 rfl (Nat.le_of_ble_eq_true rfl) rfl dX11_digest_158 ?_; clear hZ; intro H locs cells slots hX hZ
    refine lv_i2l hx hb dX11_digest_161 rfl ?_
    refine lv_ladd hx hb dX11_digest_162 ?_
    have hf9 := wd_let_e hf; clear hf; obtain ⟨v41, e42, hf⟩ := hf9
    rw [e42]
    refine lv_lstore_n (i := 1) (lv' := [(1, .long v41), (0, .ref x0), (3, .int x3)]) hx hb dX11_digest_163 rfl hl (by decide) rfl ?_; clear hl; intro ls hl
    have hf9 := wd_let_e hf; clear hf; obtain ⟨v43, e44, hf⟩ := hf9
    refine lv_iinc (k := 2) (v := v43) (lv' := [(3, .int v43), (1, .long v41), (0, .ref x0)]) hx hb dX11_digest_164 hl rfl (by rw [← e44]; rfl) (by decide) rfl ?_; clear hl; intro ls hl
    refine lv_goto (tgt := 137) hx hb dX11_digest_167 (by decide) ?_
    exact hrec137 x0 v41 v43 w38 _ _ _ _ _ ⟨hZ.1, hZ.2.1, hZ.2.2.1, hZ.2.2.2.1, (List.forall_mem_cons.mpr ⟨⟨Nat.succ_ne_zero _, (fun q hq => by cases hq; exact (hZ.k 4 rfl rfl))⟩, (fun _ hq => absurd hq List.not_mem_nil)⟩), hZ.2.2.2.2.2⟩ (lv_sub hl [2, 1, 0] rfl) hf

theorem v_X11_digest_l137 {p : Program} {l : Launch} {e : Env} {R : Room} {s : State} {m : MethodId} {args : Array Value} {below : List Frame} {meth : Method} {c : Code} {E : wd_E} {w0 : Wd} {r' : Int64} {w' : Wd} (n : Nat) (C : wd_X p s m args meth c cX11_digest RX11 5 (some .long) "digest" E) (hR : 3 ≤ R.frames ∧ 70 ≤ R.locals) : ∀ (k : Nat) (x0 : Nat) (x1 : Int64) (x3 : Int32) (w : Wd) (H : Heap) (locs : List Loc) (cells slots : Nat) (ls : Array Slot), wd_Z E w0 R s w H locs cells slots [(some x0, 12)] → lv_has ls 5 [(0, .ref x0), (1, .long x1), (3, .int x3)] → wd_lp4 (f_X11_digest_l137 n) k x0 x1 x3 w = some (r', w') → W p l e R s m args below meth c H locs cells slots (wd_fin E w0 (some (.long r')) w' True R args s below) (F0 m 137 ls []) := by
  intro k
  induction k with
  | zero => intro _ _ _ _ _ _ _ _ _ _ _ hf; cases hf
  | succ k ih =>
    intro x0 x1 x3 w H locs cells slots ls hZ hl hf
    exact v_X11_digest_b137 n C hR (wd_lp4 (f_X11_digest_l137 n) k) ih x0 x1 x3 w H locs cells slots ls hZ hl hf

set_option maxHeartbeats 4000000 in
set_option maxRecDepth 100000 in
theorem v_X11_digest_b100 {p : Program} {l : Launch} {e : Env} {R : Room} {s : State} {m : MethodId} {args : Array Value} {below : List Frame} {meth : Method} {c : Code} {E : wd_E} {w0 : Wd} {r' : Int64} {w' : Wd} (n : Nat) (C : wd_X p s m args meth c cX11_digest RX11 5 (some .long) "digest" E) (hR : 3 ≤ R.frames ∧ 70 ≤ R.locals) (rec93 : Nat → Int64 → Option Nat → Wd → Option (Int64 × Wd)) (hrec93 : ∀ (x0_ : Nat) (x1_ : Int64) (x3_ : Option Nat) (w_ : Wd) (H : Heap) (locs : List Loc) (cells slots : Nat) (ls : Array Slot), wd_Z E w0 R s w_ H locs cells slots [(some x0_, 12), (x3_, 1)] → lv_has ls 5 [(0, .ref x0_), (1, .long x1_), (3, va_rf x3_)] → rec93 x0_ x1_ x3_ w_ = some (r', w') → W p l e R s m args below meth c H locs cells slots (wd_fin E w0 (some (.long r')) w' True R args s below) (F0 m 93 ls [])) (rec100 : Nat → Int64 → Option Nat → Int32 → Wd → Option (Int64 × Wd)) (hrec100 : ∀ (x0_ : Nat) (x1_ : Int64) (x3_ : Option Nat) (x4_ : Int32) (w_ : Wd) (H : Heap) (locs : List Loc) (cells slots : Nat) (ls : Array Slot), wd_Z E w0 R s w_ H locs cells slots [(some x0_, 12), (x3_, 1)] → lv_has ls 5 [(0, .ref x0_), (1, .long x1_), (3, va_rf x3_), (4, .int x4_)] → rec100 x0_ x1_ x3_ x4_ w_ = some (r', w') → W p l e R s m args below meth c H locs cells slots (wd_fin E w0 (some (.long r')) w' True R args s below) (F0 m 100 ls [])) (x0 : Nat) (x1 : Int64) (x3 : Option Nat) (x4 : Int32) (w : Wd) (H : Heap) (locs : List Loc) (cells slots : Nat) (ls : Array Slot) (hZ : wd_Z E w0 R s w H locs cells slots [(some x0, 12), (x3, 1)]) (hl : lv_has ls 5 [(0, .ref x0), (1, .long x1), (3, va_rf x3), (4, .int x4)]) (hf : f_X11_digest_l100 n rec93 rec100 x0 x1 x3 x4 w = some (r', w')) : W p l e R s m args below meth c H locs cells slots (wd_fin E w0 (some (.long r')) w' True R args s below) (F0 m 100 ls []) := by
  obtain ⟨hx, hb, hr, hml, hts, hown, hlocks, hmn, hK⟩ := id C
  unfold f_X11_digest_l100 at hf
  refine lv_iload hx hb dX11_digest_100 (lv_at hl 3 rfl) ?_
  refine lv_bipush (v := 8) hx hb dX11_digest_102 (by decide) ?_
  refine lv_icmp_ge (tgt := 127) hx hb dX11_digest_104 (by decide) (fun h45 => ?_) (fun h45 => ?_)
  · replace hf := wd_ite_p h45 hf
    refine z_aload_n (i := 3) hx hb dX11_digest_127 rfl (lv_at hl 2 rfl) ?_
    have hf9 := Option.bind_eq_some_iff.mp hf; clear hf; obtain ⟨a46, ha46, hf⟩ := hf9
    subst ha46
    replace hl : lv_has ls 5 [(0, .ref x0), (1, .long x1), (3, .ref a46), (4, .int x4)] := hl
    replace hZ : wd_Z E w0 R s w H locs cells slots [(some x0, 12), (some a46, 1)] := hZ
    refine z_getR (tk := 0) fd_6 rfl hx hb hts hown hK hZ (hZ.k 1 rfl rfl) tw_826 dX11_digest_128 ?_; clear hZ; intro hZ
    have hf9 := wd_let_e hf; clear hf; obtain ⟨v47, e48, hf⟩ := hf9
    rw [e48]
    rw [e48] at hZ
    refine z_astore_n (i := 3) (lv' := [(3, va_rf v47), (0, .ref x0), (1, .long x1), (4, .int x4)]) hx hb dX11_digest_131 rfl hl (by decide) rfl ?_; clear hl; intro ls hl
    refine lv_goto (tgt := 93) hx hb dX11_digest_132 (by decide) ?_
    exact hrec93 x0 x1 v47 w _ _ _ _ _ ⟨hZ.1, hZ.2.1, hZ.2.2.1, hZ.2.2.2.1, (List.forall_mem_cons.mpr ⟨⟨Nat.succ_ne_zero _, (fun q hq => by cases hq; exact (hZ.k 1 rfl rfl))⟩, (List.forall_mem_cons.mpr ⟨⟨Nat.succ_ne_zero _, (fun q hq => hZ.k 0 rfl hq)⟩, (fun _ hq => absurd hq List.not_mem_nil)⟩)⟩), hZ.2.2.2.2.2⟩ (lv_sub hl [1, 2, 0] rfl) hf
  · replace hf := wd_ite_n h45 hf
    refine lv_lload_n (i := 1) hx hb dX11_digest_107 rfl (lv_at hl 1 rfl) ?_
    refine lv_ldc2 (v := 31) hx hb hown (hts _ tw_425) dX11_digest_108 ?_
    refine lv_lmul hx hb dX11_digest_111 ?_
    refine z_aload_n (i := 3) hx hb dX11_digest_112 rfl (lv_at hl 2 rfl) ?_
    refine lv_iload hx hb dX11_digest_113 (lv_at hl 3 rfl) ?_
    have hf9 := Option.bind_eq_some_iff.mp hf; clear hf; obtain ⟨a49, ha49, hf⟩ := hf9
    subst ha49
    replace hl : lv_has ls 5 [(0, .ref x0), (1, .long x1), (3, .ref a49), (4, .int x4)] := hl
    replace hZ : wd_Z E w0 R s w H locs cells slots [(some x0, 12), (some a49, 1)] := hZ
    have hf9 := wd_b2_e hf; clear hf; obtain ⟨r52, w50, hc51, hf⟩ := hf9
    refine z_callV (ci := 0) (As := [.int x4]) (rest := [.long (x1 * (31 : Int64))]) (c_X0_part l E n w a49 x4 r52 w50 (hZ.k 1 rfl rfl) hc51) mo_X0_part rfl (by decide) rfl tw_431 tw_432 tw_430 hx hb hml hts hown hK ⟨Nat.le_trans (by decide) hR.1, Nat.le_trans (by decide) hR.2⟩ hZ (hZ.k 1 rfl rfl) rfl hl.1 rfl (Nat.le_of_ble_eq_true rfl) rfl dX11_digest_115 ?_; clear hZ; intro H locs cells slots hX hZ
    refine lv_i2l hx hb dX11_digest_118 rfl ?_
    refine lv_ladd hx hb dX11_digest_119 ?_
    have hf9 := wd_let_e hf; clear hf; obtain ⟨v53, e54, hf⟩ := hf9
    rw [e54]
    refine lv_lstore_n (i := 1) (lv' := [(1, .long v53), (0, .ref x0), (3, .ref a49), (4, .int x4)]) hx hb dX11_digest_120 rfl hl (by decide) rfl ?_; clear hl; intro ls hl
    have hf9 := wd_let_e hf; clear hf; obtain ⟨v55, e56, hf⟩ := hf9
    refine lv_iinc (k := 3) (v := v55) (lv' := [(4, .int v55), (1, .long v53), (0, .ref x0), (3, .ref a49)]) hx hb dX11_digest_121 hl rfl (by rw [← e56]; rfl) (by decide) rfl ?_; clear hl; intro ls hl
    refine lv_goto (tgt := 100) hx hb dX11_digest_124 (by decide) ?_
    exact hrec100 x0 v53 (some a49) v55 w50 _ _ _ _ _ ⟨hZ.1, hZ.2.1, hZ.2.2.1, hZ.2.2.2.1, (List.forall_mem_cons.mpr ⟨⟨Nat.succ_ne_zero _, (fun q hq => by cases hq; exact (hZ.k 0 rfl rfl))⟩, (List.forall_mem_cons.mpr ⟨⟨Nat.succ_ne_zero _, (fun q hq => by cases hq; exact (hZ.k 1 rfl rfl))⟩, (fun _ hq => absurd hq List.not_mem_nil)⟩)⟩), hZ.2.2.2.2.2⟩ (lv_sub hl [2, 1, 3, 0] rfl) hf

theorem v_X11_digest_l100 {p : Program} {l : Launch} {e : Env} {R : Room} {s : State} {m : MethodId} {args : Array Value} {below : List Frame} {meth : Method} {c : Code} {E : wd_E} {w0 : Wd} {r' : Int64} {w' : Wd} (n : Nat) (C : wd_X p s m args meth c cX11_digest RX11 5 (some .long) "digest" E) (hR : 3 ≤ R.frames ∧ 70 ≤ R.locals) (rec93 : Nat → Int64 → Option Nat → Wd → Option (Int64 × Wd)) (hrec93 : ∀ (x0_ : Nat) (x1_ : Int64) (x3_ : Option Nat) (w_ : Wd) (H : Heap) (locs : List Loc) (cells slots : Nat) (ls : Array Slot), wd_Z E w0 R s w_ H locs cells slots [(some x0_, 12), (x3_, 1)] → lv_has ls 5 [(0, .ref x0_), (1, .long x1_), (3, va_rf x3_)] → rec93 x0_ x1_ x3_ w_ = some (r', w') → W p l e R s m args below meth c H locs cells slots (wd_fin E w0 (some (.long r')) w' True R args s below) (F0 m 93 ls [])) : ∀ (k : Nat) (x0 : Nat) (x1 : Int64) (x3 : Option Nat) (x4 : Int32) (w : Wd) (H : Heap) (locs : List Loc) (cells slots : Nat) (ls : Array Slot), wd_Z E w0 R s w H locs cells slots [(some x0, 12), (x3, 1)] → lv_has ls 5 [(0, .ref x0), (1, .long x1), (3, va_rf x3), (4, .int x4)] → wd_lp5 (f_X11_digest_l100 n rec93) k x0 x1 x3 x4 w = some (r', w') → W p l e R s m args below meth c H locs cells slots (wd_fin E w0 (some (.long r')) w' True R args s below) (F0 m 100 ls []) := by
  intro k
  induction k with
  | zero => intro _ _ _ _ _ _ _ _ _ _ _ _ hf; cases hf
  | succ k ih =>
    intro x0 x1 x3 x4 w H locs cells slots ls hZ hl hf
    exact v_X11_digest_b100 n C hR rec93 hrec93 (wd_lp5 (f_X11_digest_l100 n rec93) k) ih x0 x1 x3 x4 w H locs cells slots ls hZ hl hf

set_option maxHeartbeats 4000000 in
set_option maxRecDepth 100000 in
theorem v_X11_digest_b93 {p : Program} {l : Launch} {e : Env} {R : Room} {s : State} {m : MethodId} {args : Array Value} {below : List Frame} {meth : Method} {c : Code} {E : wd_E} {w0 : Wd} {r' : Int64} {w' : Wd} (n : Nat) (C : wd_X p s m args meth c cX11_digest RX11 5 (some .long) "digest" E) (hR : 3 ≤ R.frames ∧ 70 ≤ R.locals) (rec93 : Nat → Int64 → Option Nat → Wd → Option (Int64 × Wd)) (hrec93 : ∀ (x0_ : Nat) (x1_ : Int64) (x3_ : Option Nat) (w_ : Wd) (H : Heap) (locs : List Loc) (cells slots : Nat) (ls : Array Slot), wd_Z E w0 R s w_ H locs cells slots [(some x0_, 12), (x3_, 1)] → lv_has ls 5 [(0, .ref x0_), (1, .long x1_), (3, va_rf x3_)] → rec93 x0_ x1_ x3_ w_ = some (r', w') → W p l e R s m args below meth c H locs cells slots (wd_fin E w0 (some (.long r')) w' True R args s below) (F0 m 93 ls [])) (x0 : Nat) (x1 : Int64) (x3 : Option Nat) (w : Wd) (H : Heap) (locs : List Loc) (cells slots : Nat) (ls : Array Slot) (hZ : wd_Z E w0 R s w H locs cells slots [(some x0, 12), (x3, 1)]) (hl : lv_has ls 5 [(0, .ref x0), (1, .long x1), (3, va_rf x3)]) (hf : f_X11_digest_l93 n rec93 x0 x1 x3 w = some (r', w')) : W p l e R s m args below meth c H locs cells slots (wd_fin E w0 (some (.long r')) w' True R args s below) (F0 m 93 ls []) := by
  obtain ⟨hx, hb, hr, hml, hts, hown, hlocks, hmn, hK⟩ := id C
  unfold f_X11_digest_l93 at hf
  refine z_aload_n (i := 3) hx hb dX11_digest_93 rfl (lv_at hl 2 rfl) ?_
  refine z_ifnull (tgt := 135) hx hb dX11_digest_94 (by decide) (fun hn => ?_) (fun a24 ha24 => ?_)
  · replace hf := wd_on_n hn hf
    subst hn
    replace hl : lv_has ls 5 [(0, .ref x0), (1, .long x1), (3, va_rf none)] := hl
    replace hZ : wd_Z E w0 R s w H locs cells slots [(some x0, 12), (none, 1)] := hZ
    refine lv_iconst (v := 0) hx hb dX11_digest_135 (by decide) ?_
    refine lv_istore_n (i := 3) (lv' := [(3, .int (0 : Int32)), (0, .ref x0), (1, .long x1)]) hx hb dX11_digest_136 rfl hl (by decide) rfl ?_; clear hl; intro ls hl
    exact v_X11_digest_l137 n C hR n x0 x1 (0 : Int32) w _ _ _ _ _ ⟨hZ.1, hZ.2.1, hZ.2.2.1, hZ.2.2.2.1, (List.forall_mem_cons.mpr ⟨⟨Nat.succ_ne_zero _, (fun q hq => by cases hq; exact (hZ.k 0 rfl rfl))⟩, (fun _ hq => absurd hq List.not_mem_nil)⟩), hZ.2.2.2.2.2⟩ (lv_sub hl [1, 2, 0] rfl) hf
  · replace hf := wd_on_s ha24 hf
    subst ha24
    replace hl : lv_has ls 5 [(0, .ref x0), (1, .long x1), (3, .ref a24)] := hl
    replace hZ : wd_Z E w0 R s w H locs cells slots [(some x0, 12), (some a24, 1)] := hZ
    refine lv_iconst (v := 0) hx hb dX11_digest_97 (by decide) ?_
    refine lv_istore (i := 4) (lv' := [(4, .int (0 : Int32)), (0, .ref x0), (1, .long x1), (3, .ref a24)]) hx hb dX11_digest_98 hl (by decide) rfl ?_; clear hl; intro ls hl
    exact v_X11_digest_l100 n C hR rec93 hrec93 n x0 x1 (some a24) (0 : Int32) w _ _ _ _ _ ⟨hZ.1, hZ.2.1, hZ.2.2.1, hZ.2.2.2.1, (List.forall_mem_cons.mpr ⟨⟨Nat.succ_ne_zero _, (fun q hq => by cases hq; exact (hZ.k 0 rfl rfl))⟩, (List.forall_mem_cons.mpr ⟨⟨Nat.succ_ne_zero _, (fun q hq => by cases hq; exact (hZ.k 1 rfl rfl))⟩, (fun _ hq => absurd hq List.not_mem_nil)⟩)⟩), hZ.2.2.2.2.2⟩ (lv_sub hl [1, 2, 3, 0] rfl) hf

theorem v_X11_digest_l93 {p : Program} {l : Launch} {e : Env} {R : Room} {s : State} {m : MethodId} {args : Array Value} {below : List Frame} {meth : Method} {c : Code} {E : wd_E} {w0 : Wd} {r' : Int64} {w' : Wd} (n : Nat) (C : wd_X p s m args meth c cX11_digest RX11 5 (some .long) "digest" E) (hR : 3 ≤ R.frames ∧ 70 ≤ R.locals) : ∀ (k : Nat) (x0 : Nat) (x1 : Int64) (x3 : Option Nat) (w : Wd) (H : Heap) (locs : List Loc) (cells slots : Nat) (ls : Array Slot), wd_Z E w0 R s w H locs cells slots [(some x0, 12), (x3, 1)] → lv_has ls 5 [(0, .ref x0), (1, .long x1), (3, va_rf x3)] → wd_lp4 (f_X11_digest_l93 n) k x0 x1 x3 w = some (r', w') → W p l e R s m args below meth c H locs cells slots (wd_fin E w0 (some (.long r')) w' True R args s below) (F0 m 93 ls []) := by
  intro k
  induction k with
  | zero => intro _ _ _ _ _ _ _ _ _ _ _ hf; cases hf
  | succ k ih =>
    intro x0 x1 x3 w H locs cells slots ls hZ hl hf
    exact v_X11_digest_b93 n C hR (wd_lp4 (f_X11_digest_l93 n) k) ih x0 x1 x3 w H locs cells slots ls hZ hl hf

set_option maxHeartbeats 4000000 in
set_option maxRecDepth 100000 in
theorem c_X11_digest (l : Launch) (E : wd_E) (n : Nat) (w : Wd) (this : Nat) (r' : Int64) (w' : Wd) (k_this : wd_K w this = 12) (hf : f_X11_digest n w this = some (r', w')) : wd_C l E yX11_digest cX11_digest 5 (some .long) 3 70 [.ref this] w (some (.long r')) w' True := by
  refine wd_ofW (own := RX11) (nm := "digest") (ks := [(some this, 12)]) (lv := [(0, .ref this)]) (by decide) rfl rfl (Nat.le_of_ble_eq_true rfl) rfl (List.forall_mem_cons.mpr ⟨⟨Nat.succ_ne_zero _, fun q hq => by cases hq; exact k_this⟩, (fun _ hq => absurd hq List.not_mem_nil)⟩) ?_
  intro p e s m args below meth c R H locs cells slots ls C hR hZ hl
  obtain ⟨hx, hb, hr, hml, hts, hown, hlocks, hmn, hK⟩ := id C
  unfold f_X11_digest at hf
  refine lv_ldc2 (v := 58062) hx hb hown (hts _ tw_424) dX11_digest_0 ?_
  refine lv_lstore_n (i := 1) (lv' := [(1, .long (58062 : Int64)), (0, .ref this)]) hx hb dX11_digest_3 rfl hl (by decide) rfl ?_; clear hl; intro ls hl
  refine lv_lload_n (i := 1) hx hb dX11_digest_4 rfl (lv_at hl 0 rfl) ?_
  refine lv_ldc2 (v := 31) hx hb hown (hts _ tw_425) dX11_digest_5 ?_
  refine lv_lmul hx hb dX11_digest_8 ?_
  refine lv_aload_n (i := 0) hx hb dX11_digest_9 rfl (lv_at hl 1 rfl) ?_
  refine z_getR (tk := 5) fd_1100 rfl hx hb hts hown hK hZ (hZ.k 0 rfl rfl) tw_306 dX11_digest_10 ?_; clear hZ; intro hZ
  have hf9 := Option.bind_eq_some_iff.mp hf; clear hf; obtain ⟨a1, ha1, hf⟩ := hf9
  replace hZ := hZ.add (r := some a1) (k := 6) (Nat.succ_ne_zero _) (fun q hq => by cases hq; exact hZ.k 0 rfl ha1)
  rw [ha1]
  refine z_getI fd_503 rfl hx hb hts hown hK hZ (hZ.k 0 rfl rfl) tw_124 dX11_digest_13 ?_
  refine lv_i2l hx hb dX11_digest_16 rfl ?_
  refine lv_ladd hx hb dX11_digest_17 ?_
  have hf9 := wd_let_e hf; clear hf; obtain ⟨v2, e3, hf⟩ := hf9
  rw [e3]
  refine lv_lstore_n (i := 1) (lv' := [(1, .long v2), (0, .ref this)]) hx hb dX11_digest_18 rfl hl (by decide) rfl ?_; clear hl; intro ls hl
  refine lv_lload_n (i := 1) hx hb dX11_digest_19 rfl (lv_at hl 0 rfl) ?_
  refine lv_ldc2 (v := 31) hx hb hown (hts _ tw_425) dX11_digest_20 ?_
  refine lv_lmul hx hb dX11_digest_23 ?_
  refine lv_aload_n (i := 0) hx hb dX11_digest_24 rfl (lv_at hl 1 rfl) ?_
  refine z_getR (tk := 9) fd_1101 rfl hx hb hts hown hK hZ (hZ.k 2 rfl rfl) tw_307 dX11_digest_25 ?_; clear hZ; intro hZ
  have hf9 := Option.bind_eq_some_iff.mp hf; clear hf; obtain ⟨a4, ha4, hf⟩ := hf9
  replace hZ := hZ.add (r := some a4) (k := 10) (Nat.succ_ne_zero _) (fun q hq => by cases hq; exact hZ.k 0 rfl ha4)
  rw [ha4]
  refine z_getI fd_901 rfl hx hb hts hown hK hZ (hZ.k 0 rfl rfl) tw_246 dX11_digest_28 ?_
  refine lv_i2l hx hb dX11_digest_31 rfl ?_
  refine lv_ladd hx hb dX11_digest_32 ?_
  have hf9 := wd_let_e hf; clear hf; obtain ⟨v5, e6, hf⟩ := hf9
  rw [e6]
  refine lv_lstore_n (i := 1) (lv' := [(1, .long v5), (0, .ref this)]) hx hb dX11_digest_33 rfl hl (by decide) rfl ?_; clear hl; intro ls hl
  refine lv_lload_n (i := 1) hx hb dX11_digest_34 rfl (lv_at hl 0 rfl) ?_
  refine lv_ldc2 (v := 31) hx hb hown (hts _ tw_425) dX11_digest_35 ?_
  refine lv_lmul hx hb dX11_digest_38 ?_
  refine lv_aload_n (i := 0) hx hb dX11_digest_39 rfl (lv_at hl 1 rfl) ?_
  refine z_getR (tk := 9) fd_1101 rfl hx hb hts hown hK hZ (hZ.k 4 rfl rfl) tw_307 dX11_digest_40 ?_; clear hZ; intro hZ
  have hf9 := Option.bind_eq_some_iff.mp hf; clear hf; obtain ⟨a7, ha7, hf⟩ := hf9
  replace hZ := hZ.add (r := some a7) (k := 10) (Nat.succ_ne_zero _) (fun q hq => by cases hq; exact hZ.k 0 rfl ha7)
  rw [ha7]
  refine z_getI fd_902 rfl hx hb hts hown hK hZ (hZ.k 0 rfl rfl) tw_247 dX11_digest_43 ?_
  refine lv_i2l hx hb dX11_digest_46 rfl ?_
  refine lv_ladd hx hb dX11_digest_47 ?_
  have hf9 := wd_let_e hf; clear hf; obtain ⟨v8, e9, hf⟩ := hf9
  rw [e9]
  refine lv_lstore_n (i := 1) (lv' := [(1, .long v8), (0, .ref this)]) hx hb dX11_digest_48 rfl hl (by decide) rfl ?_; clear hl; intro ls hl
  refine lv_lload_n (i := 1) hx hb dX11_digest_49 rfl (lv_at hl 0 rfl) ?_
  refine lv_ldc2 (v := 31) hx hb hown (hts _ tw_425) dX11_digest_50 ?_
  refine lv_lmul hx hb dX11_digest_53 ?_
  refine lv_aload_n (i := 0) hx hb dX11_digest_54 rfl (lv_at hl 1 rfl) ?_
  refine z_getR (tk := 9) fd_1101 rfl hx hb hts hown hK hZ (hZ.k 6 rfl rfl) tw_307 dX11_digest_55 ?_; clear hZ; intro hZ
  have hf9 := Option.bind_eq_some_iff.mp hf; clear hf; obtain ⟨a10, ha10, hf⟩ := hf9
  replace hZ := hZ.add (r := some a10) (k := 10) (Nat.succ_ne_zero _) (fun q hq => by cases hq; exact hZ.k 0 rfl ha10)
  rw [ha10]
  have hf9 := wd_b2_e hf; clear hf; obtain ⟨r13, w11, hc12, hf⟩ := hf9
  refine z_callV (ci := 9) (As := []) (rest := [.long (v8 * (31 : Int64))]) (c_X9_goneInAll l E n w a10 r13 w11 (hZ.k 0 rfl rfl) hc12) mo_X9_goneInAll rfl (by decide) rfl tw_427 tw_428 tw_426 hx hb hml hts hown hK ⟨Nat.le_trans (by decide) hR.1, Nat.le_trans (by decide) hR.2⟩ hZ (hZ.k 0 rfl rfl) rfl hl.1 rfl (Nat.le_of_ble_eq_true rfl) rfl dX11_digest_58 ?_; clear hZ; intro H locs cells slots hX hZ
  refine lv_i2l hx hb dX11_digest_61 rfl ?_
  refine lv_ladd hx hb dX11_digest_62 ?_
  have hf9 := wd_let_e hf; clear hf; obtain ⟨v14, e15, hf⟩ := hf9
  rw [e15]
  refine lv_lstore_n (i := 1) (lv' := [(1, .long v14), (0, .ref this)]) hx hb dX11_digest_63 rfl hl (by decide) rfl ?_; clear hl; intro ls hl
  refine lv_lload_n (i := 1) hx hb dX11_digest_64 rfl (lv_at hl 0 rfl) ?_
  refine lv_ldc2 (v := 31) hx hb hown (hts _ tw_425) dX11_digest_65 ?_
  refine lv_lmul hx hb dX11_digest_68 ?_
  refine lv_aload_n (i := 0) hx hb dX11_digest_69 rfl (lv_at hl 1 rfl) ?_
  refine z_getR (tk := 9) fd_1101 rfl hx hb hts hown hK hZ (hZ.k 8 rfl rfl) tw_307 dX11_digest_70 ?_; clear hZ; intro hZ
  have hf9 := Option.bind_eq_some_iff.mp hf; clear hf; obtain ⟨a16, ha16, hf⟩ := hf9
  replace hZ := hZ.add (r := some a16) (k := 10) (Nat.succ_ne_zero _) (fun q hq => by cases hq; exact hZ.k 0 rfl ha16)
  rw [ha16]
  refine z_getR (tk := 8) fd_900 rfl hx hb hts hown hK hZ (hZ.k 0 rfl rfl) tw_244 dX11_digest_73 ?_; clear hZ; intro hZ
  have hf9 := Option.bind_eq_some_iff.mp hf; clear hf; obtain ⟨a17, ha17, hf⟩ := hf9
  replace hZ := hZ.add (r := some a17) (k := 9) (Nat.succ_ne_zero _) (fun q hq => by cases hq; exact hZ.k 0 rfl ha17)
  rw [ha17]
  refine z_getI fd_801 rfl hx hb hts hown hK hZ (hZ.k 0 rfl rfl) tw_152 dX11_digest_76 ?_
  refine lv_i2l hx hb dX11_digest_79 rfl ?_
  refine lv_ladd hx hb dX11_digest_80 ?_
  have hf9 := wd_let_e hf; clear hf; obtain ⟨v18, e19, hf⟩ := hf9
  rw [e19]
  refine lv_lstore_n (i := 1) (lv' := [(1, .long v18), (0, .ref this)]) hx hb dX11_digest_81 rfl hl (by decide) rfl ?_; clear hl; intro ls hl
  refine lv_aload_n (i := 0) hx hb dX11_digest_82 rfl (lv_at hl 1 rfl) ?_
  refine z_getR (tk := 9) fd_1101 rfl hx hb hts hown hK hZ (hZ.k 12 rfl rfl) tw_307 dX11_digest_83 ?_; clear hZ; intro hZ
  have hf9 := Option.bind_eq_some_iff.mp hf; clear hf; obtain ⟨a20, ha20, hf⟩ := hf9
  replace hZ := hZ.add (r := some a20) (k := 10) (Nat.succ_ne_zero _) (fun q hq => by cases hq; exact hZ.k 0 rfl ha20)
  rw [ha20]
  refine z_getR (tk := 8) fd_900 rfl hx hb hts hown hK hZ (hZ.k 0 rfl rfl) tw_244 dX11_digest_86 ?_; clear hZ; intro hZ
  have hf9 := Option.bind_eq_some_iff.mp hf; clear hf; obtain ⟨a21, ha21, hf⟩ := hf9
  replace hZ := hZ.add (r := some a21) (k := 9) (Nat.succ_ne_zero _) (fun q hq => by cases hq; exact hZ.k 0 rfl ha21)
  rw [ha21]
  refine z_getR (tk := 0) fd_800 rfl hx hb hts hown hK hZ (hZ.k 0 rfl rfl) tw_150 dX11_digest_89 ?_; clear hZ; intro hZ
  have hf9 := wd_let_e hf; clear hf; obtain ⟨v22, e23, hf⟩ := hf9
  rw [e23]
  rw [e23] at hZ
  refine z_astore_n (i := 3) (lv' := [(3, va_rf v22), (1, .long v18), (0, .ref this)]) hx hb dX11_digest_92 rfl hl (by decide) rfl ?_; clear hl; intro ls hl
  exact v_X11_digest_l93 n C hR n this v18 v22 w11 _ _ _ _ _ ⟨hZ.1, hZ.2.1, hZ.2.2.1, hZ.2.2.2.1, (List.forall_mem_cons.mpr ⟨⟨Nat.succ_ne_zero _, (fun q hq => by cases hq; exact (hZ.k 17 rfl rfl))⟩, (List.forall_mem_cons.mpr ⟨⟨Nat.succ_ne_zero _, (fun q hq => hZ.k 0 rfl hq)⟩, (fun _ hq => absurd hq List.not_mem_nil)⟩)⟩), hZ.2.2.2.2.2⟩ (lv_sub hl [2, 1, 0] rfl) hf

def f_L_below (n : Nat) (w : Wd) (p0 : Int32) (p1 : Int32) : Option (Int32 × Wd) :=
  wd_gd (p1 = 0) <|
  some (((p0 &&& (2147483647 : Int32)) - (p0 &&& (2147483647 : Int32)) / p1 * p1), w)
set_option maxHeartbeats 4000000 in
set_option maxRecDepth 100000 in
theorem c_L_below (l : Launch) (E : wd_E) (n : Nat) (w : Wd) (p0 : Int32) (p1 : Int32) (r' : Int32) (w' : Wd)  (hf : f_L_below n w p0 p1 = some (r', w')) : wd_C l E yL_below cL_below 2 (some .int) 0 0 [.int p0, .int p1] w (some (.int r')) w' True := by
  refine wd_ofW (own := RL) (nm := "below") (ks := []) (lv := [(0, .int p0), (1, .int p1)]) (by decide) rfl rfl (Nat.le_of_ble_eq_true rfl) rfl (fun _ hq => absurd hq List.not_mem_nil) ?_
  intro p e s m args below meth c R H locs cells slots ls C hR hZ hl
  obtain ⟨hx, hb, hr, hml, hts, hown, hlocks, hmn, hK⟩ := id C
  unfold f_L_below at hf
  refine lv_iload_n (i := 0) hx hb dL_below_0 rfl (lv_at hl 0 rfl) ?_
  refine lv_ldc (v := 2147483647) hx hb hown (hts _ tw_498) dL_below_1 ?_
  refine lv_iand hx hb dL_below_3 ?_
  refine lv_iload_n (i := 1) hx hb dL_below_4 rfl (lv_at hl 1 rfl) ?_
  have hf9 := wd_gd_e hf; clear hf; obtain ⟨h1, hf⟩ := hf9
  refine lv_irem hx hb dL_below_5 h1 ?_
  obtain ⟨rfl, rfl⟩ := Prod.mk.inj (Option.some.inj hf)
  exact z_iret hx hb hr hlocks hZ trivial dL_below_6

def f_L_cell (n : Nat) (w : Wd) (p0 : Option Nat) (p1 : Int32) : Option (Int32 × Wd) :=
  Option.bind p0 fun a1 =>
  if (Int32.ofNat (wd_N w a1)) ≤ p1 then
    some (((790386105 : Int32) * (p1 + (3 : Int32))), w)
  else
    wd_gd (p1 < 0 ∨ wd_N w a1 ≤ p1.toNatClampNeg) <|
    some ((wd_A w a1 p1.toNatClampNeg), w)
set_option maxHeartbeats 4000000 in
set_option maxRecDepth 100000 in
theorem c_L_cell (l : Launch) (E : wd_E) (n : Nat) (w : Wd) (p0 : Option Nat) (p1 : Int32) (r' : Int32) (w' : Wd) (k_p0 : ∀ q, p0 = some q → wd_K w q = 20) (hf : f_L_cell n w p0 p1 = some (r', w')) : wd_C l E yL_cell cL_cell 2 (some .int) 0 0 [va_rf p0, .int p1] w (some (.int r')) w' True := by
  refine wd_ofW (own := RL) (nm := "cell") (ks := [(p0, 20)]) (lv := [(0, va_rf p0), (1, .int p1)]) (by decide) rfl rfl (by simp [lg_sl, va_rf_cat, va_cat_r, va_cat_i, va_cat_l, va_cat_d]) (by simp [lv_args, va_rf_cat, va_cat_r, va_cat_i, va_cat_l, va_cat_d]) (List.forall_mem_cons.mpr ⟨⟨Nat.succ_ne_zero _, k_p0⟩, (fun _ hq => absurd hq List.not_mem_nil)⟩) ?_
  intro p e s m args below meth c R H locs cells slots ls C hR hZ hl
  obtain ⟨hx, hb, hr, hml, hts, hown, hlocks, hmn, hK⟩ := id C
  unfold f_L_cell at hf
  refine lv_iload_n (i := 1) hx hb dL_cell_0 rfl (lv_at hl 1 rfl) ?_
  refine z_aload_n (i := 0) hx hb dL_cell_1 rfl (lv_at hl 0 rfl) ?_
  have hf9 := Option.bind_eq_some_iff.mp hf; clear hf; obtain ⟨a1, ha1, hf⟩ := hf9
  subst ha1
  replace hl : lv_has ls 2 [(0, .ref a1), (1, .int p1)] := hl
  replace hZ : wd_Z E w R s w H locs cells slots [(some a1, 20)] := hZ
  refine z_alen0 hx hb hK hZ (hZ.k 0 rfl rfl) dL_cell_2 ?_
  refine lv_icmp_ge (tgt := 12) hx hb dL_cell_3 (by decide) (fun h2 => ?_) (fun h2 => ?_)
  · replace hf := wd_ite_p h2 hf
    refine lv_ldc (v := 790386105) hx hb hown (hts _ tw_502) dL_cell_12 ?_
    refine lv_iload_n (i := 1) hx hb dL_cell_14 rfl (lv_at hl 1 rfl) ?_
    refine lv_iconst (v := 3) hx hb dL_cell_15 (by decide) ?_
    refine lv_iadd hx hb dL_cell_16 ?_
    refine lv_imul hx hb dL_cell_17 ?_
    obtain ⟨rfl, rfl⟩ := Prod.mk.inj (Option.some.inj hf)
    exact z_iret hx hb hr hlocks hZ trivial dL_cell_18
  · replace hf := wd_ite_n h2 hf
    refine lv_aload_n (i := 0) hx hb dL_cell_6 rfl (lv_at hl 0 rfl) ?_
    refine lv_iload_n (i := 1) hx hb dL_cell_7 rfl (lv_at hl 1 rfl) ?_
    have hf9 := wd_gd_e hf; clear hf; obtain ⟨h3, hf⟩ := hf9
    refine z_iald0 hx hb hK hZ (hZ.k 0 rfl rfl) h3 dL_cell_8 ?_
    refine lv_goto (tgt := 18) hx hb dL_cell_9 (by decide) ?_
    obtain ⟨rfl, rfl⟩ := Prod.mk.inj (Option.some.inj hf)
    exact z_iret hx hb hr hlocks hZ trivial dL_cell_18

def f_L_addressOf_l2 (n : Nat) (rec2 : Option Nat → Int32 → Int32 → Wd → Option (Int32 × Wd)) (x0 : Option Nat) (x1 : Int32) (x2 : Int32) (w : Wd) : Option (Int32 × Wd) :=
  if (32 : Int32) ≤ x2 then
    wd_b2 (f_L_below n w x1 (256 : Int32)) fun r4 w2 =>
    some (r4, w2)
  else
    wd_b2 (f_L_below n w x1 (32 : Int32)) fun r7 w5 =>
    Option.bind x0 fun a8 =>
    wd_gd (((r7 + x2) - (r7 + x2) / (32 : Int32) * (32 : Int32)) < 0 ∨ wd_N w5 a8 ≤ ((r7 + x2) - (r7 + x2) / (32 : Int32) * (32 : Int32)).toNatClampNeg) <|
    Option.bind (wd_Q w5 a8 ((r7 + x2) - (r7 + x2) / (32 : Int32) * (32 : Int32)).toNatClampNeg) fun a10 =>
    wd_gd ((1 : Int32) < 0 ∨ wd_N w5 a10 ≤ (1 : Int32).toNatClampNeg) <|
    if (wd_A w5 a10 (1 : Int32).toNatClampNeg) < 0 then
      wd_let (x2 + 1) fun v13 =>
      rec2 (some a8) x1 v13 w5
    else
      wd_b2 (f_L_below n w5 x1 (32 : Int32)) fun r17 w15 =>
      wd_gd (((r17 + x2) - (r17 + x2) / (32 : Int32) * (32 : Int32)) < 0 ∨ wd_N w15 a8 ≤ ((r17 + x2) - (r17 + x2) / (32 : Int32) * (32 : Int32)).toNatClampNeg) <|
      Option.bind (wd_Q w15 a8 ((r17 + x2) - (r17 + x2) / (32 : Int32) * (32 : Int32)).toNatClampNeg) fun a19 =>
      wd_gd ((1 : Int32) < 0 ∨ wd_N w15 a19 ≤ (1 : Int32).toNatClampNeg) <|
      some ((wd_A w15 a19 (1 : Int32).toNatClampNeg), w15)
def f_L_addressOf (n : Nat) (w : Wd) (p0 : Option Nat) (p1 : Int32) : Option (Int32 × Wd) :=
  wd_lp4 (f_L_addressOf_l2 n) n p0 p1 (0 : Int32) w
set_option maxHeartbeats 4000000 in
set_option maxRecDepth 100000 in
theorem v_L_addressOf_b2 {p : Program} {l : Launch} {e : Env} {R : Room} {s : State} {m : MethodId} {args : Array Value} {below : List Frame} {meth : Method} {c : Code} {E : wd_E} {w0 : Wd} {r' : Int32} {w' : Wd} (n : Nat) (C : wd_X p s m args meth c cL_addressOf RL 3 (some .int) "addressOf" E) (hR : 1 ≤ R.frames ∧ 21 ≤ R.locals) (rec2 : Option Nat → Int32 → Int32 → Wd → Option (Int32 × Wd)) (hrec2 : ∀ (x0_ : Option Nat) (x1_ : Int32) (x2_ : Int32) (w_ : Wd) (H : Heap) (locs : List Loc) (cells slots : Nat) (ls : Array Slot), wd_Z E w0 R s w_ H locs cells slots [(x0_, 26)] → lv_has ls 3 [(0, va_rf x0_), (1, .int x1_), (2, .int x2_)] → rec2 x0_ x1_ x2_ w_ = some (r', w') → W p l e R s m args below meth c H locs cells slots (wd_fin E w0 (some (.int r')) w' True R args s below) (F0 m 2 ls [])) (x0 : Option Nat) (x1 : Int32) (x2 : Int32) (w : Wd) (H : Heap) (locs : List Loc) (cells slots : Nat) (ls : Array Slot) (hZ : wd_Z E w0 R s w H locs cells slots [(x0, 26)]) (hl : lv_has ls 3 [(0, va_rf x0), (1, .int x1), (2, .int x2)]) (hf : f_L_addressOf_l2 n rec2 x0 x1 x2 w = some (r', w')) : W p l e R s m args below meth c H locs cells slots (wd_fin E w0 (some (.int r')) w' True R args s below) (F0 m 2 ls []) := by
  obtain ⟨hx, hb, hr, hml, hts, hown, hlocks, hmn, hK⟩ := id C
  unfold f_L_addressOf_l2 at hf
  refine lv_iload_n (i := 2) hx hb dL_addressOf_2 rfl (lv_at hl 2 rfl) ?_
  refine lv_bipush (v := 32) hx hb dL_addressOf_3 (by decide) ?_
  refine lv_icmp_ge (tgt := 48) hx hb dL_addressOf_5 (by decide) (fun h1 => ?_) (fun h1 => ?_)
  · replace hf := wd_ite_p h1 hf
    refine lv_iload_n (i := 1) hx hb dL_addressOf_48 rfl (lv_at hl 1 rfl) ?_
    refine lv_sipush (v := 256) hx hb dL_addressOf_49 (by decide) ?_
    have hf9 := wd_b2_e hf; clear hf; obtain ⟨r4, w2, hc3, hf⟩ := hf9
    refine z_callS (As := [.int x1, .int (256 : Int32)]) (rest := []) (c_L_below l E n w x1 (256 : Int32) r4 w2  hc3) mo_L_below tw_496 tw_495 hx hb hml hts hown hK ⟨Nat.le_trans (by decide) hR.1, Nat.le_trans (by decide) hR.2⟩ hZ rfl hl.1 rfl (Nat.le_of_ble_eq_true rfl) rfl dL_addressOf_52 ?_; clear hZ; intro H locs cells slots hX hZ
    obtain ⟨rfl, rfl⟩ := Prod.mk.inj (Option.some.inj hf)
    exact z_iret hx hb hr hlocks hZ trivial dL_addressOf_55
  · replace hf := wd_ite_n h1 hf
    refine z_aload_n (i := 0) hx hb dL_addressOf_8 rfl (lv_at hl 0 rfl) ?_
    refine lv_iload_n (i := 1) hx hb dL_addressOf_9 rfl (lv_at hl 1 rfl) ?_
    refine lv_bipush (v := 32) hx hb dL_addressOf_10 (by decide) ?_
    have hf9 := wd_b2_e hf; clear hf; obtain ⟨r7, w5, hc6, hf⟩ := hf9
    refine z_callS (As := [.int x1, .int (32 : Int32)]) (rest := [va_rf x0]) (c_L_below l E n w x1 (32 : Int32) r7 w5  hc6) mo_L_below tw_496 tw_495 hx hb hml hts hown hK ⟨Nat.le_trans (by decide) hR.1, Nat.le_trans (by decide) hR.2⟩ hZ rfl hl.1 rfl (by simp [va_rf_cat, va_cat_r, va_cat_i, va_cat_l, va_cat_d]) rfl dL_addressOf_12 ?_; clear hZ; intro H locs cells slots hX hZ
    refine lv_iload_n (i := 2) hx hb dL_addressOf_15 rfl (lv_at hl 2 rfl) ?_
    refine lv_iadd hx hb dL_addressOf_16 ?_
    refine lv_bipush (v := 32) hx hb dL_addressOf_17 (by decide) ?_
    refine lv_irem hx hb dL_addressOf_19 (by decide) ?_
    have hf9 := Option.bind_eq_some_iff.mp hf; clear hf; obtain ⟨a8, ha8, hf⟩ := hf9
    subst ha8
    replace hl : lv_has ls 3 [(0, .ref a8), (1, .int x1), (2, .int x2)] := hl
    replace hZ : wd_Z E w0 R s w5 H locs cells slots [(some a8, 26)] := hZ
    have hf9 := wd_gd_e hf; clear hf; obtain ⟨h9, hf⟩ := hf9
    refine z_aald (k := 26) (by decide) (by decide) (tk := 20) rfl hx hb hK hZ (hZ.k 0 rfl rfl) h9 dL_addressOf_20 ?_; clear hZ; intro hZ
    refine lv_iconst (v := 1) hx hb dL_addressOf_21 (by decide) ?_
    have hf9 := Option.bind_eq_some_iff.mp hf; clear hf; obtain ⟨a10, ha10, hf⟩ := hf9
    replace hZ := hZ.add (r := some a10) (k := 21) (Nat.succ_ne_zero _) (fun q hq => by cases hq; exact hZ.k 0 rfl ha10)
    rw [ha10]
    have hf9 := wd_gd_e hf; clear hf; obtain ⟨h11, hf⟩ := hf9
    refine z_iald hx hb hK hZ (hZ.k 0 rfl rfl) h11 dL_addressOf_22 ?_
    refine lv_if_lt (tgt := 42) hx hb dL_addressOf_23 (by decide) (fun h12 => ?_) (fun h12 => ?_)
    · replace hf := wd_ite_p h12 hf
      have hf9 := wd_let_e hf; clear hf; obtain ⟨v13, e14, hf⟩ := hf9
      refine lv_iinc (k := 2) (v := v13) (lv' := [(2, .int v13), (0, .ref a8), (1, .int x1)]) hx hb dL_addressOf_42 hl rfl (by rw [← e14]; rfl) (by decide) rfl ?_; clear hl; intro ls hl
      refine lv_goto (tgt := 2) hx hb dL_addressOf_45 (by decide) ?_
      exact hrec2 (some a8) x1 v13 w5 _ _ _ _ _ ⟨hZ.1, hZ.2.1, hZ.2.2.1, hZ.2.2.2.1, (List.forall_mem_cons.mpr ⟨⟨Nat.succ_ne_zero _, (fun q hq => by cases hq; exact (hZ.k 2 rfl rfl))⟩, (fun _ hq => absurd hq List.not_mem_nil)⟩), hZ.2.2.2.2.2⟩ (lv_sub hl [1, 2, 0] rfl) hf
    · replace hf := wd_ite_n h12 hf
      refine lv_aload_n (i := 0) hx hb dL_addressOf_26 rfl (lv_at hl 0 rfl) ?_
      refine lv_iload_n (i := 1) hx hb dL_addressOf_27 rfl (lv_at hl 1 rfl) ?_
      refine lv_bipush (v := 32) hx hb dL_addressOf_28 (by decide) ?_
      have hf9 := wd_b2_e hf; clear hf; obtain ⟨r17, w15, hc16, hf⟩ := hf9
      refine z_callS (As := [.int x1, .int (32 : Int32)]) (rest := [.ref a8]) (c_L_below l E n w5 x1 (32 : Int32) r17 w15  hc16) mo_L_below tw_496 tw_495 hx hb hml hts hown hK ⟨Nat.le_trans (by decide) hR.1, Nat.le_trans (by decide) hR.2⟩ hZ rfl hl.1 rfl (Nat.le_of_ble_eq_true rfl) rfl dL_addressOf_30 ?_; clear hZ; intro H locs cells slots hX hZ
      refine lv_iload_n (i := 2) hx hb dL_addressOf_33 rfl (lv_at hl 2 rfl) ?_
      refine lv_iadd hx hb dL_addressOf_34 ?_
      refine lv_bipush (v := 32) hx hb dL_addressOf_35 (by decide) ?_
      refine lv_irem hx hb dL_addressOf_37 (by decide) ?_
      have hf9 := wd_gd_e hf; clear hf; obtain ⟨h18, hf⟩ := hf9
      refine z_aald (k := 26) (by decide) (by decide) (tk := 20) rfl hx hb hK hZ (hZ.k 2 rfl rfl) h18 dL_addressOf_38 ?_; clear hZ; intro hZ
      refine lv_iconst (v := 1) hx hb dL_addressOf_39 (by decide) ?_
      have hf9 := Option.bind_eq_some_iff.mp hf; clear hf; obtain ⟨a19, ha19, hf⟩ := hf9
      replace hZ := hZ.add (r := some a19) (k := 21) (Nat.succ_ne_zero _) (fun q hq => by cases hq; exact hZ.k 0 rfl ha19)
      rw [ha19]
      have hf9 := wd_gd_e hf; clear hf; obtain ⟨h20, hf⟩ := hf9
      refine z_iald hx hb hK hZ (hZ.k 0 rfl rfl) h20 dL_addressOf_40 ?_
      obtain ⟨rfl, rfl⟩ := Prod.mk.inj (Option.some.inj hf)
      exact z_iret hx hb hr hlocks hZ trivial dL_addressOf_41

theorem v_L_addressOf_l2 {p : Program} {l : Launch} {e : Env} {R : Room} {s : State} {m : MethodId} {args : Array Value} {below : List Frame} {meth : Method} {c : Code} {E : wd_E} {w0 : Wd} {r' : Int32} {w' : Wd} (n : Nat) (C : wd_X p s m args meth c cL_addressOf RL 3 (some .int) "addressOf" E) (hR : 1 ≤ R.frames ∧ 21 ≤ R.locals) : ∀ (k : Nat) (x0 : Option Nat) (x1 : Int32) (x2 : Int32) (w : Wd) (H : Heap) (locs : List Loc) (cells slots : Nat) (ls : Array Slot), wd_Z E w0 R s w H locs cells slots [(x0, 26)] → lv_has ls 3 [(0, va_rf x0), (1, .int x1), (2, .int x2)] → wd_lp4 (f_L_addressOf_l2 n) k x0 x1 x2 w = some (r', w') → W p l e R s m args below meth c H locs cells slots (wd_fin E w0 (some (.int r')) w' True R args s below) (F0 m 2 ls []) := by
  intro k
  induction k with
  | zero => intro _ _ _ _ _ _ _ _ _ _ _ hf; cases hf
  | succ k ih =>
    intro x0 x1 x2 w H locs cells slots ls hZ hl hf
    exact v_L_addressOf_b2 n C hR (wd_lp4 (f_L_addressOf_l2 n) k) ih x0 x1 x2 w H locs cells slots ls hZ hl hf

set_option maxHeartbeats 4000000 in
set_option maxRecDepth 100000 in
theorem c_L_addressOf (l : Launch) (E : wd_E) (n : Nat) (w : Wd) (p0 : Option Nat) (p1 : Int32) (r' : Int32) (w' : Wd) (k_p0 : ∀ q, p0 = some q → wd_K w q = 26) (hf : f_L_addressOf n w p0 p1 = some (r', w')) : wd_C l E yL_addressOf cL_addressOf 3 (some .int) 1 21 [va_rf p0, .int p1] w (some (.int r')) w' True := by
  refine wd_ofW (own := RL) (nm := "addressOf") (ks := [(p0, 26)]) (lv := [(0, va_rf p0), (1, .int p1)]) (by decide) rfl rfl (by simp [lg_sl, va_rf_cat, va_cat_r, va_cat_i, va_cat_l, va_cat_d]) (by simp [lv_args, va_rf_cat, va_cat_r, va_cat_i, va_cat_l, va_cat_d]) (List.forall_mem_cons.mpr ⟨⟨Nat.succ_ne_zero _, k_p0⟩, (fun _ hq => absurd hq List.not_mem_nil)⟩) ?_
  intro p e s m args below meth c R H locs cells slots ls C hR hZ hl
  obtain ⟨hx, hb, hr, hml, hts, hown, hlocks, hmn, hK⟩ := id C
  unfold f_L_addressOf at hf
  refine lv_iconst (v := 0) hx hb dL_addressOf_0 (by decide) ?_
  refine lv_istore_n (i := 2) (lv' := [(2, .int (0 : Int32)), (0, va_rf p0), (1, .int p1)]) hx hb dL_addressOf_1 rfl hl (by decide) rfl ?_; clear hl; intro ls hl
  exact v_L_addressOf_l2 n C hR n p0 p1 (0 : Int32) w _ _ _ _ _ ⟨hZ.1, hZ.2.1, hZ.2.2.1, hZ.2.2.2.1, (List.forall_mem_cons.mpr ⟨⟨Nat.succ_ne_zero _, (fun q hq => hZ.k 0 rfl hq)⟩, (fun _ hq => absurd hq List.not_mem_nil)⟩), hZ.2.2.2.2.2⟩ (lv_sub hl [1, 2, 0] rfl) hf

def hh_L_act : List (Nat × Nat × Nat × Nat) := [(30, 155, 688, 103), (156, 173, 688, 103), (174, 215, 688, 103), (216, 260, 688, 103), (261, 408, 688, 103), (409, 493, 688, 103), (494, 526, 688, 103), (527, 577, 688, 103), (578, 623, 688, 103), (624, 685, 688, 103), (30, 155, 714, 105), (156, 173, 714, 105), (174, 215, 714, 105), (216, 260, 714, 105), (261, 408, 714, 105), (409, 493, 714, 105), (494, 526, 714, 105), (527, 577, 714, 105), (578, 623, 714, 105), (624, 685, 714, 105), (30, 155, 740, 107), (156, 173, 740, 107), (174, 215, 740, 107), (216, 260, 740, 107), (261, 408, 740, 107), (409, 493, 740, 107), (494, 526, 740, 107), (527, 577, 740, 107), (578, 623, 740, 107), (624, 685, 740, 107)]
def f_L_act_j154 (n : Nat) (w : Wd) : Option (Int32 × Wd) :=
  some ((0 : Int32), w)
def f_L_act_j764 (n : Nat) (w : Wd) : Option (Int32 × Wd) :=
  some ((0 : Int32), w)
def f_L_act_j96 (n : Nat) (x0 : Option Nat) (x1 : Int32) (x2 : Option Nat) (x3 : Int32) (x4 : Int32) (x5 : Int32) (w : Wd) : Option (Int32 × Wd) :=
  wd_b2 (f_L_below n w (x1 >>> ((6 : Int32) &&& 31)) (2 : Int32)) fun r25 w23 =>
  wd_b2 (f_L_below n w23 (x1 >>> ((8 : Int32) &&& 31)) (12 : Int32)) fun r28 w26 =>
  wd_let (((16 : Int32) * ((1 : Int32) + r25)) + r28) fun v29 =>
  Option.bind x0 fun a31 =>
  wd_b2 (f_X11_addPort n w26 a31 x3 r25 v29 (4 : Int32)) fun o34 w32 =>
  wd_ox o34 (
    wd_b2 (f_X11_packets n w32 a31) fun r56 w54 =>
    if r56 = x4 then
      wd_b2 (f_X11_frames n w54 a31) fun r60 w58 =>
      if r60 = x5 then
        some ((1 : Int32), w58)
      else
        f_L_act_j764 n w58
    else
      f_L_act_j764 n w54)
    (fun r35 =>
    Option.bind x2 fun a37 =>
    wd_gd (r35 < 0 ∨ wd_N w32 a37 ≤ r35.toNatClampNeg) <|
    Option.bind (wd_Q w32 a37 r35.toNatClampNeg) fun a39 =>
    wd_gd ((1 : Int32) < 0 ∨ wd_N w32 a39 ≤ (1 : Int32).toNatClampNeg) <|
    if 0 ≤ (wd_A w32 a39 (1 : Int32).toNatClampNeg) then
      f_L_act_j154 n w32
    else
      if (r35 / (4 : Int32)) = x3 then
        wd_gd (r35 < 0 ∨ wd_N w32 a37 ≤ r35.toNatClampNeg) <|
        Option.bind (wd_Q w32 a37 r35.toNatClampNeg) fun a44 =>
        wd_gd ((0 : Int32) < 0 ∨ wd_N w32 a44 ≤ (0 : Int32).toNatClampNeg) <|
        wd_let (wd_sA w32 a44 (0 : Int32).toNatClampNeg r25) fun w46 =>
        wd_gd (r35 < 0 ∨ wd_N w46 a37 ≤ r35.toNatClampNeg) <|
        Option.bind (wd_Q w46 a37 r35.toNatClampNeg) fun a49 =>
        wd_gd ((1 : Int32) < 0 ∨ wd_N w46 a49 ≤ (1 : Int32).toNatClampNeg) <|
        wd_let (wd_sA w46 a49 (1 : Int32).toNatClampNeg v29) fun w51 =>
        some ((1 : Int32), w51)
      else
        f_L_act_j154 n w32)
def f_L_act_j259 (n : Nat) (w : Wd) : Option (Int32 × Wd) :=
  some ((0 : Int32), w)
def f_L_act_j407 (n : Nat) (w : Wd) : Option (Int32 × Wd) :=
  some ((0 : Int32), w)
def f_L_act_j383 (n : Nat) (w : Wd) : Option (Int32 × Wd) :=
  some ((0 : Int32), w)
def f_L_act_j350 (n : Nat) (y0 : Int32) (y1 : Int32) (y2 : Int32) (y3 : Int32) (y4 : Int32) (y5 : Int32) (y6 : Option Nat) (x0 : Option Nat) (x4 : Int32) (x5 : Int32) (w : Wd) : Option (Int32 × Wd) :=
  Option.bind y6 fun a147 =>
  wd_b2 (f_X11_send n w a147 y5 y4 y3 y2 y1 y0) fun r150 w148 =>
  if r150 = (-1 : Int32) then
    Option.bind x0 fun a158 =>
    wd_b2 (f_X11_packets n w148 a158) fun r161 w159 =>
    if r161 = x4 then
      wd_b2 (f_X11_frames n w159 a158) fun r165 w163 =>
      if r165 = x5 then
        some ((1 : Int32), w163)
      else
        f_L_act_j383 n w163
    else
      f_L_act_j383 n w159
  else
    if r150 = x4 then
      Option.bind x0 fun a153 =>
      wd_b2 (f_X11_packets n w148 a153) fun r156 w154 =>
      if r156 ≤ x4 then
        f_L_act_j407 n w154
      else
        some ((1 : Int32), w154)
    else
      f_L_act_j407 n w148
def f_L_act_j315 (n : Nat) (y0 : Int32) (y1 : Int32) (y2 : Int32) (y3 : Option Nat) (x0 : Option Nat) (x1 : Int32) (x4 : Int32) (x5 : Int32) (w : Wd) : Option (Int32 × Wd) :=
  wd_b2 (f_L_below n w (x1 >>> ((8 : Int32) &&& 31)) (60 : Int32)) fun r139 w137 =>
  wd_b2 (f_L_below n w137 (x1 >>> ((5 : Int32) &&& 31)) (6 : Int32)) fun r142 w140 =>
  wd_b2 (f_L_below n w140 (x1 >>> ((6 : Int32) &&& 31)) (3 : Int32)) fun r145 w143 =>
  if r145 = 0 then
    f_L_act_j350 n (1 : Int32) ((1 : Int32) + r142) r139 y0 y1 y2 y3 x0 x4 x5 w143
  else
    f_L_act_j350 n (0 : Int32) ((1 : Int32) + r142) r139 y0 y1 y2 y3 x0 x4 x5 w143
def f_L_act_j293 (n : Nat) (y0 : Int32) (x0 : Option Nat) (x1 : Int32) (x3 : Int32) (x4 : Int32) (x5 : Int32) (w : Wd) : Option (Int32 × Wd) :=
  wd_b2 (f_L_below n w (x1 >>> ((7 : Int32) &&& 31)) (2 : Int32)) fun r135 w133 =>
  if r135 = 0 then
    f_L_act_j315 n (1 : Int32) y0 x3 x0 x0 x1 x4 x5 w133
  else
    f_L_act_j315 n (0 : Int32) y0 x3 x0 x0 x1 x4 x5 w133
def f_L_act_j261 (n : Nat) (x0 : Option Nat) (x1 : Int32) (x2 : Option Nat) (x3 : Int32) (x4 : Int32) (x5 : Int32) (w : Wd) : Option (Int32 × Wd) :=
  wd_b2 (f_L_below n w (x1 >>> ((9 : Int32) &&& 31)) (6 : Int32)) fun r128 w126 =>
  if r128 = 0 then
    wd_b2 (f_L_below n w126 (x1 >>> ((5 : Int32) &&& 31)) (256 : Int32)) fun r169 w167 =>
    f_L_act_j293 n r169 x0 x1 x3 x4 x5 w167
  else
    wd_b2 (f_L_addressOf n w126 x2 (x1 >>> ((6 : Int32) &&& 31))) fun r132 w130 =>
    f_L_act_j293 n r132 x0 x1 x3 x4 x5 w130
def f_L_act_j492 (n : Nat) (w : Wd) : Option (Int32 × Wd) :=
  some ((0 : Int32), w)
def f_L_act_j488 (n : Nat) (w : Wd) : Option (Int32 × Wd) :=
  some ((1 : Int32), w)
def f_L_act_j409 (n : Nat) (x0 : Option Nat) (x1 : Int32) (x6 : Int64) (w : Wd) : Option (Int32 × Wd) :=
  wd_b2 (f_L_below n w (x1 >>> ((6 : Int32) &&& 31)) (12 : Int32)) fun r175 w173 =>
  Option.bind x0 fun a176 =>
  wd_b2 (f_X11_step n w173 a176 ((1 : Int32) + r175)) fun r179 w177 =>
  wd_b2 (f_X11_frames n w177 a176) fun r182 w180 =>
  if r179 = r182 then
    wd_b2 (f_X11_steps n w180 a176) fun r186 w184 =>
    wd_b2 (f_L_below n w184 (x1 >>> ((6 : Int32) &&& 31)) (12 : Int32)) fun r189 w187 =>
    if 0 < (lg_cmp (r186.toInt64 - x6) (((1 : Int32) + r189).toInt64)) then
      f_L_act_j492 n w187
    else
      if r179 = 0 then
        f_L_act_j488 n w187
      else
        wd_b2 (f_X11_steps n w187 a176) fun r194 w192 =>
        wd_b2 (f_L_below n w192 (x1 >>> ((6 : Int32) &&& 31)) (12 : Int32)) fun r197 w195 =>
        if (lg_cmp (r194.toInt64 - x6) (((1 : Int32) + r197).toInt64)) = 0 then
          f_L_act_j488 n w195
        else
          f_L_act_j492 n w195
  else
    f_L_act_j492 n w180
def f_L_act_j576 (n : Nat) (w : Wd) : Option (Int32 × Wd) :=
  some ((0 : Int32), w)
def f_L_act_j525 (n : Nat) (w : Wd) : Option (Int32 × Wd) :=
  some ((0 : Int32), w)
def f_L_act_j685 (n : Nat) (w : Wd) : Option (Int32 × Wd) :=
  some ((1 : Int32), w)
def f_L_act_j681 (n : Nat) (y0 : Int32) (y1 : Int32) (y2 : Option Nat) (w : Wd) : Option (Int32 × Wd) :=
  Option.bind y2 fun a244 =>
  wd_b2 (f_X11_setForwarding n w a244 y1 y0) fun r247 w245 =>
  f_L_act_j685 n w245
def f_L_act_j606 (n : Nat) (y0 : Int32) (y1 : Option Nat) (x0 : Option Nat) (x4 : Int32) (x5 : Int32) (w : Wd) : Option (Int32 × Wd) :=
  Option.bind y1 fun a261 =>
  wd_b2 (f_X11_addMachine n w a261 y0) fun o264 w262 =>
  wd_ox o264 (
    Option.bind x0 fun a273 =>
    wd_b2 (f_X11_packets n w262 a273) fun r276 w274 =>
    if r276 = x4 then
      wd_b2 (f_X11_frames n w274 a273) fun r280 w278 =>
      if r280 = x5 then
        some ((1 : Int32), w278)
      else
        f_L_act_j764 n w278
    else
      f_L_act_j764 n w274)
    (fun r265 =>
    Option.bind x0 fun a267 =>
    wd_b2 (f_X11_machines n w262 a267) fun r270 w268 =>
    if r265 = (r270 - (1 : Int32)) then
      some ((1 : Int32), w268)
    else
      some ((0 : Int32), w268))
def f_L_act (n : Nat) (w : Wd) (p0 : Option Nat) (p1 : Int32) (p2 : Option Nat) : Option (Int32 × Wd) :=
  Option.bind p0 fun a1 =>
  wd_b2 (f_X11_machines n w a1) fun r4 w2 =>
  wd_b2 (f_L_below n w2 (p1 >>> ((4 : Int32) &&& 31)) r4) fun r7 w5 =>
  wd_b2 (f_X11_packets n w5 a1) fun r10 w8 =>
  wd_b2 (f_X11_frames n w8 a1) fun r13 w11 =>
  wd_b2 (f_X11_steps n w11 a1) fun r16 w14 =>
  wd_let r16.toInt64 fun v17 =>
  wd_b2 (f_L_below n w14 p1 (12 : Int32)) fun r21 w19 =>
  if r21 = 0 then
    f_L_act_j96 n (some a1) p1 p2 r7 r10 r13 w19
  else if r21 = 1 then
    f_L_act_j96 n (some a1) p1 p2 r7 r10 r13 w19
  else if r21 = 2 then
    wd_b2 (f_L_below n w19 (p1 >>> ((5 : Int32) &&& 31)) (4 : Int32)) fun r66 w64 =>
    wd_b2 (f_L_below n w64 (p1 >>> ((7 : Int32) &&& 31)) (5 : Int32)) fun r69 w67 =>
    wd_b2 (f_L_addressOf n w67 p2 (p1 >>> ((6 : Int32) &&& 31))) fun r72 w70 =>
    wd_b2 (f_X11_addRoute n w70 a1 r7 ((16 : Int32) * r66) r69 r72) fun o75 w73 =>
    wd_ox o75 (
      wd_b2 (f_X11_packets n w73 a1) fun r82 w80 =>
      if r82 = r10 then
        wd_b2 (f_X11_frames n w80 a1) fun r86 w84 =>
        if r86 = r13 then
          some ((1 : Int32), w84)
        else
          f_L_act_j764 n w84
      else
        f_L_act_j764 n w80)
      (fun r76 =>
      if (6 : Int32) ≤ r76 then
        some ((0 : Int32), w73)
      else
        some ((1 : Int32), w73))
  else if r21 = 3 then
    wd_b2 (f_L_addressOf n w19 p2 (p1 >>> ((6 : Int32) &&& 31))) fun r91 w89 =>
    wd_b2 (f_X11_addTunnel n w89 a1 r7 r91) fun o94 w92 =>
    wd_ox o94 (
      wd_b2 (f_X11_packets n w92 a1) fun r119 w117 =>
      if r119 = r10 then
        wd_b2 (f_X11_frames n w117 a1) fun r123 w121 =>
        if r123 = r13 then
          some ((1 : Int32), w121)
        else
          f_L_act_j764 n w121
      else
        f_L_act_j764 n w117)
      (fun r95 =>
      if (2 : Int32) ≤ r95 then
        f_L_act_j259 n w92
      else
        wd_b2 (f_L_below n w92 (p1 >>> ((5 : Int32) &&& 31)) (4 : Int32)) fun r100 w98 =>
        wd_b2 (f_X11_addRoute n w98 a1 r7 ((16 : Int32) * r100) (4 : Int32) (-1 : Int32)) fun o103 w101 =>
        wd_ox o103 (
          wd_b2 (f_X11_packets n w101 a1) fun r110 w108 =>
          if r110 = r10 then
            wd_b2 (f_X11_frames n w108 a1) fun r114 w112 =>
            if r114 = r13 then
              some ((1 : Int32), w112)
            else
              f_L_act_j764 n w112
          else
            f_L_act_j764 n w108)
          (fun r104 =>
          if (6 : Int32) ≤ r104 then
            f_L_act_j259 n w101
          else
            some ((1 : Int32), w101)))
  else if r21 = 4 then
    f_L_act_j261 n (some a1) p1 p2 r7 r10 r13 w19
  else if r21 = 5 then
    f_L_act_j261 n (some a1) p1 p2 r7 r10 r13 w19
  else if r21 = 6 then
    f_L_act_j261 n (some a1) p1 p2 r7 r10 r13 w19
  else if r21 = 7 then
    f_L_act_j409 n (some a1) p1 v17 w19
  else if r21 = 8 then
    f_L_act_j409 n (some a1) p1 v17 w19
  else if r21 = 9 then
    f_L_act_j409 n (some a1) p1 v17 w19
  else if r21 = 10 then
    wd_b2 (f_L_below n w19 (p1 >>> ((6 : Int32) &&& 31)) (2 : Int32)) fun r204 w202 =>
    if r204 = 0 then
      wd_b2 (f_X11_forget n w202 a1 r7) fun r226 w224 =>
      if r226 < 0 then
        f_L_act_j525 n w224
      else
        wd_b2 (f_X11_forget n w224 a1 r7) fun r230 w228 =>
        if r230 = 0 then
          some ((1 : Int32), w228)
        else
          f_L_act_j525 n w228
    else
      wd_b2 (f_X11_waiting n w202 a1 r7) fun r208 w206 =>
      wd_b2 (f_X11_gone n w206 a1) fun r211 w209 =>
      wd_b2 (f_X11_giveUp n w209 a1 r7) fun r214 w212 =>
      if r214 = r208 then
        wd_b2 (f_X11_waiting n w212 a1 r7) fun r218 w216 =>
        if r208 < r218 then
          f_L_act_j576 n w216
        else
          wd_b2 (f_X11_gone n w216 a1) fun r222 w220 =>
          if r222 < (r211 + r208) then
            f_L_act_j576 n w220
          else
            some ((1 : Int32), w220)
      else
        f_L_act_j576 n w212
  else 
    wd_b2 (f_L_below n w19 (p1 >>> ((6 : Int32) &&& 31)) (3 : Int32)) fun r234 w232 =>
    if r234 = 0 then
      wd_b2 (f_L_below n w232 (p1 >>> ((8 : Int32) &&& 31)) (3 : Int32)) fun r259 w257 =>
      if r259 ≤ 0 then
        f_L_act_j606 n (0 : Int32) (some a1) (some a1) r10 r13 w257
      else
        f_L_act_j606 n (1 : Int32) (some a1) (some a1) r10 r13 w257
    else
      wd_b2 (f_L_below n w232 (p1 >>> ((6 : Int32) &&& 31)) (3 : Int32)) fun r238 w236 =>
      if r238 = (1 : Int32) then
        wd_b2 (f_L_below n w236 (p1 >>> ((8 : Int32) &&& 31)) (2 : Int32)) fun r250 w248 =>
        wd_b2 (f_L_below n w248 (p1 >>> ((5 : Int32) &&& 31)) (60 : Int32)) fun r253 w251 =>
        wd_b2 (f_X11_setWidth n w251 a1 r250 ((12 : Int32) + r253)) fun r256 w254 =>
        f_L_act_j685 n w254
      else
        wd_b2 (f_L_below n w236 (p1 >>> ((8 : Int32) &&& 31)) (3 : Int32)) fun r242 w240 =>
        if r242 ≤ 0 then
          f_L_act_j681 n (0 : Int32) r7 (some a1) w240
        else
          f_L_act_j681 n (1 : Int32) r7 (some a1) w240
set_option maxHeartbeats 4000000 in
set_option maxRecDepth 100000 in
theorem v_L_act_j154 {p : Program} {l : Launch} {e : Env} {R : Room} {s : State} {m : MethodId} {args : Array Value} {below : List Frame} {meth : Method} {c : Code} {E : wd_E} {w0 : Wd} {r' : Int32} {w' : Wd} (n : Nat) (C : wd_X p s m args meth c cL_act RL 16 (some .boolean) "act" E) (hR : 8 ≤ R.frames ∧ 205 ≤ R.locals) (hst : l.stackTraces = false) (htab : c.exceptionTable.toList = tableOf hh_L_act) (w : Wd) (H : Heap) (locs : List Loc) (cells slots : Nat) (ls : Array Slot) (hZ : wd_Z E w0 R s w H locs cells slots []) (hl : lv_has ls 16 []) (hf : f_L_act_j154 n w = some (r', w')) : W p l e R s m args below meth c H locs cells slots (wd_finW E w0 (some (.int r')) w' True R args s below) (F0 m 154 ls []) := by
  obtain ⟨hx, hb, hr, hml, hts, hown, hlocks, hmn, hK⟩ := id C
  unfold f_L_act_j154 at hf
  refine lv_iconst (v := 0) hx hb dL_act_154 (by decide) ?_
  obtain ⟨rfl, rfl⟩ := Prod.mk.inj (Option.some.inj hf)
  exact vx_ret (z_zret (by decide) hx hb hr hlocks hZ trivial dL_act_155)

set_option maxHeartbeats 4000000 in
set_option maxRecDepth 100000 in
theorem v_L_act_j764 {p : Program} {l : Launch} {e : Env} {R : Room} {s : State} {m : MethodId} {args : Array Value} {below : List Frame} {meth : Method} {c : Code} {E : wd_E} {w0 : Wd} {r' : Int32} {w' : Wd} (n : Nat) (C : wd_X p s m args meth c cL_act RL 16 (some .boolean) "act" E) (hR : 8 ≤ R.frames ∧ 205 ≤ R.locals) (hst : l.stackTraces = false) (htab : c.exceptionTable.toList = tableOf hh_L_act) (w : Wd) (H : Heap) (locs : List Loc) (cells slots : Nat) (ls : Array Slot) (hZ : wd_Z E w0 R s w H locs cells slots []) (hl : lv_has ls 16 []) (hf : f_L_act_j764 n w = some (r', w')) : W p l e R s m args below meth c H locs cells slots (wd_finW E w0 (some (.int r')) w' True R args s below) (F0 m 764 ls []) := by
  obtain ⟨hx, hb, hr, hml, hts, hown, hlocks, hmn, hK⟩ := id C
  unfold f_L_act_j764 at hf
  refine lv_iconst (v := 0) hx hb dL_act_764 (by decide) ?_
  obtain ⟨rfl, rfl⟩ := Prod.mk.inj (Option.some.inj hf)
  exact vx_ret (z_zret (by decide) hx hb hr hlocks hZ trivial dL_act_765)

set_option maxHeartbeats 4000000 in
set_option maxRecDepth 100000 in
theorem v_L_act_j96 {p : Program} {l : Launch} {e : Env} {R : Room} {s : State} {m : MethodId} {args : Array Value} {below : List Frame} {meth : Method} {c : Code} {E : wd_E} {w0 : Wd} {r' : Int32} {w' : Wd} (n : Nat) (C : wd_X p s m args meth c cL_act RL 16 (some .boolean) "act" E) (hR : 8 ≤ R.frames ∧ 205 ≤ R.locals) (hst : l.stackTraces = false) (htab : c.exceptionTable.toList = tableOf hh_L_act) (x0 : Option Nat) (x1 : Int32) (x2 : Option Nat) (x3 : Int32) (x4 : Int32) (x5 : Int32) (w : Wd) (H : Heap) (locs : List Loc) (cells slots : Nat) (ls : Array Slot) (hZ : wd_Z E w0 R s w H locs cells slots [(x0, 12), (x2, 26)]) (hl : lv_has ls 16 [(0, va_rf x0), (1, .int x1), (2, va_rf x2), (3, .int x3), (4, .int x4), (5, .int x5)]) (hf : f_L_act_j96 n x0 x1 x2 x3 x4 x5 w = some (r', w')) : W p l e R s m args below meth c H locs cells slots (wd_finW E w0 (some (.int r')) w' True R args s below) (F0 m 96 ls []) := by
  obtain ⟨hx, hb, hr, hml, hts, hown, hlocks, hmn, hK⟩ := id C
  unfold f_L_act_j96 at hf
  refine lv_iload_n (i := 1) hx hb dL_act_96 rfl (lv_at hl 1 rfl) ?_
  refine lv_bipush (v := 6) hx hb dL_act_97 (by decide) ?_
  refine lv_ishr hx hb dL_act_99 ?_
  refine lv_iconst (v := 2) hx hb dL_act_100 (by decide) ?_
  have hf9 := wd_b2_e hf; clear hf; obtain ⟨r25, w23, hc24, hf⟩ := hf9
  refine z_callS (As := [.int (x1 >>> ((6 : Int32) &&& 31)), .int (2 : Int32)]) (rest := []) (c_L_below l E n w (x1 >>> ((6 : Int32) &&& 31)) (2 : Int32) r25 w23  hc24) mo_L_below tw_496 tw_495 hx hb hml hts hown hK ⟨Nat.le_trans (by decide) hR.1, Nat.le_trans (by decide) hR.2⟩ hZ rfl hl.1 rfl (Nat.le_of_ble_eq_true rfl) rfl dL_act_101 ?_; clear hZ; intro H locs cells slots hX hZ
  refine lv_istore (i := 8) (lv' := [(8, .int r25), (0, va_rf x0), (1, .int x1), (2, va_rf x2), (3, .int x3), (4, .int x4), (5, .int x5)]) hx hb dL_act_104 hl (by decide) rfl ?_; clear hl; intro ls hl
  refine lv_bipush (v := 16) hx hb dL_act_106 (by decide) ?_
  refine lv_iconst (v := 1) hx hb dL_act_108 (by decide) ?_
  refine lv_iload hx hb dL_act_109 (lv_at hl 0 rfl) ?_
  refine lv_iadd hx hb dL_act_111 ?_
  refine lv_imul hx hb dL_act_112 ?_
  refine lv_iload_n (i := 1) hx hb dL_act_113 rfl (lv_at hl 2 rfl) ?_
  refine lv_bipush (v := 8) hx hb dL_act_114 (by decide) ?_
  refine lv_ishr hx hb dL_act_116 ?_
  refine lv_bipush (v := 12) hx hb dL_act_117 (by decide) ?_
  have hf9 := wd_b2_e hf; clear hf; obtain ⟨r28, w26, hc27, hf⟩ := hf9
  refine z_callS (As := [.int (x1 >>> ((8 : Int32) &&& 31)), .int (12 : Int32)]) (rest := [.int ((16 : Int32) * ((1 : Int32) + r25))]) (c_L_below l E n w23 (x1 >>> ((8 : Int32) &&& 31)) (12 : Int32) r28 w26  hc27) mo_L_below tw_496 tw_495 hx hb hml hts hown hK ⟨Nat.le_trans (by decide) hR.1, Nat.le_trans (by decide) hR.2⟩ hZ rfl hl.1 rfl (Nat.le_of_ble_eq_true rfl) rfl dL_act_119 ?_; clear hZ; intro H locs cells slots hX hZ
  refine lv_iadd hx hb dL_act_122 ?_
  have hf9 := wd_let_e hf; clear hf; obtain ⟨v29, e30, hf⟩ := hf9
  rw [e30]
  refine lv_istore (i := 9) (lv' := [(9, .int v29), (8, .int r25), (0, va_rf x0), (1, .int x1), (2, va_rf x2), (3, .int x3), (4, .int x4), (5, .int x5)]) hx hb dL_act_123 hl (by decide) rfl ?_; clear hl; intro ls hl
  refine z_aload_n (i := 0) hx hb dL_act_125 rfl (lv_at hl 2 rfl) ?_
  refine lv_iload_n (i := 3) hx hb dL_act_126 rfl (lv_at hl 5 rfl) ?_
  refine lv_iload hx hb dL_act_127 (lv_at hl 1 rfl) ?_
  refine lv_iload hx hb dL_act_129 (lv_at hl 0 rfl) ?_
  refine lv_iconst (v := 4) hx hb dL_act_131 (by decide) ?_
  have hf9 := Option.bind_eq_some_iff.mp hf; clear hf; obtain ⟨a31, ha31, hf⟩ := hf9
  subst ha31
  replace hl : lv_has ls 16 [(9, .int v29), (8, .int r25), (0, .ref a31), (1, .int x1), (2, va_rf x2), (3, .int x3), (4, .int x4), (5, .int x5)] := hl
  replace hZ : wd_Z E w0 R s w26 H locs cells slots [(some a31, 12), (x2, 26)] := hZ
  have hf9 := wd_b2_e hf; clear hf; obtain ⟨o34, w32, hc33, hf⟩ := hf9
  refine z_callVX (ci := 11) (As := [.int x3, .int r25, .int v29, .int (4 : Int32)]) (rest := []) (c_X11_addPort l hst E n w26 a31 x3 r25 v29 (4 : Int32) o34 w32 (hZ.k 0 rfl rfl) hc33) mo_X11_addPort rfl (by decide) rfl tw_526 tw_527 tw_525 hx hb hml hts hown hK ⟨Nat.le_trans (by decide) hR.1, Nat.le_trans (by decide) hR.2⟩ hZ (hZ.k 0 rfl rfl) rfl hl.1 rfl (Nat.le_of_ble_eq_true rfl) dL_act_132 ?_ ?_
  · clear hZ; intro r35 h36 H locs cells slots hZ
    replace hf := wd_ox_s h36 hf
    refine lv_istore (i := 10) (lv' := [(10, .int r35), (9, .int v29), (8, .int r25), (0, .ref a31), (1, .int x1), (2, va_rf x2), (3, .int x3), (4, .int x4), (5, .int x5)]) hx hb dL_act_135 hl (by decide) rfl ?_; clear hl; intro ls hl
    refine z_aload_n (i := 2) hx hb dL_act_137 rfl (lv_at hl 5 rfl) ?_
    refine lv_iload hx hb dL_act_138 (lv_at hl 0 rfl) ?_
    have hf9 := Option.bind_eq_some_iff.mp hf; clear hf; obtain ⟨a37, ha37, hf⟩ := hf9
    subst ha37
    replace hl : lv_has ls 16 [(10, .int r35), (9, .int v29), (8, .int r25), (0, .ref a31), (1, .int x1), (2, .ref a37), (3, .int x3), (4, .int x4), (5, .int x5)] := hl
    replace hZ : wd_Z E w0 R s w32 H locs cells slots [(some a31, 12), (some a37, 26)] := hZ
    have hf9 := wd_gd_e hf; clear hf; obtain ⟨h38, hf⟩ := hf9
    refine z_aald (k := 26) (by decide) (by decide) (tk := 20) rfl hx hb hK hZ (hZ.k 1 rfl rfl) h38 dL_act_140 ?_; clear hZ; intro hZ
    refine lv_iconst (v := 1) hx hb dL_act_141 (by decide) ?_
    have hf9 := Option.bind_eq_some_iff.mp hf; clear hf; obtain ⟨a39, ha39, hf⟩ := hf9
    replace hZ := hZ.add (r := some a39) (k := 21) (Nat.succ_ne_zero _) (fun q hq => by cases hq; exact hZ.k 0 rfl ha39)
    rw [ha39]
    have hf9 := wd_gd_e hf; clear hf; obtain ⟨h40, hf⟩ := hf9
    refine z_iald hx hb hK hZ (hZ.k 0 rfl rfl) h40 dL_act_142 ?_
    refine lv_if_ge (tgt := 154) hx hb dL_act_143 (by decide) (fun h41 => ?_) (fun h41 => ?_)
    · replace hf := wd_ite_p h41 hf
      exact v_L_act_j154 n C hR hst htab w32 _ _ _ _ _ ⟨hZ.1, hZ.2.1, hZ.2.2.1, hZ.2.2.2.1, (fun _ hq => absurd hq List.not_mem_nil), hZ.2.2.2.2.2⟩ (lv_sub hl [] rfl) hf
    · replace hf := wd_ite_n h41 hf
      refine lv_iload hx hb dL_act_146 (lv_at hl 0 rfl) ?_
      refine lv_iconst (v := 4) hx hb dL_act_148 (by decide) ?_
      refine lv_idiv hx hb dL_act_149 (by decide) ?_
      refine lv_iload_n (i := 3) hx hb dL_act_150 rfl (lv_at hl 6 rfl) ?_
      refine lv_icmp_eq (tgt := 156) hx hb dL_act_151 (by decide) (fun h42 => ?_) (fun h42 => ?_)
      · replace hf := wd_ite_p h42 hf
        refine lv_aload_n (i := 2) hx hb dL_act_156 rfl (lv_at hl 5 rfl) ?_
        refine lv_iload hx hb dL_act_157 (lv_at hl 0 rfl) ?_
        have hf9 := wd_gd_e hf; clear hf; obtain ⟨h43, hf⟩ := hf9
        refine z_aald (k := 26) (by decide) (by decide) (tk := 20) rfl hx hb hK hZ (hZ.k 3 rfl rfl) h43 dL_act_159 ?_; clear hZ; intro hZ
        refine lv_iconst (v := 0) hx hb dL_act_160 (by decide) ?_
        refine lv_iload hx hb dL_act_161 (lv_at hl 2 rfl) ?_
        have hf9 := Option.bind_eq_some_iff.mp hf; clear hf; obtain ⟨a44, ha44, hf⟩ := hf9
        replace hZ := hZ.add (r := some a44) (k := 21) (Nat.succ_ne_zero _) (fun q hq => by cases hq; exact hZ.k 0 rfl ha44)
        rw [ha44]
        have hf9 := wd_gd_e hf; clear hf; obtain ⟨h45, hf⟩ := hf9
        refine z_iast hx hb hK hZ (hZ.k 0 rfl rfl) h45 dL_act_163 ?_; clear hZ; intro H locs hZ
        have hf9 := wd_let_e hf; clear hf; obtain ⟨w46, e47, hf⟩ := hf9
        rw [e47] at hZ
        refine lv_aload_n (i := 2) hx hb dL_act_164 rfl (lv_at hl 5 rfl) ?_
        refine lv_iload hx hb dL_act_165 (lv_at hl 0 rfl) ?_
        have hf9 := wd_gd_e hf; clear hf; obtain ⟨h48, hf⟩ := hf9
        refine z_aald (k := 26) (by decide) (by decide) (tk := 20) rfl hx hb hK hZ (hZ.k 5 rfl rfl) h48 dL_act_167 ?_; clear hZ; intro hZ
        refine lv_iconst (v := 1) hx hb dL_act_168 (by decide) ?_
        refine lv_iload hx hb dL_act_169 (lv_at hl 1 rfl) ?_
        have hf9 := Option.bind_eq_some_iff.mp hf; clear hf; obtain ⟨a49, ha49, hf⟩ := hf9
        replace hZ := hZ.add (r := some a49) (k := 21) (Nat.succ_ne_zero _) (fun q hq => by cases hq; exact hZ.k 0 rfl ha49)
        rw [ha49]
        have hf9 := wd_gd_e hf; clear hf; obtain ⟨h50, hf⟩ := hf9
        refine z_iast hx hb hK hZ (hZ.k 0 rfl rfl) h50 dL_act_171 ?_; clear hZ; intro H locs hZ
        have hf9 := wd_let_e hf; clear hf; obtain ⟨w51, e52, hf⟩ := hf9
        rw [e52] at hZ
        refine lv_iconst (v := 1) hx hb dL_act_172 (by decide) ?_
        obtain ⟨rfl, rfl⟩ := Prod.mk.inj (Option.some.inj hf)
        exact vx_ret (z_zret (by decide) hx hb hr hlocks hZ trivial dL_act_173)
      · replace hf := wd_ite_n h42 hf
        exact v_L_act_j154 n C hR hst htab w32 _ _ _ _ _ ⟨hZ.1, hZ.2.1, hZ.2.2.1, hZ.2.2.2.1, (fun _ hq => absurd hq List.not_mem_nil), hZ.2.2.2.2.2⟩ (lv_sub hl [] rfl) hf
  · clear hZ; intro h36 H locs cells slots q53 ce hZ hce hcv hcl
    replace hf := wd_ox_n h36 hf
    refine z_catch htab 20 ⟨30, 155, 740, 107⟩ rfl (by decide +kernel) (by decide) rfl hts hown hK tw_506 tw_507 tw_508 hce hcv hcl ?_
    refine lv_astore (i := 8) (lv' := [(8, .ref q53), (9, .int v29), (0, .ref a31), (1, .int x1), (2, va_rf x2), (3, .int x3), (4, .int x4), (5, .int x5)]) hx hb dL_act_740 hl (by decide) rfl ?_; clear hl; intro ls hl
    refine lv_aload_n (i := 0) hx hb dL_act_742 rfl (lv_at hl 2 rfl) ?_
    have hf9 := wd_b2_e hf; clear hf; obtain ⟨r56, w54, hc55, hf⟩ := hf9
    refine z_callV (ci := 11) (As := []) (rest := []) (c_X11_packets l E n w32 a31 r56 w54 (hZ.k 0 rfl rfl) hc55) mo_X11_packets rfl (by decide) rfl tw_514 tw_515 tw_513 hx hb hml hts hown hK ⟨Nat.le_trans (by decide) hR.1, Nat.le_trans (by decide) hR.2⟩ hZ (hZ.k 0 rfl rfl) rfl hl.1 rfl (Nat.le_of_ble_eq_true rfl) rfl dL_act_743 ?_; clear hZ; intro H locs cells slots hX hZ
    refine lv_iload hx hb dL_act_746 (lv_at hl 6 rfl) ?_
    refine lv_icmp_ne (tgt := 764) hx hb dL_act_748 (by decide) (fun h57 => ?_) (fun h57 => ?_)
    · replace hf := wd_ite_n h57 hf
      exact v_L_act_j764 n C hR hst htab w54 _ _ _ _ _ ⟨hZ.1, hZ.2.1, hZ.2.2.1, hZ.2.2.2.1, (fun _ hq => absurd hq List.not_mem_nil), hZ.2.2.2.2.2⟩ (lv_sub hl [] rfl) hf
    · replace hf := wd_ite_p h57 hf
      refine lv_aload_n (i := 0) hx hb dL_act_751 rfl (lv_at hl 2 rfl) ?_
      have hf9 := wd_b2_e hf; clear hf; obtain ⟨r60, w58, hc59, hf⟩ := hf9
      refine z_callV (ci := 11) (As := []) (rest := []) (c_X11_frames l E n w54 a31 r60 w58 (hZ.k 0 rfl rfl) hc59) mo_X11_frames rfl (by decide) rfl tw_518 tw_519 tw_517 hx hb hml hts hown hK ⟨Nat.le_trans (by decide) hR.1, Nat.le_trans (by decide) hR.2⟩ hZ (hZ.k 0 rfl rfl) rfl hl.1 rfl (Nat.le_of_ble_eq_true rfl) rfl dL_act_752 ?_; clear hZ; intro H locs cells slots hX hZ
      refine lv_iload hx hb dL_act_755 (lv_at hl 7 rfl) ?_
      refine lv_icmp_ne (tgt := 764) hx hb dL_act_757 (by decide) (fun h61 => ?_) (fun h61 => ?_)
      · replace hf := wd_ite_n h61 hf
        exact v_L_act_j764 n C hR hst htab w58 _ _ _ _ _ ⟨hZ.1, hZ.2.1, hZ.2.2.1, hZ.2.2.2.1, (fun _ hq => absurd hq List.not_mem_nil), hZ.2.2.2.2.2⟩ (lv_sub hl [] rfl) hf
      · replace hf := wd_ite_p h61 hf
        refine lv_iconst (v := 1) hx hb dL_act_760 (by decide) ?_
        refine lv_goto (tgt := 765) hx hb dL_act_761 (by decide) ?_
        obtain ⟨rfl, rfl⟩ := Prod.mk.inj (Option.some.inj hf)
        exact vx_ret (z_zret (by decide) hx hb hr hlocks hZ trivial dL_act_765)

set_option maxHeartbeats 4000000 in
set_option maxRecDepth 100000 in
theorem v_L_act_j259 {p : Program} {l : Launch} {e : Env} {R : Room} {s : State} {m : MethodId} {args : Array Value} {below : List Frame} {meth : Method} {c : Code} {E : wd_E} {w0 : Wd} {r' : Int32} {w' : Wd} (n : Nat) (C : wd_X p s m args meth c cL_act RL 16 (some .boolean) "act" E) (hR : 8 ≤ R.frames ∧ 205 ≤ R.locals) (hst : l.stackTraces = false) (htab : c.exceptionTable.toList = tableOf hh_L_act) (w : Wd) (H : Heap) (locs : List Loc) (cells slots : Nat) (ls : Array Slot) (hZ : wd_Z E w0 R s w H locs cells slots []) (hl : lv_has ls 16 []) (hf : f_L_act_j259 n w = some (r', w')) : W p l e R s m args below meth c H locs cells slots (wd_finW E w0 (some (.int r')) w' True R args s below) (F0 m 259 ls []) := by
  obtain ⟨hx, hb, hr, hml, hts, hown, hlocks, hmn, hK⟩ := id C
  unfold f_L_act_j259 at hf
  refine lv_iconst (v := 0) hx hb dL_act_259 (by decide) ?_
  obtain ⟨rfl, rfl⟩ := Prod.mk.inj (Option.some.inj hf)
  exact vx_ret (z_zret (by decide) hx hb hr hlocks hZ trivial dL_act_260)

set_option maxHeartbeats 4000000 in
set_option maxRecDepth 100000 in
theorem v_L_act_j407 {p : Program} {l : Launch} {e : Env} {R : Room} {s : State} {m : MethodId} {args : Array Value} {below : List Frame} {meth : Method} {c : Code} {E : wd_E} {w0 : Wd} {r' : Int32} {w' : Wd} (n : Nat) (C : wd_X p s m args meth c cL_act RL 16 (some .boolean) "act" E) (hR : 8 ≤ R.frames ∧ 205 ≤ R.locals) (hst : l.stackTraces = false) (htab : c.exceptionTable.toList = tableOf hh_L_act) (w : Wd) (H : Heap) (locs : List Loc) (cells slots : Nat) (ls : Array Slot) (hZ : wd_Z E w0 R s w H locs cells slots []) (hl : lv_has ls 16 []) (hf : f_L_act_j407 n w = some (r', w')) : W p l e R s m args below meth c H locs cells slots (wd_finW E w0 (some (.int r')) w' True R args s below) (F0 m 407 ls []) := by
  obtain ⟨hx, hb, hr, hml, hts, hown, hlocks, hmn, hK⟩ := id C
  unfold f_L_act_j407 at hf
  refine lv_iconst (v := 0) hx hb dL_act_407 (by decide) ?_
  obtain ⟨rfl, rfl⟩ := Prod.mk.inj (Option.some.inj hf)
  exact vx_ret (z_zret (by decide) hx hb hr hlocks hZ trivial dL_act_408)

set_option maxHeartbeats 4000000 in
set_option maxRecDepth 100000 in
theorem v_L_act_j383 {p : Program} {l : Launch} {e : Env} {R : Room} {s : State} {m : MethodId} {args : Array Value} {below : List Frame} {meth : Method} {c : Code} {E : wd_E} {w0 : Wd} {r' : Int32} {w' : Wd} (n : Nat) (C : wd_X p s m args meth c cL_act RL 16 (some .boolean) "act" E) (hR : 8 ≤ R.frames ∧ 205 ≤ R.locals) (hst : l.stackTraces = false) (htab : c.exceptionTable.toList = tableOf hh_L_act) (w : Wd) (H : Heap) (locs : List Loc) (cells slots : Nat) (ls : Array Slot) (hZ : wd_Z E w0 R s w H locs cells slots []) (hl : lv_has ls 16 []) (hf : f_L_act_j383 n w = some (r', w')) : W p l e R s m args below meth c H locs cells slots (wd_finW E w0 (some (.int r')) w' True R args s below) (F0 m 383 ls []) := by
  obtain ⟨hx, hb, hr, hml, hts, hown, hlocks, hmn, hK⟩ := id C
  unfold f_L_act_j383 at hf
  refine lv_iconst (v := 0) hx hb dL_act_383 (by decide) ?_
  refine lv_goto (tgt := 408) hx hb dL_act_384 (by decide) ?_
  obtain ⟨rfl, rfl⟩ := Prod.mk.inj (Option.some.inj hf)
  exact vx_ret (z_zret (by decide) hx hb hr hlocks hZ trivial dL_act_408)

set_option maxHeartbeats 4000000 in
set_option maxRecDepth 100000 in
theorem v_L_act_j350 {p : Program} {l : Launch} {e : Env} {R : Room} {s : State} {m : MethodId} {args : Array Value} {below : List Frame} {meth : Method} {c : Code} {E : wd_E} {w0 : Wd} {r' : Int32} {w' : Wd} (n : Nat) (C : wd_X p s m args meth c cL_act RL 16 (some .boolean) "act" E) (hR : 8 ≤ R.frames ∧ 205 ≤ R.locals) (hst : l.stackTraces = false) (htab : c.exceptionTable.toList = tableOf hh_L_act) (y0 : Int32) (y1 : Int32) (y2 : Int32) (y3 : Int32) (y4 : Int32) (y5 : Int32) (y6 : Option Nat) (x0 : Option Nat) (x4 : Int32) (x5 : Int32) (w : Wd) (H : Heap) (locs : List Loc) (cells slots : Nat) (ls : Array Slot) (hZ : wd_Z E w0 R s w H locs cells slots [(y6, 12), (x0, 12)]) (hl : lv_has ls 16 [(0, va_rf x0), (4, .int x4), (5, .int x5)]) (hf : f_L_act_j350 n y0 y1 y2 y3 y4 y5 y6 x0 x4 x5 w = some (r', w')) : W p l e R s m args below meth c H locs cells slots (wd_finW E w0 (some (.int r')) w' True R args s below) (F0 m 350 ls [.int y0, .int y1, .int y2, .int y3, .int y4, .int y5, va_rf y6]) := by
  obtain ⟨hx, hb, hr, hml, hts, hown, hlocks, hmn, hK⟩ := id C
  unfold f_L_act_j350 at hf
  have hf9 := Option.bind_eq_some_iff.mp hf; clear hf; obtain ⟨a147, ha147, hf⟩ := hf9
  subst ha147
  replace hl : lv_has ls 16 [(0, va_rf x0), (4, .int x4), (5, .int x5)] := hl
  replace hZ : wd_Z E w0 R s w H locs cells slots [(some a147, 12), (x0, 12)] := hZ
  have hf9 := wd_b2_e hf; clear hf; obtain ⟨r150, w148, hc149, hf⟩ := hf9
  refine z_callV (ci := 11) (As := [.int y5, .int y4, .int y3, .int y2, .int y1, .int y0]) (rest := []) (c_X11_send l E n w a147 y5 y4 y3 y2 y1 y0 r150 w148 (hZ.k 0 rfl rfl) hc149) mo_X11_send rfl (by decide) rfl tw_633 tw_634 tw_632 hx hb hml hts hown hK ⟨Nat.le_trans (by decide) hR.1, Nat.le_trans (by decide) hR.2⟩ hZ (hZ.k 0 rfl rfl) rfl hl.1 rfl (Nat.le_of_ble_eq_true rfl) rfl dL_act_350 ?_; clear hZ; intro H locs cells slots hX hZ
  refine lv_istore (i := 12) (lv' := [(12, .int r150), (0, va_rf x0), (4, .int x4), (5, .int x5)]) hx hb dL_act_353 hl (by decide) rfl ?_; clear hl; intro ls hl
  refine lv_iload hx hb dL_act_355 (lv_at hl 0 rfl) ?_
  refine lv_iconst (v := -1) hx hb dL_act_357 (by decide) ?_
  refine lv_icmp_ne (tgt := 387) hx hb dL_act_358 (by decide) (fun h151 => ?_) (fun h151 => ?_)
  · replace hf := wd_ite_n h151 hf
    refine lv_iload hx hb dL_act_387 (lv_at hl 0 rfl) ?_
    refine lv_iload hx hb dL_act_389 (lv_at hl 2 rfl) ?_
    refine lv_icmp_ne (tgt := 407) hx hb dL_act_391 (by decide) (fun h152 => ?_) (fun h152 => ?_)
    · replace hf := wd_ite_n h152 hf
      exact v_L_act_j407 n C hR hst htab w148 _ _ _ _ _ ⟨hZ.1, hZ.2.1, hZ.2.2.1, hZ.2.2.2.1, (fun _ hq => absurd hq List.not_mem_nil), hZ.2.2.2.2.2⟩ (lv_sub hl [] rfl) hf
    · replace hf := wd_ite_p h152 hf
      refine z_aload_n (i := 0) hx hb dL_act_394 rfl (lv_at hl 1 rfl) ?_
      have hf9 := Option.bind_eq_some_iff.mp hf; clear hf; obtain ⟨a153, ha153, hf⟩ := hf9
      subst ha153
      replace hl : lv_has ls 16 [(12, .int r150), (0, .ref a153), (4, .int x4), (5, .int x5)] := hl
      replace hZ : wd_Z E w0 R s w148 H locs cells slots [(some a147, 12), (some a153, 12)] := hZ
      have hf9 := wd_b2_e hf; clear hf; obtain ⟨r156, w154, hc155, hf⟩ := hf9
      refine z_callV (ci := 11) (As := []) (rest := []) (c_X11_packets l E n w148 a153 r156 w154 (hZ.k 1 rfl rfl) hc155) mo_X11_packets rfl (by decide) rfl tw_514 tw_515 tw_513 hx hb hml hts hown hK ⟨Nat.le_trans (by decide) hR.1, Nat.le_trans (by decide) hR.2⟩ hZ (hZ.k 1 rfl rfl) rfl hl.1 rfl (Nat.le_of_ble_eq_true rfl) rfl dL_act_395 ?_; clear hZ; intro H locs cells slots hX hZ
      refine lv_iload hx hb dL_act_398 (lv_at hl 2 rfl) ?_
      refine lv_icmp_le (tgt := 407) hx hb dL_act_400 (by decide) (fun h157 => ?_) (fun h157 => ?_)
      · replace hf := wd_ite_p h157 hf
        exact v_L_act_j407 n C hR hst htab w154 _ _ _ _ _ ⟨hZ.1, hZ.2.1, hZ.2.2.1, hZ.2.2.2.1, (fun _ hq => absurd hq List.not_mem_nil), hZ.2.2.2.2.2⟩ (lv_sub hl [] rfl) hf
      · replace hf := wd_ite_n h157 hf
        refine lv_iconst (v := 1) hx hb dL_act_403 (by decide) ?_
        refine lv_goto (tgt := 408) hx hb dL_act_404 (by decide) ?_
        obtain ⟨rfl, rfl⟩ := Prod.mk.inj (Option.some.inj hf)
        exact vx_ret (z_zret (by decide) hx hb hr hlocks hZ trivial dL_act_408)
  · replace hf := wd_ite_p h151 hf
    refine z_aload_n (i := 0) hx hb dL_act_361 rfl (lv_at hl 1 rfl) ?_
    have hf9 := Option.bind_eq_some_iff.mp hf; clear hf; obtain ⟨a158, ha158, hf⟩ := hf9
    subst ha158
    replace hl : lv_has ls 16 [(12, .int r150), (0, .ref a158), (4, .int x4), (5, .int x5)] := hl
    replace hZ : wd_Z E w0 R s w148 H locs cells slots [(some a147, 12), (some a158, 12)] := hZ
    have hf9 := wd_b2_e hf; clear hf; obtain ⟨r161, w159, hc160, hf⟩ := hf9
    refine z_callV (ci := 11) (As := []) (rest := []) (c_X11_packets l E n w148 a158 r161 w159 (hZ.k 1 rfl rfl) hc160) mo_X11_packets rfl (by decide) rfl tw_514 tw_515 tw_513 hx hb hml hts hown hK ⟨Nat.le_trans (by decide) hR.1, Nat.le_trans (by decide) hR.2⟩ hZ (hZ.k 1 rfl rfl) rfl hl.1 rfl (Nat.le_of_ble_eq_true rfl) rfl dL_act_362 ?_; clear hZ; intro H locs cells slots hX hZ
    refine lv_iload hx hb dL_act_365 (lv_at hl 2 rfl) ?_
    refine lv_icmp_ne (tgt := 383) hx hb dL_act_367 (by decide) (fun h162 => ?_) (fun h162 => ?_)
    · replace hf := wd_ite_n h162 hf
      exact v_L_act_j383 n C hR hst htab w159 _ _ _ _ _ ⟨hZ.1, hZ.2.1, hZ.2.2.1, hZ.2.2.2.1, (fun _ hq => absurd hq List.not_mem_nil), hZ.2.2.2.2.2⟩ (lv_sub hl [] rfl) hf
    · replace hf := wd_ite_p h162 hf
      refine lv_aload_n (i := 0) hx hb dL_act_370 rfl (lv_at hl 1 rfl) ?_
      have hf9 := wd_b2_e hf; clear hf; obtain ⟨r165, w163, hc164, hf⟩ := hf9
      refine z_callV (ci := 11) (As := []) (rest := []) (c_X11_frames l E n w159 a158 r165 w163 (hZ.k 1 rfl rfl) hc164) mo_X11_frames rfl (by decide) rfl tw_518 tw_519 tw_517 hx hb hml hts hown hK ⟨Nat.le_trans (by decide) hR.1, Nat.le_trans (by decide) hR.2⟩ hZ (hZ.k 1 rfl rfl) rfl hl.1 rfl (Nat.le_of_ble_eq_true rfl) rfl dL_act_371 ?_; clear hZ; intro H locs cells slots hX hZ
      refine lv_iload hx hb dL_act_374 (lv_at hl 3 rfl) ?_
      refine lv_icmp_ne (tgt := 383) hx hb dL_act_376 (by decide) (fun h166 => ?_) (fun h166 => ?_)
      · replace hf := wd_ite_n h166 hf
        exact v_L_act_j383 n C hR hst htab w163 _ _ _ _ _ ⟨hZ.1, hZ.2.1, hZ.2.2.1, hZ.2.2.2.1, (fun _ hq => absurd hq List.not_mem_nil), hZ.2.2.2.2.2⟩ (lv_sub hl [] rfl) hf
      · replace hf := wd_ite_p h166 hf
        refine lv_iconst (v := 1) hx hb dL_act_379 (by decide) ?_
        refine lv_goto (tgt := 408) hx hb dL_act_380 (by decide) ?_
        obtain ⟨rfl, rfl⟩ := Prod.mk.inj (Option.some.inj hf)
        exact vx_ret (z_zret (by decide) hx hb hr hlocks hZ trivial dL_act_408)

set_option maxHeartbeats 4000000 in
set_option maxRecDepth 100000 in
theorem v_L_act_j315 {p : Program} {l : Launch} {e : Env} {R : Room} {s : State} {m : MethodId} {args : Array Value} {below : List Frame} {meth : Method} {c : Code} {E : wd_E} {w0 : Wd} {r' : Int32} {w' : Wd} (n : Nat) (C : wd_X p s m args meth c cL_act RL 16 (some .boolean) "act" E) (hR : 8 ≤ R.frames ∧ 205 ≤ R.locals) (hst : l.stackTraces = false) (htab : c.exceptionTable.toList = tableOf hh_L_act) (y0 : Int32) (y1 : Int32) (y2 : Int32) (y3 : Option Nat) (x0 : Option Nat) (x1 : Int32) (x4 : Int32) (x5 : Int32) (w : Wd) (H : Heap) (locs : List Loc) (cells slots : Nat) (ls : Array Slot) (hZ : wd_Z E w0 R s w H locs cells slots [(y3, 12), (x0, 12)]) (hl : lv_has ls 16 [(0, va_rf x0), (1, .int x1), (4, .int x4), (5, .int x5)]) (hf : f_L_act_j315 n y0 y1 y2 y3 x0 x1 x4 x5 w = some (r', w')) : W p l e R s m args below meth c H locs cells slots (wd_finW E w0 (some (.int r')) w' True R args s below) (F0 m 315 ls [.int y0, .int y1, .int y2, va_rf y3]) := by
  obtain ⟨hx, hb, hr, hml, hts, hown, hlocks, hmn, hK⟩ := id C
  unfold f_L_act_j315 at hf
  refine lv_iload_n (i := 1) hx hb dL_act_315 rfl (lv_at hl 1 rfl) ?_
  refine lv_bipush (v := 8) hx hb dL_act_316 (by decide) ?_
  refine lv_ishr hx hb dL_act_318 ?_
  refine lv_bipush (v := 60) hx hb dL_act_319 (by decide) ?_
  have hf9 := wd_b2_e hf; clear hf; obtain ⟨r139, w137, hc138, hf⟩ := hf9
  refine z_callS (As := [.int (x1 >>> ((8 : Int32) &&& 31)), .int (60 : Int32)]) (rest := [.int y0, .int y1, .int y2, va_rf y3]) (c_L_below l E n w (x1 >>> ((8 : Int32) &&& 31)) (60 : Int32) r139 w137  hc138) mo_L_below tw_496 tw_495 hx hb hml hts hown hK ⟨Nat.le_trans (by decide) hR.1, Nat.le_trans (by decide) hR.2⟩ hZ rfl hl.1 rfl (by simp [va_rf_cat, va_cat_r, va_cat_i, va_cat_l, va_cat_d]) rfl dL_act_321 ?_; clear hZ; intro H locs cells slots hX hZ
  refine lv_iconst (v := 1) hx hb dL_act_324 (by decide) ?_
  refine lv_iload_n (i := 1) hx hb dL_act_325 rfl (lv_at hl 1 rfl) ?_
  refine lv_iconst (v := 5) hx hb dL_act_326 (by decide) ?_
  refine lv_ishr hx hb dL_act_327 ?_
  refine lv_bipush (v := 6) hx hb dL_act_328 (by decide) ?_
  have hf9 := wd_b2_e hf; clear hf; obtain ⟨r142, w140, hc141, hf⟩ := hf9
  refine z_callS (As := [.int (x1 >>> ((5 : Int32) &&& 31)), .int (6 : Int32)]) (rest := [.int (1 : Int32), .int r139, .int y0, .int y1, .int y2, va_rf y3]) (c_L_below l E n w137 (x1 >>> ((5 : Int32) &&& 31)) (6 : Int32) r142 w140  hc141) mo_L_below tw_496 tw_495 hx hb hml hts hown hK ⟨Nat.le_trans (by decide) hR.1, Nat.le_trans (by decide) hR.2⟩ hZ rfl hl.1 rfl (by simp [va_rf_cat, va_cat_r, va_cat_i, va_cat_l, va_cat_d]) rfl dL_act_330 ?_; clear hZ; intro H locs cells slots hX hZ
  refine lv_iadd hx hb dL_act_333 ?_
  refine lv_iload_n (i := 1) hx hb dL_act_334 rfl (lv_at hl 1 rfl) ?_
  refine lv_bipush (v := 6) hx hb dL_act_335 (by decide) ?_
  refine lv_ishr hx hb dL_act_337 ?_
  refine lv_iconst (v := 3) hx hb dL_act_338 (by decide) ?_
  have hf9 := wd_b2_e hf; clear hf; obtain ⟨r145, w143, hc144, hf⟩ := hf9
  refine z_callS (As := [.int (x1 >>> ((6 : Int32) &&& 31)), .int (3 : Int32)]) (rest := [.int ((1 : Int32) + r142), .int r139, .int y0, .int y1, .int y2, va_rf y3]) (c_L_below l E n w140 (x1 >>> ((6 : Int32) &&& 31)) (3 : Int32) r145 w143  hc144) mo_L_below tw_496 tw_495 hx hb hml hts hown hK ⟨Nat.le_trans (by decide) hR.1, Nat.le_trans (by decide) hR.2⟩ hZ rfl hl.1 rfl (by simp [va_rf_cat, va_cat_r, va_cat_i, va_cat_l, va_cat_d]) rfl dL_act_339 ?_; clear hZ; intro H locs cells slots hX hZ
  refine lv_if_ne (tgt := 349) hx hb dL_act_342 (by decide) (fun h146 => ?_) (fun h146 => ?_)
  · replace hf := wd_ite_n h146 hf
    refine lv_iconst (v := 0) hx hb dL_act_349 (by decide) ?_
    exact v_L_act_j350 n C hR hst htab (0 : Int32) ((1 : Int32) + r142) r139 y0 y1 y2 y3 x0 x4 x5 w143 _ _ _ _ _ ⟨hZ.1, hZ.2.1, hZ.2.2.1, hZ.2.2.2.1, (List.forall_mem_cons.mpr ⟨⟨Nat.succ_ne_zero _, (fun q hq => hZ.k 0 rfl hq)⟩, (List.forall_mem_cons.mpr ⟨⟨Nat.succ_ne_zero _, (fun q hq => hZ.k 1 rfl hq)⟩, (fun _ hq => absurd hq List.not_mem_nil)⟩)⟩), hZ.2.2.2.2.2⟩ (lv_sub hl [0, 2, 3] rfl) hf
  · replace hf := wd_ite_p h146 hf
    refine lv_iconst (v := 1) hx hb dL_act_345 (by decide) ?_
    refine lv_goto (tgt := 350) hx hb dL_act_346 (by decide) ?_
    exact v_L_act_j350 n C hR hst htab (1 : Int32) ((1 : Int32) + r142) r139 y0 y1 y2 y3 x0 x4 x5 w143 _ _ _ _ _ ⟨hZ.1, hZ.2.1, hZ.2.2.1, hZ.2.2.2.1, (List.forall_mem_cons.mpr ⟨⟨Nat.succ_ne_zero _, (fun q hq => hZ.k 0 rfl hq)⟩, (List.forall_mem_cons.mpr ⟨⟨Nat.succ_ne_zero _, (fun q hq => hZ.k 1 rfl hq)⟩, (fun _ hq => absurd hq List.not_mem_nil)⟩)⟩), hZ.2.2.2.2.2⟩ (lv_sub hl [0, 2, 3] rfl) hf

set_option maxHeartbeats 4000000 in
set_option maxRecDepth 100000 in
theorem v_L_act_j293 {p : Program} {l : Launch} {e : Env} {R : Room} {s : State} {m : MethodId} {args : Array Value} {below : List Frame} {meth : Method} {c : Code} {E : wd_E} {w0 : Wd} {r' : Int32} {w' : Wd} (n : Nat) (C : wd_X p s m args meth c cL_act RL 16 (some .boolean) "act" E) (hR : 8 ≤ R.frames ∧ 205 ≤ R.locals) (hst : l.stackTraces = false) (htab : c.exceptionTable.toList = tableOf hh_L_act) (y0 : Int32) (x0 : Option Nat) (x1 : Int32) (x3 : Int32) (x4 : Int32) (x5 : Int32) (w : Wd) (H : Heap) (locs : List Loc) (cells slots : Nat) (ls : Array Slot) (hZ : wd_Z E w0 R s w H locs cells slots [(x0, 12)]) (hl : lv_has ls 16 [(0, va_rf x0), (1, .int x1), (3, .int x3), (4, .int x4), (5, .int x5)]) (hf : f_L_act_j293 n y0 x0 x1 x3 x4 x5 w = some (r', w')) : W p l e R s m args below meth c H locs cells slots (wd_finW E w0 (some (.int r')) w' True R args s below) (F0 m 293 ls [.int y0]) := by
  obtain ⟨hx, hb, hr, hml, hts, hown, hlocks, hmn, hK⟩ := id C
  unfold f_L_act_j293 at hf
  refine lv_istore (i := 11) (lv' := [(11, .int y0), (0, va_rf x0), (1, .int x1), (3, .int x3), (4, .int x4), (5, .int x5)]) hx hb dL_act_293 hl (by decide) rfl ?_; clear hl; intro ls hl
  refine z_aload_n (i := 0) hx hb dL_act_295 rfl (lv_at hl 1 rfl) ?_
  refine lv_iload_n (i := 3) hx hb dL_act_296 rfl (lv_at hl 3 rfl) ?_
  refine lv_iload hx hb dL_act_297 (lv_at hl 0 rfl) ?_
  refine lv_iload_n (i := 1) hx hb dL_act_299 rfl (lv_at hl 2 rfl) ?_
  refine lv_bipush (v := 7) hx hb dL_act_300 (by decide) ?_
  refine lv_ishr hx hb dL_act_302 ?_
  refine lv_iconst (v := 2) hx hb dL_act_303 (by decide) ?_
  have hf9 := wd_b2_e hf; clear hf; obtain ⟨r135, w133, hc134, hf⟩ := hf9
  refine z_callS (As := [.int (x1 >>> ((7 : Int32) &&& 31)), .int (2 : Int32)]) (rest := [.int y0, .int x3, va_rf x0]) (c_L_below l E n w (x1 >>> ((7 : Int32) &&& 31)) (2 : Int32) r135 w133  hc134) mo_L_below tw_496 tw_495 hx hb hml hts hown hK ⟨Nat.le_trans (by decide) hR.1, Nat.le_trans (by decide) hR.2⟩ hZ rfl hl.1 rfl (by simp [va_rf_cat, va_cat_r, va_cat_i, va_cat_l, va_cat_d]) rfl dL_act_304 ?_; clear hZ; intro H locs cells slots hX hZ
  refine lv_if_ne (tgt := 314) hx hb dL_act_307 (by decide) (fun h136 => ?_) (fun h136 => ?_)
  · replace hf := wd_ite_n h136 hf
    refine lv_iconst (v := 0) hx hb dL_act_314 (by decide) ?_
    exact v_L_act_j315 n C hR hst htab (0 : Int32) y0 x3 x0 x0 x1 x4 x5 w133 _ _ _ _ _ ⟨hZ.1, hZ.2.1, hZ.2.2.1, hZ.2.2.2.1, (List.forall_mem_cons.mpr ⟨⟨Nat.succ_ne_zero _, (fun q hq => hZ.k 0 rfl hq)⟩, (List.forall_mem_cons.mpr ⟨⟨Nat.succ_ne_zero _, (fun q hq => hZ.k 0 rfl hq)⟩, (fun _ hq => absurd hq List.not_mem_nil)⟩)⟩), hZ.2.2.2.2.2⟩ (lv_sub hl [1, 2, 4, 5] rfl) hf
  · replace hf := wd_ite_p h136 hf
    refine lv_iconst (v := 1) hx hb dL_act_310 (by decide) ?_
    refine lv_goto (tgt := 315) hx hb dL_act_311 (by decide) ?_
    exact v_L_act_j315 n C hR hst htab (1 : Int32) y0 x3 x0 x0 x1 x4 x5 w133 _ _ _ _ _ ⟨hZ.1, hZ.2.1, hZ.2.2.1, hZ.2.2.2.1, (List.forall_mem_cons.mpr ⟨⟨Nat.succ_ne_zero _, (fun q hq => hZ.k 0 rfl hq)⟩, (List.forall_mem_cons.mpr ⟨⟨Nat.succ_ne_zero _, (fun q hq => hZ.k 0 rfl hq)⟩, (fun _ hq => absurd hq List.not_mem_nil)⟩)⟩), hZ.2.2.2.2.2⟩ (lv_sub hl [1, 2, 4, 5] rfl) hf

set_option maxHeartbeats 4000000 in
set_option maxRecDepth 100000 in
theorem v_L_act_j261 {p : Program} {l : Launch} {e : Env} {R : Room} {s : State} {m : MethodId} {args : Array Value} {below : List Frame} {meth : Method} {c : Code} {E : wd_E} {w0 : Wd} {r' : Int32} {w' : Wd} (n : Nat) (C : wd_X p s m args meth c cL_act RL 16 (some .boolean) "act" E) (hR : 8 ≤ R.frames ∧ 205 ≤ R.locals) (hst : l.stackTraces = false) (htab : c.exceptionTable.toList = tableOf hh_L_act) (x0 : Option Nat) (x1 : Int32) (x2 : Option Nat) (x3 : Int32) (x4 : Int32) (x5 : Int32) (w : Wd) (H : Heap) (locs : List Loc) (cells slots : Nat) (ls : Array Slot) (hZ : wd_Z E w0 R s w H locs cells slots [(x0, 12), (x2, 26)]) (hl : lv_has ls 16 [(0, va_rf x0), (1, .int x1), (2, va_rf x2), (3, .int x3), (4, .int x4), (5, .int x5)]) (hf : f_L_act_j261 n x0 x1 x2 x3 x4 x5 w = some (r', w')) : W p l e R s m args below meth c H locs cells slots (wd_finW E w0 (some (.int r')) w' True R args s below) (F0 m 261 ls []) := by
  obtain ⟨hx, hb, hr, hml, hts, hown, hlocks, hmn, hK⟩ := id C
  unfold f_L_act_j261 at hf
  refine lv_iload_n (i := 1) hx hb dL_act_261 rfl (lv_at hl 1 rfl) ?_
  refine lv_bipush (v := 9) hx hb dL_act_262 (by decide) ?_
  refine lv_ishr hx hb dL_act_264 ?_
  refine lv_bipush (v := 6) hx hb dL_act_265 (by decide) ?_
  have hf9 := wd_b2_e hf; clear hf; obtain ⟨r128, w126, hc127, hf⟩ := hf9
  refine z_callS (As := [.int (x1 >>> ((9 : Int32) &&& 31)), .int (6 : Int32)]) (rest := []) (c_L_below l E n w (x1 >>> ((9 : Int32) &&& 31)) (6 : Int32) r128 w126  hc127) mo_L_below tw_496 tw_495 hx hb hml hts hown hK ⟨Nat.le_trans (by decide) hR.1, Nat.le_trans (by decide) hR.2⟩ hZ rfl hl.1 rfl (Nat.le_of_ble_eq_true rfl) rfl dL_act_267 ?_; clear hZ; intro H locs cells slots hX hZ
  refine lv_if_ne (tgt := 285) hx hb dL_act_270 (by decide) (fun h129 => ?_) (fun h129 => ?_)
  · replace hf := wd_ite_n h129 hf
    refine z_aload_n (i := 2) hx hb dL_act_285 rfl (lv_at hl 2 rfl) ?_
    refine lv_iload_n (i := 1) hx hb dL_act_286 rfl (lv_at hl 1 rfl) ?_
    refine lv_bipush (v := 6) hx hb dL_act_287 (by decide) ?_
    refine lv_ishr hx hb dL_act_289 ?_
    have hf9 := wd_b2_e hf; clear hf; obtain ⟨r132, w130, hc131, hf⟩ := hf9
    refine z_callS (As := [va_rf x2, .int (x1 >>> ((6 : Int32) &&& 31))]) (rest := []) (c_L_addressOf l E n w126 x2 (x1 >>> ((6 : Int32) &&& 31)) r132 w130 (fun q hq => hZ.k 1 rfl hq) hc131) mo_L_addressOf tw_607 tw_606 hx hb hml hts hown hK ⟨Nat.le_trans (by decide) hR.1, Nat.le_trans (by decide) hR.2⟩ hZ rfl hl.1 rfl (Nat.le_of_ble_eq_true rfl) rfl dL_act_290 ?_; clear hZ; intro H locs cells slots hX hZ
    exact v_L_act_j293 n C hR hst htab r132 x0 x1 x3 x4 x5 w130 _ _ _ _ _ ⟨hZ.1, hZ.2.1, hZ.2.2.1, hZ.2.2.2.1, (List.forall_mem_cons.mpr ⟨⟨Nat.succ_ne_zero _, (fun q hq => hZ.k 0 rfl hq)⟩, (fun _ hq => absurd hq List.not_mem_nil)⟩), hZ.2.2.2.2.2⟩ (lv_sub hl [0, 1, 3, 4, 5] rfl) hf
  · replace hf := wd_ite_p h129 hf
    refine lv_iload_n (i := 1) hx hb dL_act_273 rfl (lv_at hl 1 rfl) ?_
    refine lv_iconst (v := 5) hx hb dL_act_274 (by decide) ?_
    refine lv_ishr hx hb dL_act_275 ?_
    refine lv_sipush (v := 256) hx hb dL_act_276 (by decide) ?_
    have hf9 := wd_b2_e hf; clear hf; obtain ⟨r169, w167, hc168, hf⟩ := hf9
    refine z_callS (As := [.int (x1 >>> ((5 : Int32) &&& 31)), .int (256 : Int32)]) (rest := []) (c_L_below l E n w126 (x1 >>> ((5 : Int32) &&& 31)) (256 : Int32) r169 w167  hc168) mo_L_below tw_496 tw_495 hx hb hml hts hown hK ⟨Nat.le_trans (by decide) hR.1, Nat.le_trans (by decide) hR.2⟩ hZ rfl hl.1 rfl (Nat.le_of_ble_eq_true rfl) rfl dL_act_279 ?_; clear hZ; intro H locs cells slots hX hZ
    refine lv_goto (tgt := 293) hx hb dL_act_282 (by decide) ?_
    exact v_L_act_j293 n C hR hst htab r169 x0 x1 x3 x4 x5 w167 _ _ _ _ _ ⟨hZ.1, hZ.2.1, hZ.2.2.1, hZ.2.2.2.1, (List.forall_mem_cons.mpr ⟨⟨Nat.succ_ne_zero _, (fun q hq => hZ.k 0 rfl hq)⟩, (fun _ hq => absurd hq List.not_mem_nil)⟩), hZ.2.2.2.2.2⟩ (lv_sub hl [0, 1, 3, 4, 5] rfl) hf

set_option maxHeartbeats 4000000 in
set_option maxRecDepth 100000 in
theorem v_L_act_j492 {p : Program} {l : Launch} {e : Env} {R : Room} {s : State} {m : MethodId} {args : Array Value} {below : List Frame} {meth : Method} {c : Code} {E : wd_E} {w0 : Wd} {r' : Int32} {w' : Wd} (n : Nat) (C : wd_X p s m args meth c cL_act RL 16 (some .boolean) "act" E) (hR : 8 ≤ R.frames ∧ 205 ≤ R.locals) (hst : l.stackTraces = false) (htab : c.exceptionTable.toList = tableOf hh_L_act) (w : Wd) (H : Heap) (locs : List Loc) (cells slots : Nat) (ls : Array Slot) (hZ : wd_Z E w0 R s w H locs cells slots []) (hl : lv_has ls 16 []) (hf : f_L_act_j492 n w = some (r', w')) : W p l e R s m args below meth c H locs cells slots (wd_finW E w0 (some (.int r')) w' True R args s below) (F0 m 492 ls []) := by
  obtain ⟨hx, hb, hr, hml, hts, hown, hlocks, hmn, hK⟩ := id C
  unfold f_L_act_j492 at hf
  refine lv_iconst (v := 0) hx hb dL_act_492 (by decide) ?_
  obtain ⟨rfl, rfl⟩ := Prod.mk.inj (Option.some.inj hf)
  exact vx_ret (z_zret (by decide) hx hb hr hlocks hZ trivial dL_act_493)

set_option maxHeartbeats 4000000 in
set_option maxRecDepth 100000 in
theorem v_L_act_j488 {p : Program} {l : Launch} {e : Env} {R : Room} {s : State} {m : MethodId} {args : Array Value} {below : List Frame} {meth : Method} {c : Code} {E : wd_E} {w0 : Wd} {r' : Int32} {w' : Wd} (n : Nat) (C : wd_X p s m args meth c cL_act RL 16 (some .boolean) "act" E) (hR : 8 ≤ R.frames ∧ 205 ≤ R.locals) (hst : l.stackTraces = false) (htab : c.exceptionTable.toList = tableOf hh_L_act) (w : Wd) (H : Heap) (locs : List Loc) (cells slots : Nat) (ls : Array Slot) (hZ : wd_Z E w0 R s w H locs cells slots []) (hl : lv_has ls 16 []) (hf : f_L_act_j488 n w = some (r', w')) : W p l e R s m args below meth c H locs cells slots (wd_finW E w0 (some (.int r')) w' True R args s below) (F0 m 488 ls []) := by
  obtain ⟨hx, hb, hr, hml, hts, hown, hlocks, hmn, hK⟩ := id C
  unfold f_L_act_j488 at hf
  refine lv_iconst (v := 1) hx hb dL_act_488 (by decide) ?_
  refine lv_goto (tgt := 493) hx hb dL_act_489 (by decide) ?_
  obtain ⟨rfl, rfl⟩ := Prod.mk.inj (Option.some.inj hf)
  exact vx_ret (z_zret (by decide) hx hb hr hlocks hZ trivial dL_act_493)

set_option maxHeartbeats 4000000 in
set_option maxRecDepth 100000 in
theorem v_L_act_j409 {p : Program} {l : Launch} {e : Env} {R : Room} {s : State} {m : MethodId} {args : Array Value} {below : List Frame} {meth : Method} {c : Code} {E : wd_E} {w0 : Wd} {r' : Int32} {w' : Wd} (n : Nat) (C : wd_X p s m args meth c cL_act RL 16 (some .boolean) "act" E) (hR : 8 ≤ R.frames ∧ 205 ≤ R.locals) (hst : l.stackTraces = false) (htab : c.exceptionTable.toList = tableOf hh_L_act) (x0 : Option Nat) (x1 : Int32) (x6 : Int64) (w : Wd) (H : Heap) (locs : List Loc) (cells slots : Nat) (ls : Array Slot) (hZ : wd_Z E w0 R s w H locs cells slots [(x0, 12)]) (hl : lv_has ls 16 [(0, va_rf x0), (1, .int x1), (6, .long x6)]) (hf : f_L_act_j409 n x0 x1 x6 w = some (r', w')) : W p l e R s m args below meth c H locs cells slots (wd_finW E w0 (some (.int r')) w' True R args s below) (F0 m 409 ls []) := by
  obtain ⟨hx, hb, hr, hml, hts, hown, hlocks, hmn, hK⟩ := id C
  unfold f_L_act_j409 at hf
  refine z_aload_n (i := 0) hx hb dL_act_409 rfl (lv_at hl 0 rfl) ?_
  refine lv_iconst (v := 1) hx hb dL_act_410 (by decide) ?_
  refine lv_iload_n (i := 1) hx hb dL_act_411 rfl (lv_at hl 1 rfl) ?_
  refine lv_bipush (v := 6) hx hb dL_act_412 (by decide) ?_
  refine lv_ishr hx hb dL_act_414 ?_
  refine lv_bipush (v := 12) hx hb dL_act_415 (by decide) ?_
  have hf9 := wd_b2_e hf; clear hf; obtain ⟨r175, w173, hc174, hf⟩ := hf9
  refine z_callS (As := [.int (x1 >>> ((6 : Int32) &&& 31)), .int (12 : Int32)]) (rest := [.int (1 : Int32), va_rf x0]) (c_L_below l E n w (x1 >>> ((6 : Int32) &&& 31)) (12 : Int32) r175 w173  hc174) mo_L_below tw_496 tw_495 hx hb hml hts hown hK ⟨Nat.le_trans (by decide) hR.1, Nat.le_trans (by decide) hR.2⟩ hZ rfl hl.1 rfl (by simp [va_rf_cat, va_cat_r, va_cat_i, va_cat_l, va_cat_d]) rfl dL_act_417 ?_; clear hZ; intro H locs cells slots hX hZ
  refine lv_iadd hx hb dL_act_420 ?_
  have hf9 := Option.bind_eq_some_iff.mp hf; clear hf; obtain ⟨a176, ha176, hf⟩ := hf9
  subst ha176
  replace hl : lv_has ls 16 [(0, .ref a176), (1, .int x1), (6, .long x6)] := hl
  replace hZ : wd_Z E w0 R s w173 H locs cells slots [(some a176, 12)] := hZ
  have hf9 := wd_b2_e hf; clear hf; obtain ⟨r179, w177, hc178, hf⟩ := hf9
  refine z_callV (ci := 11) (As := [.int ((1 : Int32) + r175)]) (rest := []) (c_X11_step l E n w173 a176 ((1 : Int32) + r175) r179 w177 (hZ.k 0 rfl rfl) hc178) mo_X11_step rfl (by decide) rfl tw_862 tw_863 tw_861 hx hb hml hts hown hK ⟨Nat.le_trans (by decide) hR.1, Nat.le_trans (by decide) hR.2⟩ hZ (hZ.k 0 rfl rfl) rfl hl.1 rfl (Nat.le_of_ble_eq_true rfl) rfl dL_act_421 ?_; clear hZ; intro H locs cells slots hX hZ
  refine lv_istore (i := 13) (lv' := [(13, .int r179), (0, .ref a176), (1, .int x1), (6, .long x6)]) hx hb dL_act_424 hl (by decide) rfl ?_; clear hl; intro ls hl
  refine lv_iload hx hb dL_act_426 (lv_at hl 0 rfl) ?_
  refine lv_aload_n (i := 0) hx hb dL_act_428 rfl (lv_at hl 1 rfl) ?_
  have hf9 := wd_b2_e hf; clear hf; obtain ⟨r182, w180, hc181, hf⟩ := hf9
  refine z_callV (ci := 11) (As := []) (rest := [.int r179]) (c_X11_frames l E n w177 a176 r182 w180 (hZ.k 0 rfl rfl) hc181) mo_X11_frames rfl (by decide) rfl tw_518 tw_519 tw_517 hx hb hml hts hown hK ⟨Nat.le_trans (by decide) hR.1, Nat.le_trans (by decide) hR.2⟩ hZ (hZ.k 0 rfl rfl) rfl hl.1 rfl (Nat.le_of_ble_eq_true rfl) rfl dL_act_429 ?_; clear hZ; intro H locs cells slots hX hZ
  refine lv_icmp_ne (tgt := 492) hx hb dL_act_432 (by decide) (fun h183 => ?_) (fun h183 => ?_)
  · replace hf := wd_ite_n h183 hf
    exact v_L_act_j492 n C hR hst htab w180 _ _ _ _ _ ⟨hZ.1, hZ.2.1, hZ.2.2.1, hZ.2.2.2.1, (fun _ hq => absurd hq List.not_mem_nil), hZ.2.2.2.2.2⟩ (lv_sub hl [] rfl) hf
  · replace hf := wd_ite_p h183 hf
    refine lv_aload_n (i := 0) hx hb dL_act_435 rfl (lv_at hl 1 rfl) ?_
    have hf9 := wd_b2_e hf; clear hf; obtain ⟨r186, w184, hc185, hf⟩ := hf9
    refine z_callV (ci := 11) (As := []) (rest := []) (c_X11_steps l E n w180 a176 r186 w184 (hZ.k 0 rfl rfl) hc185) mo_X11_steps rfl (by decide) rfl tw_522 tw_523 tw_521 hx hb hml hts hown hK ⟨Nat.le_trans (by decide) hR.1, Nat.le_trans (by decide) hR.2⟩ hZ (hZ.k 0 rfl rfl) rfl hl.1 rfl (Nat.le_of_ble_eq_true rfl) rfl dL_act_436 ?_; clear hZ; intro H locs cells slots hX hZ
    refine lv_i2l hx hb dL_act_439 rfl ?_
    refine lv_lload hx hb dL_act_440 (lv_at hl 3 rfl) ?_
    refine lv_lsub hx hb dL_act_442 ?_
    refine lv_iconst (v := 1) hx hb dL_act_443 (by decide) ?_
    refine lv_iload_n (i := 1) hx hb dL_act_444 rfl (lv_at hl 2 rfl) ?_
    refine lv_bipush (v := 6) hx hb dL_act_445 (by decide) ?_
    refine lv_ishr hx hb dL_act_447 ?_
    refine lv_bipush (v := 12) hx hb dL_act_448 (by decide) ?_
    have hf9 := wd_b2_e hf; clear hf; obtain ⟨r189, w187, hc188, hf⟩ := hf9
    refine z_callS (As := [.int (x1 >>> ((6 : Int32) &&& 31)), .int (12 : Int32)]) (rest := [.int (1 : Int32), .long (r186.toInt64 - x6)]) (c_L_below l E n w184 (x1 >>> ((6 : Int32) &&& 31)) (12 : Int32) r189 w187  hc188) mo_L_below tw_496 tw_495 hx hb hml hts hown hK ⟨Nat.le_trans (by decide) hR.1, Nat.le_trans (by decide) hR.2⟩ hZ rfl hl.1 rfl (Nat.le_of_ble_eq_true rfl) rfl dL_act_450 ?_; clear hZ; intro H locs cells slots hX hZ
    refine lv_iadd hx hb dL_act_453 ?_
    refine lv_i2l hx hb dL_act_454 rfl ?_
    refine W.lcmp hx hb dL_act_455 ?_
    refine lv_if_gt (tgt := 492) hx hb dL_act_456 (by decide) (fun h190 => ?_) (fun h190 => ?_)
    · replace hf := wd_ite_p h190 hf
      exact v_L_act_j492 n C hR hst htab w187 _ _ _ _ _ ⟨hZ.1, hZ.2.1, hZ.2.2.1, hZ.2.2.2.1, (fun _ hq => absurd hq List.not_mem_nil), hZ.2.2.2.2.2⟩ (lv_sub hl [] rfl) hf
    · replace hf := wd_ite_n h190 hf
      refine lv_iload hx hb dL_act_459 (lv_at hl 0 rfl) ?_
      refine lv_if_eq (tgt := 488) hx hb dL_act_461 (by decide) (fun h191 => ?_) (fun h191 => ?_)
      · replace hf := wd_ite_p h191 hf
        exact v_L_act_j488 n C hR hst htab w187 _ _ _ _ _ ⟨hZ.1, hZ.2.1, hZ.2.2.1, hZ.2.2.2.1, (fun _ hq => absurd hq List.not_mem_nil), hZ.2.2.2.2.2⟩ (lv_sub hl [] rfl) hf
      · replace hf := wd_ite_n h191 hf
        refine lv_aload_n (i := 0) hx hb dL_act_464 rfl (lv_at hl 1 rfl) ?_
        have hf9 := wd_b2_e hf; clear hf; obtain ⟨r194, w192, hc193, hf⟩ := hf9
        refine z_callV (ci := 11) (As := []) (rest := []) (c_X11_steps l E n w187 a176 r194 w192 (hZ.k 0 rfl rfl) hc193) mo_X11_steps rfl (by decide) rfl tw_522 tw_523 tw_521 hx hb hml hts hown hK ⟨Nat.le_trans (by decide) hR.1, Nat.le_trans (by decide) hR.2⟩ hZ (hZ.k 0 rfl rfl) rfl hl.1 rfl (Nat.le_of_ble_eq_true rfl) rfl dL_act_465 ?_; clear hZ; intro H locs cells slots hX hZ
        refine lv_i2l hx hb dL_act_468 rfl ?_
        refine lv_lload hx hb dL_act_469 (lv_at hl 3 rfl) ?_
        refine lv_lsub hx hb dL_act_471 ?_
        refine lv_iconst (v := 1) hx hb dL_act_472 (by decide) ?_
        refine lv_iload_n (i := 1) hx hb dL_act_473 rfl (lv_at hl 2 rfl) ?_
        refine lv_bipush (v := 6) hx hb dL_act_474 (by decide) ?_
        refine lv_ishr hx hb dL_act_476 ?_
        refine lv_bipush (v := 12) hx hb dL_act_477 (by decide) ?_
        have hf9 := wd_b2_e hf; clear hf; obtain ⟨r197, w195, hc196, hf⟩ := hf9
        refine z_callS (As := [.int (x1 >>> ((6 : Int32) &&& 31)), .int (12 : Int32)]) (rest := [.int (1 : Int32), .long (r194.toInt64 - x6)]) (c_L_below l E n w192 (x1 >>> ((6 : Int32) &&& 31)) (12 : Int32) r197 w195  hc196) mo_L_below tw_496 tw_495 hx hb hml hts hown hK ⟨Nat.le_trans (by decide) hR.1, Nat.le_trans (by decide) hR.2⟩ hZ rfl hl.1 rfl (Nat.le_of_ble_eq_true rfl) rfl dL_act_479 ?_; clear hZ; intro H locs cells slots hX hZ
        refine lv_iadd hx hb dL_act_482 ?_
        refine lv_i2l hx hb dL_act_483 rfl ?_
        refine W.lcmp hx hb dL_act_484 ?_
        refine lv_if_ne (tgt := 492) hx hb dL_act_485 (by decide) (fun h198 => ?_) (fun h198 => ?_)
        · replace hf := wd_ite_n h198 hf
          exact v_L_act_j492 n C hR hst htab w195 _ _ _ _ _ ⟨hZ.1, hZ.2.1, hZ.2.2.1, hZ.2.2.2.1, (fun _ hq => absurd hq List.not_mem_nil), hZ.2.2.2.2.2⟩ (lv_sub hl [] rfl) hf
        · replace hf := wd_ite_p h198 hf
          exact v_L_act_j488 n C hR hst htab w195 _ _ _ _ _ ⟨hZ.1, hZ.2.1, hZ.2.2.1, hZ.2.2.2.1, (fun _ hq => absurd hq List.not_mem_nil), hZ.2.2.2.2.2⟩ (lv_sub hl [] rfl) hf

set_option maxHeartbeats 4000000 in
set_option maxRecDepth 100000 in
theorem v_L_act_j576 {p : Program} {l : Launch} {e : Env} {R : Room} {s : State} {m : MethodId} {args : Array Value} {below : List Frame} {meth : Method} {c : Code} {E : wd_E} {w0 : Wd} {r' : Int32} {w' : Wd} (n : Nat) (C : wd_X p s m args meth c cL_act RL 16 (some .boolean) "act" E) (hR : 8 ≤ R.frames ∧ 205 ≤ R.locals) (hst : l.stackTraces = false) (htab : c.exceptionTable.toList = tableOf hh_L_act) (w : Wd) (H : Heap) (locs : List Loc) (cells slots : Nat) (ls : Array Slot) (hZ : wd_Z E w0 R s w H locs cells slots []) (hl : lv_has ls 16 []) (hf : f_L_act_j576 n w = some (r', w')) : W p l e R s m args below meth c H locs cells slots (wd_finW E w0 (some (.int r')) w' True R args s below) (F0 m 576 ls []) := by
  obtain ⟨hx, hb, hr, hml, hts, hown, hlocks, hmn, hK⟩ := id C
  unfold f_L_act_j576 at hf
  refine lv_iconst (v := 0) hx hb dL_act_576 (by decide) ?_
  obtain ⟨rfl, rfl⟩ := Prod.mk.inj (Option.some.inj hf)
  exact vx_ret (z_zret (by decide) hx hb hr hlocks hZ trivial dL_act_577)

set_option maxHeartbeats 4000000 in
set_option maxRecDepth 100000 in
theorem v_L_act_j525 {p : Program} {l : Launch} {e : Env} {R : Room} {s : State} {m : MethodId} {args : Array Value} {below : List Frame} {meth : Method} {c : Code} {E : wd_E} {w0 : Wd} {r' : Int32} {w' : Wd} (n : Nat) (C : wd_X p s m args meth c cL_act RL 16 (some .boolean) "act" E) (hR : 8 ≤ R.frames ∧ 205 ≤ R.locals) (hst : l.stackTraces = false) (htab : c.exceptionTable.toList = tableOf hh_L_act) (w : Wd) (H : Heap) (locs : List Loc) (cells slots : Nat) (ls : Array Slot) (hZ : wd_Z E w0 R s w H locs cells slots []) (hl : lv_has ls 16 []) (hf : f_L_act_j525 n w = some (r', w')) : W p l e R s m args below meth c H locs cells slots (wd_finW E w0 (some (.int r')) w' True R args s below) (F0 m 525 ls []) := by
  obtain ⟨hx, hb, hr, hml, hts, hown, hlocks, hmn, hK⟩ := id C
  unfold f_L_act_j525 at hf
  refine lv_iconst (v := 0) hx hb dL_act_525 (by decide) ?_
  obtain ⟨rfl, rfl⟩ := Prod.mk.inj (Option.some.inj hf)
  exact vx_ret (z_zret (by decide) hx hb hr hlocks hZ trivial dL_act_526)

set_option maxHeartbeats 4000000 in
set_option maxRecDepth 100000 in
theorem v_L_act_j685 {p : Program} {l : Launch} {e : Env} {R : Room} {s : State} {m : MethodId} {args : Array Value} {below : List Frame} {meth : Method} {c : Code} {E : wd_E} {w0 : Wd} {r' : Int32} {w' : Wd} (n : Nat) (C : wd_X p s m args meth c cL_act RL 16 (some .boolean) "act" E) (hR : 8 ≤ R.frames ∧ 205 ≤ R.locals) (hst : l.stackTraces = false) (htab : c.exceptionTable.toList = tableOf hh_L_act) (w : Wd) (H : Heap) (locs : List Loc) (cells slots : Nat) (ls : Array Slot) (hZ : wd_Z E w0 R s w H locs cells slots []) (hl : lv_has ls 16 []) (hf : f_L_act_j685 n w = some (r', w')) : W p l e R s m args below meth c H locs cells slots (wd_finW E w0 (some (.int r')) w' True R args s below) (F0 m 685 ls []) := by
  obtain ⟨hx, hb, hr, hml, hts, hown, hlocks, hmn, hK⟩ := id C
  unfold f_L_act_j685 at hf
  refine lv_goto (tgt := 766) hx hb dL_act_685 (by decide) ?_
  refine lv_iconst (v := 1) hx hb dL_act_766 (by decide) ?_
  obtain ⟨rfl, rfl⟩ := Prod.mk.inj (Option.some.inj hf)
  exact vx_ret (z_zret (by decide) hx hb hr hlocks hZ trivial dL_act_767)

set_option maxHeartbeats 4000000 in
set_option maxRecDepth 100000 in
theorem v_L_act_j681 {p : Program} {l : Launch} {e : Env} {R : Room} {s : State} {m : MethodId} {args : Array Value} {below : List Frame} {meth : Method} {c : Code} {E : wd_E} {w0 : Wd} {r' : Int32} {w' : Wd} (n : Nat) (C : wd_X p s m args meth c cL_act RL 16 (some .boolean) "act" E) (hR : 8 ≤ R.frames ∧ 205 ≤ R.locals) (hst : l.stackTraces = false) (htab : c.exceptionTable.toList = tableOf hh_L_act) (y0 : Int32) (y1 : Int32) (y2 : Option Nat) (w : Wd) (H : Heap) (locs : List Loc) (cells slots : Nat) (ls : Array Slot) (hZ : wd_Z E w0 R s w H locs cells slots [(y2, 12)]) (hl : lv_has ls 16 []) (hf : f_L_act_j681 n y0 y1 y2 w = some (r', w')) : W p l e R s m args below meth c H locs cells slots (wd_finW E w0 (some (.int r')) w' True R args s below) (F0 m 681 ls [.int y0, .int y1, va_rf y2]) := by
  obtain ⟨hx, hb, hr, hml, hts, hown, hlocks, hmn, hK⟩ := id C
  unfold f_L_act_j681 at hf
  have hf9 := Option.bind_eq_some_iff.mp hf; clear hf; obtain ⟨a244, ha244, hf⟩ := hf9
  subst ha244
  replace hl : lv_has ls 16 [] := hl
  replace hZ : wd_Z E w0 R s w H locs cells slots [(some a244, 12)] := hZ
  have hf9 := wd_b2_e hf; clear hf; obtain ⟨r247, w245, hc246, hf⟩ := hf9
  refine z_callV (ci := 11) (As := [.int y1, .int y0]) (rest := []) (c_X11_setForwarding l E n w a244 y1 y0 r247 w245 (hZ.k 0 rfl rfl) hc246) mo_X11_setForwarding rfl (by decide) rfl tw_979 tw_980 tw_978 hx hb hml hts hown hK ⟨Nat.le_trans (by decide) hR.1, Nat.le_trans (by decide) hR.2⟩ hZ (hZ.k 0 rfl rfl) rfl hl.1 rfl (Nat.le_of_ble_eq_true rfl) rfl dL_act_681 ?_; clear hZ; intro H locs cells slots hX hZ
  refine lv_pop hx hb dL_act_684 rfl ?_
  exact v_L_act_j685 n C hR hst htab w245 _ _ _ _ _ ⟨hZ.1, hZ.2.1, hZ.2.2.1, hZ.2.2.2.1, (fun _ hq => absurd hq List.not_mem_nil), hZ.2.2.2.2.2⟩ (lv_sub hl [] rfl) hf

set_option maxHeartbeats 4000000 in
set_option maxRecDepth 100000 in
theorem v_L_act_j606 {p : Program} {l : Launch} {e : Env} {R : Room} {s : State} {m : MethodId} {args : Array Value} {below : List Frame} {meth : Method} {c : Code} {E : wd_E} {w0 : Wd} {r' : Int32} {w' : Wd} (n : Nat) (C : wd_X p s m args meth c cL_act RL 16 (some .boolean) "act" E) (hR : 8 ≤ R.frames ∧ 205 ≤ R.locals) (hst : l.stackTraces = false) (htab : c.exceptionTable.toList = tableOf hh_L_act) (y0 : Int32) (y1 : Option Nat) (x0 : Option Nat) (x4 : Int32) (x5 : Int32) (w : Wd) (H : Heap) (locs : List Loc) (cells slots : Nat) (ls : Array Slot) (hZ : wd_Z E w0 R s w H locs cells slots [(y1, 12), (x0, 12)]) (hl : lv_has ls 16 [(0, va_rf x0), (4, .int x4), (5, .int x5)]) (hf : f_L_act_j606 n y0 y1 x0 x4 x5 w = some (r', w')) : W p l e R s m args below meth c H locs cells slots (wd_finW E w0 (some (.int r')) w' True R args s below) (F0 m 606 ls [.int y0, va_rf y1]) := by
  obtain ⟨hx, hb, hr, hml, hts, hown, hlocks, hmn, hK⟩ := id C
  unfold f_L_act_j606 at hf
  have hf9 := Option.bind_eq_some_iff.mp hf; clear hf; obtain ⟨a261, ha261, hf⟩ := hf9
  subst ha261
  replace hl : lv_has ls 16 [(0, va_rf x0), (4, .int x4), (5, .int x5)] := hl
  replace hZ : wd_Z E w0 R s w H locs cells slots [(some a261, 12), (x0, 12)] := hZ
  have hf9 := wd_b2_e hf; clear hf; obtain ⟨o264, w262, hc263, hf⟩ := hf9
  refine z_callVX (ci := 11) (As := [.int y0]) (rest := []) (c_X11_addMachine l hst E n w a261 y0 o264 w262 (hZ.k 0 rfl rfl) hc263) mo_X11_addMachine rfl (by decide) rfl tw_412 tw_413 tw_411 hx hb hml hts hown hK ⟨Nat.le_trans (by decide) hR.1, Nat.le_trans (by decide) hR.2⟩ hZ (hZ.k 0 rfl rfl) rfl hl.1 rfl (Nat.le_of_ble_eq_true rfl) dL_act_606 ?_ ?_
  · clear hZ; intro r265 h266 H locs cells slots hZ
    replace hf := wd_ox_s h266 hf
    refine z_aload_n (i := 0) hx hb dL_act_609 rfl (lv_at hl 0 rfl) ?_
    have hf9 := Option.bind_eq_some_iff.mp hf; clear hf; obtain ⟨a267, ha267, hf⟩ := hf9
    subst ha267
    replace hl : lv_has ls 16 [(0, .ref a267), (4, .int x4), (5, .int x5)] := hl
    replace hZ : wd_Z E w0 R s w262 H locs cells slots [(some a261, 12), (some a267, 12)] := hZ
    have hf9 := wd_b2_e hf; clear hf; obtain ⟨r270, w268, hc269, hf⟩ := hf9
    refine z_callV (ci := 11) (As := []) (rest := [.int r265]) (c_X11_machines l E n w262 a267 r270 w268 (hZ.k 1 rfl rfl) hc269) mo_X11_machines rfl (by decide) rfl tw_510 tw_511 tw_509 hx hb hml hts hown hK ⟨Nat.le_trans (by decide) hR.1, Nat.le_trans (by decide) hR.2⟩ hZ (hZ.k 1 rfl rfl) rfl hl.1 rfl (Nat.le_of_ble_eq_true rfl) rfl dL_act_610 ?_; clear hZ; intro H locs cells slots hX hZ
    refine lv_iconst (v := 1) hx hb dL_act_613 (by decide) ?_
    refine lv_isub hx hb dL_act_614 ?_
    refine lv_icmp_ne (tgt := 622) hx hb dL_act_615 (by decide) (fun h271 => ?_) (fun h271 => ?_)
    · replace hf := wd_ite_n h271 hf
      refine lv_iconst (v := 0) hx hb dL_act_622 (by decide) ?_
      obtain ⟨rfl, rfl⟩ := Prod.mk.inj (Option.some.inj hf)
      exact vx_ret (z_zret (by decide) hx hb hr hlocks hZ trivial dL_act_623)
    · replace hf := wd_ite_p h271 hf
      refine lv_iconst (v := 1) hx hb dL_act_618 (by decide) ?_
      refine lv_goto (tgt := 623) hx hb dL_act_619 (by decide) ?_
      obtain ⟨rfl, rfl⟩ := Prod.mk.inj (Option.some.inj hf)
      exact vx_ret (z_zret (by decide) hx hb hr hlocks hZ trivial dL_act_623)
  · clear hZ; intro h266 H locs cells slots q272 ce hZ hce hcv hcl
    replace hf := wd_ox_n h266 hf
    refine z_catch htab 28 ⟨578, 623, 740, 107⟩ rfl (by decide +kernel) (by decide) rfl hts hown hK tw_506 tw_507 tw_508 hce hcv hcl ?_
    refine lv_astore (i := 8) (lv' := [(8, .ref q272), (0, va_rf x0), (4, .int x4), (5, .int x5)]) hx hb dL_act_740 hl (by decide) rfl ?_; clear hl; intro ls hl
    refine z_aload_n (i := 0) hx hb dL_act_742 rfl (lv_at hl 1 rfl) ?_
    have hf9 := Option.bind_eq_some_iff.mp hf; clear hf; obtain ⟨a273, ha273, hf⟩ := hf9
    subst ha273
    replace hl : lv_has ls 16 [(8, .ref q272), (0, .ref a273), (4, .int x4), (5, .int x5)] := hl
    replace hZ : wd_Z E w0 R s w262 H locs cells slots [(some a261, 12), (some a273, 12)] := hZ
    have hf9 := wd_b2_e hf; clear hf; obtain ⟨r276, w274, hc275, hf⟩ := hf9
    refine z_callV (ci := 11) (As := []) (rest := []) (c_X11_packets l E n w262 a273 r276 w274 (hZ.k 1 rfl rfl) hc275) mo_X11_packets rfl (by decide) rfl tw_514 tw_515 tw_513 hx hb hml hts hown hK ⟨Nat.le_trans (by decide) hR.1, Nat.le_trans (by decide) hR.2⟩ hZ (hZ.k 1 rfl rfl) rfl hl.1 rfl (Nat.le_of_ble_eq_true rfl) rfl dL_act_743 ?_; clear hZ; intro H locs cells slots hX hZ
    refine lv_iload hx hb dL_act_746 (lv_at hl 2 rfl) ?_
    refine lv_icmp_ne (tgt := 764) hx hb dL_act_748 (by decide) (fun h277 => ?_) (fun h277 => ?_)
    · replace hf := wd_ite_n h277 hf
      exact v_L_act_j764 n C hR hst htab w274 _ _ _ _ _ ⟨hZ.1, hZ.2.1, hZ.2.2.1, hZ.2.2.2.1, (fun _ hq => absurd hq List.not_mem_nil), hZ.2.2.2.2.2⟩ (lv_sub hl [] rfl) hf
    · replace hf := wd_ite_p h277 hf
      refine lv_aload_n (i := 0) hx hb dL_act_751 rfl (lv_at hl 1 rfl) ?_
      have hf9 := wd_b2_e hf; clear hf; obtain ⟨r280, w278, hc279, hf⟩ := hf9
      refine z_callV (ci := 11) (As := []) (rest := []) (c_X11_frames l E n w274 a273 r280 w278 (hZ.k 1 rfl rfl) hc279) mo_X11_frames rfl (by decide) rfl tw_518 tw_519 tw_517 hx hb hml hts hown hK ⟨Nat.le_trans (by decide) hR.1, Nat.le_trans (by decide) hR.2⟩ hZ (hZ.k 1 rfl rfl) rfl hl.1 rfl (Nat.le_of_ble_eq_true rfl) rfl dL_act_752 ?_; clear hZ; intro H locs cells slots hX hZ
      refine lv_iload hx hb dL_act_755 (lv_at hl 3 rfl) ?_
      refine lv_icmp_ne (tgt := 764) hx hb dL_act_757 (by decide) (fun h281 => ?_) (fun h281 => ?_)
      · replace hf := wd_ite_n h281 hf
        exact v_L_act_j764 n C hR hst htab w278 _ _ _ _ _ ⟨hZ.1, hZ.2.1, hZ.2.2.1, hZ.2.2.2.1, (fun _ hq => absurd hq List.not_mem_nil), hZ.2.2.2.2.2⟩ (lv_sub hl [] rfl) hf
      · replace hf := wd_ite_p h281 hf
        refine lv_iconst (v := 1) hx hb dL_act_760 (by decide) ?_
        refine lv_goto (tgt := 765) hx hb dL_act_761 (by decide) ?_
        obtain ⟨rfl, rfl⟩ := Prod.mk.inj (Option.some.inj hf)
        exact vx_ret (z_zret (by decide) hx hb hr hlocks hZ trivial dL_act_765)

set_option maxHeartbeats 4000000 in
set_option maxRecDepth 100000 in
theorem c_L_act (l : Launch) (hst : l.stackTraces = false) (E : wd_E) (n : Nat) (w : Wd) (p0 : Option Nat) (p1 : Int32) (p2 : Option Nat) (r' : Int32) (w' : Wd) (k_p0 : ∀ q, p0 = some q → wd_K w q = 12) (k_p2 : ∀ q, p2 = some q → wd_K w q = 26) (hf : f_L_act n w p0 p1 p2 = some (r', w')) : wd_CW l E yL_act cL_act 16 (some .boolean) hh_L_act 8 205 [va_rf p0, .int p1, va_rf p2] w (some (.int r')) w' True := by
  refine wd_ofH (own := RL) (nm := "act") (ks := [(p0, 12), (p2, 26)]) (lv := [(0, va_rf p0), (1, .int p1), (2, va_rf p2)]) (by decide) rfl rfl (by simp [lg_sl, va_rf_cat, va_cat_r, va_cat_i, va_cat_l, va_cat_d]) (by simp [lv_args, va_rf_cat, va_cat_r, va_cat_i, va_cat_l, va_cat_d]) (List.forall_mem_cons.mpr ⟨⟨Nat.succ_ne_zero _, k_p0⟩, (List.forall_mem_cons.mpr ⟨⟨Nat.succ_ne_zero _, k_p2⟩, (fun _ hq => absurd hq List.not_mem_nil)⟩)⟩) ?_
  intro p e s m args below meth c R H locs cells slots ls C hR htab hZ hl
  obtain ⟨hx, hb, hr, hml, hts, hown, hlocks, hmn, hK⟩ := id C
  unfold f_L_act at hf
  refine lv_iload_n (i := 1) hx hb dL_act_0 rfl (lv_at hl 1 rfl) ?_
  refine lv_iconst (v := 4) hx hb dL_act_1 (by decide) ?_
  refine lv_ishr hx hb dL_act_2 ?_
  refine z_aload_n (i := 0) hx hb dL_act_3 rfl (lv_at hl 0 rfl) ?_
  have hf9 := Option.bind_eq_some_iff.mp hf; clear hf; obtain ⟨a1, ha1, hf⟩ := hf9
  subst ha1
  replace hl : lv_has ls 16 [(0, .ref a1), (1, .int p1), (2, va_rf p2)] := hl
  replace hZ : wd_Z E w R s w H locs cells slots [(some a1, 12), (p2, 26)] := hZ
  have hf9 := wd_b2_e hf; clear hf; obtain ⟨r4, w2, hc3, hf⟩ := hf9
  refine z_callV (ci := 11) (As := []) (rest := [.int (p1 >>> ((4 : Int32) &&& 31))]) (c_X11_machines l E n w a1 r4 w2 (hZ.k 0 rfl rfl) hc3) mo_X11_machines rfl (by decide) rfl tw_510 tw_511 tw_509 hx hb hml hts hown hK ⟨Nat.le_trans (by decide) hR.1, Nat.le_trans (by decide) hR.2⟩ hZ (hZ.k 0 rfl rfl) rfl hl.1 rfl (Nat.le_of_ble_eq_true rfl) rfl dL_act_4 ?_; clear hZ; intro H locs cells slots hX hZ
  have hf9 := wd_b2_e hf; clear hf; obtain ⟨r7, w5, hc6, hf⟩ := hf9
  refine z_callS (As := [.int (p1 >>> ((4 : Int32) &&& 31)), .int r4]) (rest := []) (c_L_below l E n w2 (p1 >>> ((4 : Int32) &&& 31)) r4 r7 w5  hc6) mo_L_below tw_496 tw_495 hx hb hml hts hown hK ⟨Nat.le_trans (by decide) hR.1, Nat.le_trans (by decide) hR.2⟩ hZ rfl hl.1 rfl (Nat.le_of_ble_eq_true rfl) rfl dL_act_7 ?_; clear hZ; intro H locs cells slots hX hZ
  refine lv_istore_n (i := 3) (lv' := [(3, .int r7), (0, .ref a1), (1, .int p1), (2, va_rf p2)]) hx hb dL_act_10 rfl hl (by decide) (by simp [va_rf_cat, va_cat_r, va_cat_i, va_cat_l, va_cat_d]) ?_; clear hl; intro ls hl
  refine lv_aload_n (i := 0) hx hb dL_act_11 rfl (lv_at hl 1 rfl) ?_
  have hf9 := wd_b2_e hf; clear hf; obtain ⟨r10, w8, hc9, hf⟩ := hf9
  refine z_callV (ci := 11) (As := []) (rest := []) (c_X11_packets l E n w5 a1 r10 w8 (hZ.k 0 rfl rfl) hc9) mo_X11_packets rfl (by decide) rfl tw_514 tw_515 tw_513 hx hb hml hts hown hK ⟨Nat.le_trans (by decide) hR.1, Nat.le_trans (by decide) hR.2⟩ hZ (hZ.k 0 rfl rfl) rfl hl.1 rfl (Nat.le_of_ble_eq_true rfl) rfl dL_act_12 ?_; clear hZ; intro H locs cells slots hX hZ
  refine lv_istore (i := 4) (lv' := [(4, .int r10), (3, .int r7), (0, .ref a1), (1, .int p1), (2, va_rf p2)]) hx hb dL_act_15 hl (by decide) rfl ?_; clear hl; intro ls hl
  refine lv_aload_n (i := 0) hx hb dL_act_17 rfl (lv_at hl 2 rfl) ?_
  have hf9 := wd_b2_e hf; clear hf; obtain ⟨r13, w11, hc12, hf⟩ := hf9
  refine z_callV (ci := 11) (As := []) (rest := []) (c_X11_frames l E n w8 a1 r13 w11 (hZ.k 0 rfl rfl) hc12) mo_X11_frames rfl (by decide) rfl tw_518 tw_519 tw_517 hx hb hml hts hown hK ⟨Nat.le_trans (by decide) hR.1, Nat.le_trans (by decide) hR.2⟩ hZ (hZ.k 0 rfl rfl) rfl hl.1 rfl (Nat.le_of_ble_eq_true rfl) rfl dL_act_18 ?_; clear hZ; intro H locs cells slots hX hZ
  refine lv_istore (i := 5) (lv' := [(5, .int r13), (4, .int r10), (3, .int r7), (0, .ref a1), (1, .int p1), (2, va_rf p2)]) hx hb dL_act_21 hl (by decide) rfl ?_; clear hl; intro ls hl
  refine lv_aload_n (i := 0) hx hb dL_act_23 rfl (lv_at hl 3 rfl) ?_
  have hf9 := wd_b2_e hf; clear hf; obtain ⟨r16, w14, hc15, hf⟩ := hf9
  refine z_callV (ci := 11) (As := []) (rest := []) (c_X11_steps l E n w11 a1 r16 w14 (hZ.k 0 rfl rfl) hc15) mo_X11_steps rfl (by decide) rfl tw_522 tw_523 tw_521 hx hb hml hts hown hK ⟨Nat.le_trans (by decide) hR.1, Nat.le_trans (by decide) hR.2⟩ hZ (hZ.k 0 rfl rfl) rfl hl.1 rfl (Nat.le_of_ble_eq_true rfl) rfl dL_act_24 ?_; clear hZ; intro H locs cells slots hX hZ
  refine lv_i2l hx hb dL_act_27 rfl ?_
  have hf9 := wd_let_e hf; clear hf; obtain ⟨v17, e18, hf⟩ := hf9
  rw [e18]
  refine lv_lstore (i := 6) (lv' := [(6, .long v17), (5, .int r13), (4, .int r10), (3, .int r7), (0, .ref a1), (1, .int p1), (2, va_rf p2)]) hx hb dL_act_28 hl (by decide) rfl ?_; clear hl; intro ls hl
  refine lv_iload_n (i := 1) hx hb dL_act_30 rfl (lv_at hl 5 rfl) ?_
  refine lv_bipush (v := 12) hx hb dL_act_31 (by decide) ?_
  have hf9 := wd_b2_e hf; clear hf; obtain ⟨r21, w19, hc20, hf⟩ := hf9
  refine z_callS (As := [.int p1, .int (12 : Int32)]) (rest := []) (c_L_below l E n w14 p1 (12 : Int32) r21 w19  hc20) mo_L_below tw_496 tw_495 hx hb hml hts hown hK ⟨Nat.le_trans (by decide) hR.1, Nat.le_trans (by decide) hR.2⟩ hZ rfl hl.1 rfl (Nat.le_of_ble_eq_true rfl) rfl dL_act_33 ?_; clear hZ; intro H locs cells slots hX hZ
  by_cases h22 : r21 = 0
  · replace hf := wd_ite_p h22 hf
    refine lv_tableIn (off := 60) (tgt := 96) hx hb dL_act_36 (by rw [h22]; decide) (by rw [h22]; decide) (by rw [h22]; rfl) (by decide) ?_
    exact v_L_act_j96 n C hR hst htab (some a1) p1 p2 r7 r10 r13 w19 _ _ _ _ _ ⟨hZ.1, hZ.2.1, hZ.2.2.1, hZ.2.2.2.1, (List.forall_mem_cons.mpr ⟨⟨Nat.succ_ne_zero _, (fun q hq => by cases hq; exact (hZ.k 0 rfl rfl))⟩, (List.forall_mem_cons.mpr ⟨⟨Nat.succ_ne_zero _, (fun q hq => hZ.k 1 rfl hq)⟩, (fun _ hq => absurd hq List.not_mem_nil)⟩)⟩), hZ.2.2.2.2.2⟩ (lv_sub hl [4, 5, 6, 3, 2, 1] rfl) hf
  replace hf := wd_ite_n h22 hf
  by_cases h62 : r21 = 1
  · replace hf := wd_ite_p h62 hf
    refine lv_tableIn (off := 60) (tgt := 96) hx hb dL_act_36 (by rw [h62]; decide) (by rw [h62]; decide) (by rw [h62]; rfl) (by decide) ?_
    exact v_L_act_j96 n C hR hst htab (some a1) p1 p2 r7 r10 r13 w19 _ _ _ _ _ ⟨hZ.1, hZ.2.1, hZ.2.2.1, hZ.2.2.2.1, (List.forall_mem_cons.mpr ⟨⟨Nat.succ_ne_zero _, (fun q hq => by cases hq; exact (hZ.k 0 rfl rfl))⟩, (List.forall_mem_cons.mpr ⟨⟨Nat.succ_ne_zero _, (fun q hq => hZ.k 1 rfl hq)⟩, (fun _ hq => absurd hq List.not_mem_nil)⟩)⟩), hZ.2.2.2.2.2⟩ (lv_sub hl [4, 5, 6, 3, 2, 1] rfl) hf
  replace hf := wd_ite_n h62 hf
  by_cases h63 : r21 = 2
  · replace hf := wd_ite_p h63 hf
    refine lv_tableIn (off := 138) (tgt := 174) hx hb dL_act_36 (by rw [h63]; decide) (by rw [h63]; decide) (by rw [h63]; rfl) (by decide) ?_
    refine lv_aload_n (i := 0) hx hb dL_act_174 rfl (lv_at hl 4 rfl) ?_
    refine lv_iload_n (i := 3) hx hb dL_act_175 rfl (lv_at hl 3 rfl) ?_
    refine lv_bipush (v := 16) hx hb dL_act_176 (by decide) ?_
    refine lv_iload_n (i := 1) hx hb dL_act_178 rfl (lv_at hl 5 rfl) ?_
    refine lv_iconst (v := 5) hx hb dL_act_179 (by decide) ?_
    refine lv_ishr hx hb dL_act_180 ?_
    refine lv_iconst (v := 4) hx hb dL_act_181 (by decide) ?_
    have hf9 := wd_b2_e hf; clear hf; obtain ⟨r66, w64, hc65, hf⟩ := hf9
    refine z_callS (As := [.int (p1 >>> ((5 : Int32) &&& 31)), .int (4 : Int32)]) (rest := [.int (16 : Int32), .int r7, .ref a1]) (c_L_below l E n w19 (p1 >>> ((5 : Int32) &&& 31)) (4 : Int32) r66 w64  hc65) mo_L_below tw_496 tw_495 hx hb hml hts hown hK ⟨Nat.le_trans (by decide) hR.1, Nat.le_trans (by decide) hR.2⟩ hZ rfl hl.1 rfl (Nat.le_of_ble_eq_true rfl) rfl dL_act_182 ?_; clear hZ; intro H locs cells slots hX hZ
    refine lv_imul hx hb dL_act_185 ?_
    refine lv_iload_n (i := 1) hx hb dL_act_186 rfl (lv_at hl 5 rfl) ?_
    refine lv_bipush (v := 7) hx hb dL_act_187 (by decide) ?_
    refine lv_ishr hx hb dL_act_189 ?_
    refine lv_iconst (v := 5) hx hb dL_act_190 (by decide) ?_
    have hf9 := wd_b2_e hf; clear hf; obtain ⟨r69, w67, hc68, hf⟩ := hf9
    refine z_callS (As := [.int (p1 >>> ((7 : Int32) &&& 31)), .int (5 : Int32)]) (rest := [.int ((16 : Int32) * r66), .int r7, .ref a1]) (c_L_below l E n w64 (p1 >>> ((7 : Int32) &&& 31)) (5 : Int32) r69 w67  hc68) mo_L_below tw_496 tw_495 hx hb hml hts hown hK ⟨Nat.le_trans (by decide) hR.1, Nat.le_trans (by decide) hR.2⟩ hZ rfl hl.1 rfl (Nat.le_of_ble_eq_true rfl) rfl dL_act_191 ?_; clear hZ; intro H locs cells slots hX hZ
    refine z_aload_n (i := 2) hx hb dL_act_194 rfl (lv_at hl 6 rfl) ?_
    refine lv_iload_n (i := 1) hx hb dL_act_195 rfl (lv_at hl 5 rfl) ?_
    refine lv_bipush (v := 6) hx hb dL_act_196 (by decide) ?_
    refine lv_ishr hx hb dL_act_198 ?_
    have hf9 := wd_b2_e hf; clear hf; obtain ⟨r72, w70, hc71, hf⟩ := hf9
    refine z_callS (As := [va_rf p2, .int (p1 >>> ((6 : Int32) &&& 31))]) (rest := [.int r69, .int ((16 : Int32) * r66), .int r7, .ref a1]) (c_L_addressOf l E n w67 p2 (p1 >>> ((6 : Int32) &&& 31)) r72 w70 (fun q hq => hZ.k 1 rfl hq) hc71) mo_L_addressOf tw_607 tw_606 hx hb hml hts hown hK ⟨Nat.le_trans (by decide) hR.1, Nat.le_trans (by decide) hR.2⟩ hZ rfl hl.1 rfl (Nat.le_of_ble_eq_true rfl) rfl dL_act_199 ?_; clear hZ; intro H locs cells slots hX hZ
    have hf9 := wd_b2_e hf; clear hf; obtain ⟨o75, w73, hc74, hf⟩ := hf9
    refine z_callVX (ci := 11) (As := [.int r7, .int ((16 : Int32) * r66), .int r69, .int r72]) (rest := []) (c_X11_addRoute l hst E n w70 a1 r7 ((16 : Int32) * r66) r69 r72 o75 w73 (hZ.k 0 rfl rfl) hc74) mo_X11_addRoute rfl (by decide) rfl tw_610 tw_611 tw_609 hx hb hml hts hown hK ⟨Nat.le_trans (by decide) hR.1, Nat.le_trans (by decide) hR.2⟩ hZ (hZ.k 0 rfl rfl) rfl hl.1 rfl (Nat.le_of_ble_eq_true rfl) dL_act_202 ?_ ?_
    · clear hZ; intro r76 h77 H locs cells slots hZ
      replace hf := wd_ox_s h77 hf
      refine lv_bipush (v := 6) hx hb dL_act_205 (by decide) ?_
      refine lv_icmp_ge (tgt := 214) hx hb dL_act_207 (by decide) (fun h78 => ?_) (fun h78 => ?_)
      · replace hf := wd_ite_p h78 hf
        refine lv_iconst (v := 0) hx hb dL_act_214 (by decide) ?_
        obtain ⟨rfl, rfl⟩ := Prod.mk.inj (Option.some.inj hf)
        exact vx_ret (z_zret (by decide) hx hb hr hlocks hZ trivial dL_act_215)
      · replace hf := wd_ite_n h78 hf
        refine lv_iconst (v := 1) hx hb dL_act_210 (by decide) ?_
        refine lv_goto (tgt := 215) hx hb dL_act_211 (by decide) ?_
        obtain ⟨rfl, rfl⟩ := Prod.mk.inj (Option.some.inj hf)
        exact vx_ret (z_zret (by decide) hx hb hr hlocks hZ trivial dL_act_215)
    · clear hZ; intro h77 H locs cells slots q79 ce hZ hce hcv hcl
      replace hf := wd_ox_n h77 hf
      refine z_catch htab 22 ⟨174, 215, 740, 107⟩ rfl (by decide +kernel) (by decide) rfl hts hown hK tw_506 tw_507 tw_508 hce hcv hcl ?_
      refine lv_astore (i := 8) (lv' := [(8, .ref q79), (6, .long v17), (5, .int r13), (4, .int r10), (3, .int r7), (0, .ref a1), (1, .int p1), (2, va_rf p2)]) hx hb dL_act_740 hl (by decide) rfl ?_; clear hl; intro ls hl
      refine lv_aload_n (i := 0) hx hb dL_act_742 rfl (lv_at hl 5 rfl) ?_
      have hf9 := wd_b2_e hf; clear hf; obtain ⟨r82, w80, hc81, hf⟩ := hf9
      refine z_callV (ci := 11) (As := []) (rest := []) (c_X11_packets l E n w73 a1 r82 w80 (hZ.k 0 rfl rfl) hc81) mo_X11_packets rfl (by decide) rfl tw_514 tw_515 tw_513 hx hb hml hts hown hK ⟨Nat.le_trans (by decide) hR.1, Nat.le_trans (by decide) hR.2⟩ hZ (hZ.k 0 rfl rfl) rfl hl.1 rfl (Nat.le_of_ble_eq_true rfl) rfl dL_act_743 ?_; clear hZ; intro H locs cells slots hX hZ
      refine lv_iload hx hb dL_act_746 (lv_at hl 3 rfl) ?_
      refine lv_icmp_ne (tgt := 764) hx hb dL_act_748 (by decide) (fun h83 => ?_) (fun h83 => ?_)
      · replace hf := wd_ite_n h83 hf
        exact v_L_act_j764 n C hR hst htab w80 _ _ _ _ _ ⟨hZ.1, hZ.2.1, hZ.2.2.1, hZ.2.2.2.1, (fun _ hq => absurd hq List.not_mem_nil), hZ.2.2.2.2.2⟩ (lv_sub hl [] rfl) hf
      · replace hf := wd_ite_p h83 hf
        refine lv_aload_n (i := 0) hx hb dL_act_751 rfl (lv_at hl 5 rfl) ?_
        have hf9 := wd_b2_e hf; clear hf; obtain ⟨r86, w84, hc85, hf⟩ := hf9
        refine z_callV (ci := 11) (As := []) (rest := []) (c_X11_frames l E n w80 a1 r86 w84 (hZ.k 0 rfl rfl) hc85) mo_X11_frames rfl (by decide) rfl tw_518 tw_519 tw_517 hx hb hml hts hown hK ⟨Nat.le_trans (by decide) hR.1, Nat.le_trans (by decide) hR.2⟩ hZ (hZ.k 0 rfl rfl) rfl hl.1 rfl (Nat.le_of_ble_eq_true rfl) rfl dL_act_752 ?_; clear hZ; intro H locs cells slots hX hZ
        refine lv_iload hx hb dL_act_755 (lv_at hl 2 rfl) ?_
        refine lv_icmp_ne (tgt := 764) hx hb dL_act_757 (by decide) (fun h87 => ?_) (fun h87 => ?_)
        · replace hf := wd_ite_n h87 hf
          exact v_L_act_j764 n C hR hst htab w84 _ _ _ _ _ ⟨hZ.1, hZ.2.1, hZ.2.2.1, hZ.2.2.2.1, (fun _ hq => absurd hq List.not_mem_nil), hZ.2.2.2.2.2⟩ (lv_sub hl [] rfl) hf
        · replace hf := wd_ite_p h87 hf
          refine lv_iconst (v := 1) hx hb dL_act_760 (by decide) ?_
          refine lv_goto (tgt := 765) hx hb dL_act_761 (by decide) ?_
          obtain ⟨rfl, rfl⟩ := Prod.mk.inj (Option.some.inj hf)
          exact vx_ret (z_zret (by decide) hx hb hr hlocks hZ trivial dL_act_765)
  replace hf := wd_ite_n h63 hf
  by_cases h88 : r21 = 3
  · replace hf := wd_ite_p h88 hf
    refine lv_tableIn (off := 180) (tgt := 216) hx hb dL_act_36 (by rw [h88]; decide) (by rw [h88]; decide) (by rw [h88]; rfl) (by decide) ?_
    refine lv_aload_n (i := 0) hx hb dL_act_216 rfl (lv_at hl 4 rfl) ?_
    refine lv_iload_n (i := 3) hx hb dL_act_217 rfl (lv_at hl 3 rfl) ?_
    refine z_aload_n (i := 2) hx hb dL_act_218 rfl (lv_at hl 6 rfl) ?_
    refine lv_iload_n (i := 1) hx hb dL_act_219 rfl (lv_at hl 5 rfl) ?_
    refine lv_bipush (v := 6) hx hb dL_act_220 (by decide) ?_
    refine lv_ishr hx hb dL_act_222 ?_
    have hf9 := wd_b2_e hf; clear hf; obtain ⟨r91, w89, hc90, hf⟩ := hf9
    refine z_callS (As := [va_rf p2, .int (p1 >>> ((6 : Int32) &&& 31))]) (rest := [.int r7, .ref a1]) (c_L_addressOf l E n w19 p2 (p1 >>> ((6 : Int32) &&& 31)) r91 w89 (fun q hq => hZ.k 1 rfl hq) hc90) mo_L_addressOf tw_607 tw_606 hx hb hml hts hown hK ⟨Nat.le_trans (by decide) hR.1, Nat.le_trans (by decide) hR.2⟩ hZ rfl hl.1 rfl (Nat.le_of_ble_eq_true rfl) rfl dL_act_223 ?_; clear hZ; intro H locs cells slots hX hZ
    have hf9 := wd_b2_e hf; clear hf; obtain ⟨o94, w92, hc93, hf⟩ := hf9
    refine z_callVX (ci := 11) (As := [.int r7, .int r91]) (rest := []) (c_X11_addTunnel l hst E n w89 a1 r7 r91 o94 w92 (hZ.k 0 rfl rfl) hc93) mo_X11_addTunnel rfl (by decide) rfl tw_624 tw_625 tw_623 hx hb hml hts hown hK ⟨Nat.le_trans (by decide) hR.1, Nat.le_trans (by decide) hR.2⟩ hZ (hZ.k 0 rfl rfl) rfl hl.1 rfl (Nat.le_of_ble_eq_true rfl) dL_act_226 ?_ ?_
    · clear hZ; intro r95 h96 H locs cells slots hZ
      replace hf := wd_ox_s h96 hf
      refine lv_iconst (v := 2) hx hb dL_act_229 (by decide) ?_
      refine lv_icmp_ge (tgt := 259) hx hb dL_act_230 (by decide) (fun h97 => ?_) (fun h97 => ?_)
      · replace hf := wd_ite_p h97 hf
        exact v_L_act_j259 n C hR hst htab w92 _ _ _ _ _ ⟨hZ.1, hZ.2.1, hZ.2.2.1, hZ.2.2.2.1, (fun _ hq => absurd hq List.not_mem_nil), hZ.2.2.2.2.2⟩ (lv_sub hl [] rfl) hf
      · replace hf := wd_ite_n h97 hf
        refine lv_aload_n (i := 0) hx hb dL_act_233 rfl (lv_at hl 4 rfl) ?_
        refine lv_iload_n (i := 3) hx hb dL_act_234 rfl (lv_at hl 3 rfl) ?_
        refine lv_bipush (v := 16) hx hb dL_act_235 (by decide) ?_
        refine lv_iload_n (i := 1) hx hb dL_act_237 rfl (lv_at hl 5 rfl) ?_
        refine lv_iconst (v := 5) hx hb dL_act_238 (by decide) ?_
        refine lv_ishr hx hb dL_act_239 ?_
        refine lv_iconst (v := 4) hx hb dL_act_240 (by decide) ?_
        have hf9 := wd_b2_e hf; clear hf; obtain ⟨r100, w98, hc99, hf⟩ := hf9
        refine z_callS (As := [.int (p1 >>> ((5 : Int32) &&& 31)), .int (4 : Int32)]) (rest := [.int (16 : Int32), .int r7, .ref a1]) (c_L_below l E n w92 (p1 >>> ((5 : Int32) &&& 31)) (4 : Int32) r100 w98  hc99) mo_L_below tw_496 tw_495 hx hb hml hts hown hK ⟨Nat.le_trans (by decide) hR.1, Nat.le_trans (by decide) hR.2⟩ hZ rfl hl.1 rfl (Nat.le_of_ble_eq_true rfl) rfl dL_act_241 ?_; clear hZ; intro H locs cells slots hX hZ
        refine lv_imul hx hb dL_act_244 ?_
        refine lv_iconst (v := 4) hx hb dL_act_245 (by decide) ?_
        refine lv_iconst (v := -1) hx hb dL_act_246 (by decide) ?_
        have hf9 := wd_b2_e hf; clear hf; obtain ⟨o103, w101, hc102, hf⟩ := hf9
        refine z_callVX (ci := 11) (As := [.int r7, .int ((16 : Int32) * r100), .int (4 : Int32), .int (-1 : Int32)]) (rest := []) (c_X11_addRoute l hst E n w98 a1 r7 ((16 : Int32) * r100) (4 : Int32) (-1 : Int32) o103 w101 (hZ.k 0 rfl rfl) hc102) mo_X11_addRoute rfl (by decide) rfl tw_610 tw_611 tw_609 hx hb hml hts hown hK ⟨Nat.le_trans (by decide) hR.1, Nat.le_trans (by decide) hR.2⟩ hZ (hZ.k 0 rfl rfl) rfl hl.1 rfl (Nat.le_of_ble_eq_true rfl) dL_act_247 ?_ ?_
        · clear hZ; intro r104 h105 H locs cells slots hZ
          replace hf := wd_ox_s h105 hf
          refine lv_bipush (v := 6) hx hb dL_act_250 (by decide) ?_
          refine lv_icmp_ge (tgt := 259) hx hb dL_act_252 (by decide) (fun h106 => ?_) (fun h106 => ?_)
          · replace hf := wd_ite_p h106 hf
            exact v_L_act_j259 n C hR hst htab w101 _ _ _ _ _ ⟨hZ.1, hZ.2.1, hZ.2.2.1, hZ.2.2.2.1, (fun _ hq => absurd hq List.not_mem_nil), hZ.2.2.2.2.2⟩ (lv_sub hl [] rfl) hf
          · replace hf := wd_ite_n h106 hf
            refine lv_iconst (v := 1) hx hb dL_act_255 (by decide) ?_
            refine lv_goto (tgt := 260) hx hb dL_act_256 (by decide) ?_
            obtain ⟨rfl, rfl⟩ := Prod.mk.inj (Option.some.inj hf)
            exact vx_ret (z_zret (by decide) hx hb hr hlocks hZ trivial dL_act_260)
        · clear hZ; intro h105 H locs cells slots q107 ce hZ hce hcv hcl
          replace hf := wd_ox_n h105 hf
          refine z_catch htab 23 ⟨216, 260, 740, 107⟩ rfl (by decide +kernel) (by decide) rfl hts hown hK tw_506 tw_507 tw_508 hce hcv hcl ?_
          refine lv_astore (i := 8) (lv' := [(8, .ref q107), (6, .long v17), (5, .int r13), (4, .int r10), (3, .int r7), (0, .ref a1), (1, .int p1), (2, va_rf p2)]) hx hb dL_act_740 hl (by decide) rfl ?_; clear hl; intro ls hl
          refine lv_aload_n (i := 0) hx hb dL_act_742 rfl (lv_at hl 5 rfl) ?_
          have hf9 := wd_b2_e hf; clear hf; obtain ⟨r110, w108, hc109, hf⟩ := hf9
          refine z_callV (ci := 11) (As := []) (rest := []) (c_X11_packets l E n w101 a1 r110 w108 (hZ.k 0 rfl rfl) hc109) mo_X11_packets rfl (by decide) rfl tw_514 tw_515 tw_513 hx hb hml hts hown hK ⟨Nat.le_trans (by decide) hR.1, Nat.le_trans (by decide) hR.2⟩ hZ (hZ.k 0 rfl rfl) rfl hl.1 rfl (Nat.le_of_ble_eq_true rfl) rfl dL_act_743 ?_; clear hZ; intro H locs cells slots hX hZ
          refine lv_iload hx hb dL_act_746 (lv_at hl 3 rfl) ?_
          refine lv_icmp_ne (tgt := 764) hx hb dL_act_748 (by decide) (fun h111 => ?_) (fun h111 => ?_)
          · replace hf := wd_ite_n h111 hf
            exact v_L_act_j764 n C hR hst htab w108 _ _ _ _ _ ⟨hZ.1, hZ.2.1, hZ.2.2.1, hZ.2.2.2.1, (fun _ hq => absurd hq List.not_mem_nil), hZ.2.2.2.2.2⟩ (lv_sub hl [] rfl) hf
          · replace hf := wd_ite_p h111 hf
            refine lv_aload_n (i := 0) hx hb dL_act_751 rfl (lv_at hl 5 rfl) ?_
            have hf9 := wd_b2_e hf; clear hf; obtain ⟨r114, w112, hc113, hf⟩ := hf9
            refine z_callV (ci := 11) (As := []) (rest := []) (c_X11_frames l E n w108 a1 r114 w112 (hZ.k 0 rfl rfl) hc113) mo_X11_frames rfl (by decide) rfl tw_518 tw_519 tw_517 hx hb hml hts hown hK ⟨Nat.le_trans (by decide) hR.1, Nat.le_trans (by decide) hR.2⟩ hZ (hZ.k 0 rfl rfl) rfl hl.1 rfl (Nat.le_of_ble_eq_true rfl) rfl dL_act_752 ?_; clear hZ; intro H locs cells slots hX hZ
            refine lv_iload hx hb dL_act_755 (lv_at hl 2 rfl) ?_
            refine lv_icmp_ne (tgt := 764) hx hb dL_act_757 (by decide) (fun h115 => ?_) (fun h115 => ?_)
            · replace hf := wd_ite_n h115 hf
              exact v_L_act_j764 n C hR hst htab w112 _ _ _ _ _ ⟨hZ.1, hZ.2.1, hZ.2.2.1, hZ.2.2.2.1, (fun _ hq => absurd hq List.not_mem_nil), hZ.2.2.2.2.2⟩ (lv_sub hl [] rfl) hf
            · replace hf := wd_ite_p h115 hf
              refine lv_iconst (v := 1) hx hb dL_act_760 (by decide) ?_
              refine lv_goto (tgt := 765) hx hb dL_act_761 (by decide) ?_
              obtain ⟨rfl, rfl⟩ := Prod.mk.inj (Option.some.inj hf)
              exact vx_ret (z_zret (by decide) hx hb hr hlocks hZ trivial dL_act_765)
    · clear hZ; intro h96 H locs cells slots q116 ce hZ hce hcv hcl
      replace hf := wd_ox_n h96 hf
      refine z_catch htab 23 ⟨216, 260, 740, 107⟩ rfl (by decide +kernel) (by decide) rfl hts hown hK tw_506 tw_507 tw_508 hce hcv hcl ?_
      refine lv_astore (i := 8) (lv' := [(8, .ref q116), (6, .long v17), (5, .int r13), (4, .int r10), (3, .int r7), (0, .ref a1), (1, .int p1), (2, va_rf p2)]) hx hb dL_act_740 hl (by decide) rfl ?_; clear hl; intro ls hl
      refine lv_aload_n (i := 0) hx hb dL_act_742 rfl (lv_at hl 5 rfl) ?_
      have hf9 := wd_b2_e hf; clear hf; obtain ⟨r119, w117, hc118, hf⟩ := hf9
      refine z_callV (ci := 11) (As := []) (rest := []) (c_X11_packets l E n w92 a1 r119 w117 (hZ.k 0 rfl rfl) hc118) mo_X11_packets rfl (by decide) rfl tw_514 tw_515 tw_513 hx hb hml hts hown hK ⟨Nat.le_trans (by decide) hR.1, Nat.le_trans (by decide) hR.2⟩ hZ (hZ.k 0 rfl rfl) rfl hl.1 rfl (Nat.le_of_ble_eq_true rfl) rfl dL_act_743 ?_; clear hZ; intro H locs cells slots hX hZ
      refine lv_iload hx hb dL_act_746 (lv_at hl 3 rfl) ?_
      refine lv_icmp_ne (tgt := 764) hx hb dL_act_748 (by decide) (fun h120 => ?_) (fun h120 => ?_)
      · replace hf := wd_ite_n h120 hf
        exact v_L_act_j764 n C hR hst htab w117 _ _ _ _ _ ⟨hZ.1, hZ.2.1, hZ.2.2.1, hZ.2.2.2.1, (fun _ hq => absurd hq List.not_mem_nil), hZ.2.2.2.2.2⟩ (lv_sub hl [] rfl) hf
      · replace hf := wd_ite_p h120 hf
        refine lv_aload_n (i := 0) hx hb dL_act_751 rfl (lv_at hl 5 rfl) ?_
        have hf9 := wd_b2_e hf; clear hf; obtain ⟨r123, w121, hc122, hf⟩ := hf9
        refine z_callV (ci := 11) (As := []) (rest := []) (c_X11_frames l E n w117 a1 r123 w121 (hZ.k 0 rfl rfl) hc122) mo_X11_frames rfl (by decide) rfl tw_518 tw_519 tw_517 hx hb hml hts hown hK ⟨Nat.le_trans (by decide) hR.1, Nat.le_trans (by decide) hR.2⟩ hZ (hZ.k 0 rfl rfl) rfl hl.1 rfl (Nat.le_of_ble_eq_true rfl) rfl dL_act_752 ?_; clear hZ; intro H locs cells slots hX hZ
        refine lv_iload hx hb dL_act_755 (lv_at hl 2 rfl) ?_
        refine lv_icmp_ne (tgt := 764) hx hb dL_act_757 (by decide) (fun h124 => ?_) (fun h124 => ?_)
        · replace hf := wd_ite_n h124 hf
          exact v_L_act_j764 n C hR hst htab w121 _ _ _ _ _ ⟨hZ.1, hZ.2.1, hZ.2.2.1, hZ.2.2.2.1, (fun _ hq => absurd hq List.not_mem_nil), hZ.2.2.2.2.2⟩ (lv_sub hl [] rfl) hf
        · replace hf := wd_ite_p h124 hf
          refine lv_iconst (v := 1) hx hb dL_act_760 (by decide) ?_
          refine lv_goto (tgt := 765) hx hb dL_act_761 (by decide) ?_
          obtain ⟨rfl, rfl⟩ := Prod.mk.inj (Option.some.inj hf)
          exact vx_ret (z_zret (by decide) hx hb hr hlocks hZ trivial dL_act_765)
  replace hf := wd_ite_n h88 hf
  by_cases h125 : r21 = 4
  · replace hf := wd_ite_p h125 hf
    refine lv_tableIn (off := 225) (tgt := 261) hx hb dL_act_36 (by rw [h125]; decide) (by rw [h125]; decide) (by rw [h125]; rfl) (by decide) ?_
    exact v_L_act_j261 n C hR hst htab (some a1) p1 p2 r7 r10 r13 w19 _ _ _ _ _ ⟨hZ.1, hZ.2.1, hZ.2.2.1, hZ.2.2.2.1, (List.forall_mem_cons.mpr ⟨⟨Nat.succ_ne_zero _, (fun q hq => by cases hq; exact (hZ.k 0 rfl rfl))⟩, (List.forall_mem_cons.mpr ⟨⟨Nat.succ_ne_zero _, (fun q hq => hZ.k 1 rfl hq)⟩, (fun _ hq => absurd hq List.not_mem_nil)⟩)⟩), hZ.2.2.2.2.2⟩ (lv_sub hl [4, 5, 6, 3, 2, 1] rfl) hf
  replace hf := wd_ite_n h125 hf
  by_cases h170 : r21 = 5
  · replace hf := wd_ite_p h170 hf
    refine lv_tableIn (off := 225) (tgt := 261) hx hb dL_act_36 (by rw [h170]; decide) (by rw [h170]; decide) (by rw [h170]; rfl) (by decide) ?_
    exact v_L_act_j261 n C hR hst htab (some a1) p1 p2 r7 r10 r13 w19 _ _ _ _ _ ⟨hZ.1, hZ.2.1, hZ.2.2.1, hZ.2.2.2.1, (List.forall_mem_cons.mpr ⟨⟨Nat.succ_ne_zero _, (fun q hq => by cases hq; exact (hZ.k 0 rfl rfl))⟩, (List.forall_mem_cons.mpr ⟨⟨Nat.succ_ne_zero _, (fun q hq => hZ.k 1 rfl hq)⟩, (fun _ hq => absurd hq List.not_mem_nil)⟩)⟩), hZ.2.2.2.2.2⟩ (lv_sub hl [4, 5, 6, 3, 2, 1] rfl) hf
  replace hf := wd_ite_n h170 hf
  by_cases h171 : r21 = 6
  · replace hf := wd_ite_p h171 hf
    refine lv_tableIn (off := 225) (tgt := 261) hx hb dL_act_36 (by rw [h171]; decide) (by rw [h171]; decide) (by rw [h171]; rfl) (by decide) ?_
    exact v_L_act_j261 n C hR hst htab (some a1) p1 p2 r7 r10 r13 w19 _ _ _ _ _ ⟨hZ.1, hZ.2.1, hZ.2.2.1, hZ.2.2.2.1, (List.forall_mem_cons.mpr ⟨⟨Nat.succ_ne_zero _, (fun q hq => by cases hq; exact (hZ.k 0 rfl rfl))⟩, (List.forall_mem_cons.mpr ⟨⟨Nat.succ_ne_zero _, (fun q hq => hZ.k 1 rfl hq)⟩, (fun _ hq => absurd hq List.not_mem_nil)⟩)⟩), hZ.2.2.2.2.2⟩ (lv_sub hl [4, 5, 6, 3, 2, 1] rfl) hf
  replace hf := wd_ite_n h171 hf
  by_cases h172 : r21 = 7
  · replace hf := wd_ite_p h172 hf
    refine lv_tableIn (off := 373) (tgt := 409) hx hb dL_act_36 (by rw [h172]; decide) (by rw [h172]; decide) (by rw [h172]; rfl) (by decide) ?_
    exact v_L_act_j409 n C hR hst htab (some a1) p1 v17 w19 _ _ _ _ _ ⟨hZ.1, hZ.2.1, hZ.2.2.1, hZ.2.2.2.1, (List.forall_mem_cons.mpr ⟨⟨Nat.succ_ne_zero _, (fun q hq => by cases hq; exact (hZ.k 0 rfl rfl))⟩, (fun _ hq => absurd hq List.not_mem_nil)⟩), hZ.2.2.2.2.2⟩ (lv_sub hl [4, 5, 0] rfl) hf
  replace hf := wd_ite_n h172 hf
  by_cases h199 : r21 = 8
  · replace hf := wd_ite_p h199 hf
    refine lv_tableIn (off := 373) (tgt := 409) hx hb dL_act_36 (by rw [h199]; decide) (by rw [h199]; decide) (by rw [h199]; rfl) (by decide) ?_
    exact v_L_act_j409 n C hR hst htab (some a1) p1 v17 w19 _ _ _ _ _ ⟨hZ.1, hZ.2.1, hZ.2.2.1, hZ.2.2.2.1, (List.forall_mem_cons.mpr ⟨⟨Nat.succ_ne_zero _, (fun q hq => by cases hq; exact (hZ.k 0 rfl rfl))⟩, (fun _ hq => absurd hq List.not_mem_nil)⟩), hZ.2.2.2.2.2⟩ (lv_sub hl [4, 5, 0] rfl) hf
  replace hf := wd_ite_n h199 hf
  by_cases h200 : r21 = 9
  · replace hf := wd_ite_p h200 hf
    refine lv_tableIn (off := 373) (tgt := 409) hx hb dL_act_36 (by rw [h200]; decide) (by rw [h200]; decide) (by rw [h200]; rfl) (by decide) ?_
    exact v_L_act_j409 n C hR hst htab (some a1) p1 v17 w19 _ _ _ _ _ ⟨hZ.1, hZ.2.1, hZ.2.2.1, hZ.2.2.2.1, (List.forall_mem_cons.mpr ⟨⟨Nat.succ_ne_zero _, (fun q hq => by cases hq; exact (hZ.k 0 rfl rfl))⟩, (fun _ hq => absurd hq List.not_mem_nil)⟩), hZ.2.2.2.2.2⟩ (lv_sub hl [4, 5, 0] rfl) hf
  replace hf := wd_ite_n h200 hf
  by_cases h201 : r21 = 10
  · replace hf := wd_ite_p h201 hf
    refine lv_tableIn (off := 458) (tgt := 494) hx hb dL_act_36 (by rw [h201]; decide) (by rw [h201]; decide) (by rw [h201]; rfl) (by decide) ?_
    refine lv_iload_n (i := 1) hx hb dL_act_494 rfl (lv_at hl 5 rfl) ?_
    refine lv_bipush (v := 6) hx hb dL_act_495 (by decide) ?_
    refine lv_ishr hx hb dL_act_497 ?_
    refine lv_iconst (v := 2) hx hb dL_act_498 (by decide) ?_
    have hf9 := wd_b2_e hf; clear hf; obtain ⟨r204, w202, hc203, hf⟩ := hf9
    refine z_callS (As := [.int (p1 >>> ((6 : Int32) &&& 31)), .int (2 : Int32)]) (rest := []) (c_L_below l E n w19 (p1 >>> ((6 : Int32) &&& 31)) (2 : Int32) r204 w202  hc203) mo_L_below tw_496 tw_495 hx hb hml hts hown hK ⟨Nat.le_trans (by decide) hR.1, Nat.le_trans (by decide) hR.2⟩ hZ rfl hl.1 rfl (Nat.le_of_ble_eq_true rfl) rfl dL_act_499 ?_; clear hZ; intro H locs cells slots hX hZ
    refine lv_if_ne (tgt := 527) hx hb dL_act_502 (by decide) (fun h205 => ?_) (fun h205 => ?_)
    · replace hf := wd_ite_n h205 hf
      refine lv_aload_n (i := 0) hx hb dL_act_527 rfl (lv_at hl 4 rfl) ?_
      refine lv_iload_n (i := 3) hx hb dL_act_528 rfl (lv_at hl 3 rfl) ?_
      have hf9 := wd_b2_e hf; clear hf; obtain ⟨r208, w206, hc207, hf⟩ := hf9
      refine z_callV (ci := 11) (As := [.int r7]) (rest := []) (c_X11_waiting l E n w202 a1 r7 r208 w206 (hZ.k 0 rfl rfl) hc207) mo_X11_waiting rfl (by decide) rfl tw_954 tw_955 tw_953 hx hb hml hts hown hK ⟨Nat.le_trans (by decide) hR.1, Nat.le_trans (by decide) hR.2⟩ hZ (hZ.k 0 rfl rfl) rfl hl.1 rfl (Nat.le_of_ble_eq_true rfl) rfl dL_act_529 ?_; clear hZ; intro H locs cells slots hX hZ
      refine lv_istore (i := 14) (lv' := [(14, .int r208), (6, .long v17), (5, .int r13), (4, .int r10), (3, .int r7), (0, .ref a1), (1, .int p1), (2, va_rf p2)]) hx hb dL_act_532 hl (by decide) rfl ?_; clear hl; intro ls hl
      refine lv_aload_n (i := 0) hx hb dL_act_534 rfl (lv_at hl 5 rfl) ?_
      have hf9 := wd_b2_e hf; clear hf; obtain ⟨r211, w209, hc210, hf⟩ := hf9
      refine z_callV (ci := 11) (As := []) (rest := []) (c_X11_gone l E n w206 a1 r211 w209 (hZ.k 0 rfl rfl) hc210) mo_X11_gone rfl (by decide) rfl tw_958 tw_959 tw_957 hx hb hml hts hown hK ⟨Nat.le_trans (by decide) hR.1, Nat.le_trans (by decide) hR.2⟩ hZ (hZ.k 0 rfl rfl) rfl hl.1 rfl (Nat.le_of_ble_eq_true rfl) rfl dL_act_535 ?_; clear hZ; intro H locs cells slots hX hZ
      refine lv_istore (i := 15) (lv' := [(15, .int r211), (14, .int r208), (6, .long v17), (5, .int r13), (4, .int r10), (3, .int r7), (0, .ref a1), (1, .int p1), (2, va_rf p2)]) hx hb dL_act_538 hl (by decide) rfl ?_; clear hl; intro ls hl
      refine lv_aload_n (i := 0) hx hb dL_act_540 rfl (lv_at hl 6 rfl) ?_
      refine lv_iload_n (i := 3) hx hb dL_act_541 rfl (lv_at hl 5 rfl) ?_
      have hf9 := wd_b2_e hf; clear hf; obtain ⟨r214, w212, hc213, hf⟩ := hf9
      refine z_callV (ci := 11) (As := [.int r7]) (rest := []) (c_X11_giveUp l E n w209 a1 r7 r214 w212 (hZ.k 0 rfl rfl) hc213) mo_X11_giveUp rfl (by decide) rfl tw_962 tw_963 tw_961 hx hb hml hts hown hK ⟨Nat.le_trans (by decide) hR.1, Nat.le_trans (by decide) hR.2⟩ hZ (hZ.k 0 rfl rfl) rfl hl.1 rfl (Nat.le_of_ble_eq_true rfl) rfl dL_act_542 ?_; clear hZ; intro H locs cells slots hX hZ
      refine lv_iload hx hb dL_act_545 (lv_at hl 1 rfl) ?_
      refine lv_icmp_ne (tgt := 576) hx hb dL_act_547 (by decide) (fun h215 => ?_) (fun h215 => ?_)
      · replace hf := wd_ite_n h215 hf
        exact v_L_act_j576 n C hR hst htab w212 _ _ _ _ _ ⟨hZ.1, hZ.2.1, hZ.2.2.1, hZ.2.2.2.1, (fun _ hq => absurd hq List.not_mem_nil), hZ.2.2.2.2.2⟩ (lv_sub hl [] rfl) hf
      · replace hf := wd_ite_p h215 hf
        refine lv_aload_n (i := 0) hx hb dL_act_550 rfl (lv_at hl 6 rfl) ?_
        refine lv_iload_n (i := 3) hx hb dL_act_551 rfl (lv_at hl 5 rfl) ?_
        have hf9 := wd_b2_e hf; clear hf; obtain ⟨r218, w216, hc217, hf⟩ := hf9
        refine z_callV (ci := 11) (As := [.int r7]) (rest := []) (c_X11_waiting l E n w212 a1 r7 r218 w216 (hZ.k 0 rfl rfl) hc217) mo_X11_waiting rfl (by decide) rfl tw_954 tw_955 tw_953 hx hb hml hts hown hK ⟨Nat.le_trans (by decide) hR.1, Nat.le_trans (by decide) hR.2⟩ hZ (hZ.k 0 rfl rfl) rfl hl.1 rfl (Nat.le_of_ble_eq_true rfl) rfl dL_act_552 ?_; clear hZ; intro H locs cells slots hX hZ
        refine lv_iload hx hb dL_act_555 (lv_at hl 1 rfl) ?_
        refine lv_icmp_gt (tgt := 576) hx hb dL_act_557 (by decide) (fun h219 => ?_) (fun h219 => ?_)
        · replace hf := wd_ite_p h219 hf
          exact v_L_act_j576 n C hR hst htab w216 _ _ _ _ _ ⟨hZ.1, hZ.2.1, hZ.2.2.1, hZ.2.2.2.1, (fun _ hq => absurd hq List.not_mem_nil), hZ.2.2.2.2.2⟩ (lv_sub hl [] rfl) hf
        · replace hf := wd_ite_n h219 hf
          refine lv_aload_n (i := 0) hx hb dL_act_560 rfl (lv_at hl 6 rfl) ?_
          have hf9 := wd_b2_e hf; clear hf; obtain ⟨r222, w220, hc221, hf⟩ := hf9
          refine z_callV (ci := 11) (As := []) (rest := []) (c_X11_gone l E n w216 a1 r222 w220 (hZ.k 0 rfl rfl) hc221) mo_X11_gone rfl (by decide) rfl tw_958 tw_959 tw_957 hx hb hml hts hown hK ⟨Nat.le_trans (by decide) hR.1, Nat.le_trans (by decide) hR.2⟩ hZ (hZ.k 0 rfl rfl) rfl hl.1 rfl (Nat.le_of_ble_eq_true rfl) rfl dL_act_561 ?_; clear hZ; intro H locs cells slots hX hZ
          refine lv_iload hx hb dL_act_564 (lv_at hl 0 rfl) ?_
          refine lv_iload hx hb dL_act_566 (lv_at hl 1 rfl) ?_
          refine lv_iadd hx hb dL_act_568 ?_
          refine lv_icmp_lt (tgt := 576) hx hb dL_act_569 (by decide) (fun h223 => ?_) (fun h223 => ?_)
          · replace hf := wd_ite_p h223 hf
            exact v_L_act_j576 n C hR hst htab w220 _ _ _ _ _ ⟨hZ.1, hZ.2.1, hZ.2.2.1, hZ.2.2.2.1, (fun _ hq => absurd hq List.not_mem_nil), hZ.2.2.2.2.2⟩ (lv_sub hl [] rfl) hf
          · replace hf := wd_ite_n h223 hf
            refine lv_iconst (v := 1) hx hb dL_act_572 (by decide) ?_
            refine lv_goto (tgt := 577) hx hb dL_act_573 (by decide) ?_
            obtain ⟨rfl, rfl⟩ := Prod.mk.inj (Option.some.inj hf)
            exact vx_ret (z_zret (by decide) hx hb hr hlocks hZ trivial dL_act_577)
    · replace hf := wd_ite_p h205 hf
      refine lv_aload_n (i := 0) hx hb dL_act_505 rfl (lv_at hl 4 rfl) ?_
      refine lv_iload_n (i := 3) hx hb dL_act_506 rfl (lv_at hl 3 rfl) ?_
      have hf9 := wd_b2_e hf; clear hf; obtain ⟨r226, w224, hc225, hf⟩ := hf9
      refine z_callV (ci := 11) (As := [.int r7]) (rest := []) (c_X11_forget l E n w202 a1 r7 r226 w224 (hZ.k 0 rfl rfl) hc225) mo_X11_forget rfl (by decide) rfl tw_946 tw_947 tw_945 hx hb hml hts hown hK ⟨Nat.le_trans (by decide) hR.1, Nat.le_trans (by decide) hR.2⟩ hZ (hZ.k 0 rfl rfl) rfl hl.1 rfl (Nat.le_of_ble_eq_true rfl) rfl dL_act_507 ?_; clear hZ; intro H locs cells slots hX hZ
      refine lv_if_lt (tgt := 525) hx hb dL_act_510 (by decide) (fun h227 => ?_) (fun h227 => ?_)
      · replace hf := wd_ite_p h227 hf
        exact v_L_act_j525 n C hR hst htab w224 _ _ _ _ _ ⟨hZ.1, hZ.2.1, hZ.2.2.1, hZ.2.2.2.1, (fun _ hq => absurd hq List.not_mem_nil), hZ.2.2.2.2.2⟩ (lv_sub hl [] rfl) hf
      · replace hf := wd_ite_n h227 hf
        refine lv_aload_n (i := 0) hx hb dL_act_513 rfl (lv_at hl 4 rfl) ?_
        refine lv_iload_n (i := 3) hx hb dL_act_514 rfl (lv_at hl 3 rfl) ?_
        have hf9 := wd_b2_e hf; clear hf; obtain ⟨r230, w228, hc229, hf⟩ := hf9
        refine z_callV (ci := 11) (As := [.int r7]) (rest := []) (c_X11_forget l E n w224 a1 r7 r230 w228 (hZ.k 0 rfl rfl) hc229) mo_X11_forget rfl (by decide) rfl tw_946 tw_947 tw_945 hx hb hml hts hown hK ⟨Nat.le_trans (by decide) hR.1, Nat.le_trans (by decide) hR.2⟩ hZ (hZ.k 0 rfl rfl) rfl hl.1 rfl (Nat.le_of_ble_eq_true rfl) rfl dL_act_515 ?_; clear hZ; intro H locs cells slots hX hZ
        refine lv_if_ne (tgt := 525) hx hb dL_act_518 (by decide) (fun h231 => ?_) (fun h231 => ?_)
        · replace hf := wd_ite_n h231 hf
          exact v_L_act_j525 n C hR hst htab w228 _ _ _ _ _ ⟨hZ.1, hZ.2.1, hZ.2.2.1, hZ.2.2.2.1, (fun _ hq => absurd hq List.not_mem_nil), hZ.2.2.2.2.2⟩ (lv_sub hl [] rfl) hf
        · replace hf := wd_ite_p h231 hf
          refine lv_iconst (v := 1) hx hb dL_act_521 (by decide) ?_
          refine lv_goto (tgt := 526) hx hb dL_act_522 (by decide) ?_
          obtain ⟨rfl, rfl⟩ := Prod.mk.inj (Option.some.inj hf)
          exact vx_ret (z_zret (by decide) hx hb hr hlocks hZ trivial dL_act_526)
  replace hf := wd_ite_n h201 hf
  refine lv_tableOut (tgt := 578) hx hb dL_act_36 (wd_tb0_10 h22 h62 h63 h88 h125 h170 h171 h172 h199 h200 h201) (by decide) ?_
  refine lv_iload_n (i := 1) hx hb dL_act_578 rfl (lv_at hl 5 rfl) ?_
  refine lv_bipush (v := 6) hx hb dL_act_579 (by decide) ?_
  refine lv_ishr hx hb dL_act_581 ?_
  refine lv_iconst (v := 3) hx hb dL_act_582 (by decide) ?_
  have hf9 := wd_b2_e hf; clear hf; obtain ⟨r234, w232, hc233, hf⟩ := hf9
  refine z_callS (As := [.int (p1 >>> ((6 : Int32) &&& 31)), .int (3 : Int32)]) (rest := []) (c_L_below l E n w19 (p1 >>> ((6 : Int32) &&& 31)) (3 : Int32) r234 w232  hc233) mo_L_below tw_496 tw_495 hx hb hml hts hown hK ⟨Nat.le_trans (by decide) hR.1, Nat.le_trans (by decide) hR.2⟩ hZ rfl hl.1 rfl (Nat.le_of_ble_eq_true rfl) rfl dL_act_583 ?_; clear hZ; intro H locs cells slots hX hZ
  refine lv_if_ne (tgt := 624) hx hb dL_act_586 (by decide) (fun h235 => ?_) (fun h235 => ?_)
  · replace hf := wd_ite_n h235 hf
    refine lv_iload_n (i := 1) hx hb dL_act_624 rfl (lv_at hl 5 rfl) ?_
    refine lv_bipush (v := 6) hx hb dL_act_625 (by decide) ?_
    refine lv_ishr hx hb dL_act_627 ?_
    refine lv_iconst (v := 3) hx hb dL_act_628 (by decide) ?_
    have hf9 := wd_b2_e hf; clear hf; obtain ⟨r238, w236, hc237, hf⟩ := hf9
    refine z_callS (As := [.int (p1 >>> ((6 : Int32) &&& 31)), .int (3 : Int32)]) (rest := []) (c_L_below l E n w232 (p1 >>> ((6 : Int32) &&& 31)) (3 : Int32) r238 w236  hc237) mo_L_below tw_496 tw_495 hx hb hml hts hown hK ⟨Nat.le_trans (by decide) hR.1, Nat.le_trans (by decide) hR.2⟩ hZ rfl hl.1 rfl (Nat.le_of_ble_eq_true rfl) rfl dL_act_629 ?_; clear hZ; intro H locs cells slots hX hZ
    refine lv_iconst (v := 1) hx hb dL_act_632 (by decide) ?_
    refine lv_icmp_ne (tgt := 663) hx hb dL_act_633 (by decide) (fun h239 => ?_) (fun h239 => ?_)
    · replace hf := wd_ite_n h239 hf
      refine lv_aload_n (i := 0) hx hb dL_act_663 rfl (lv_at hl 4 rfl) ?_
      refine lv_iload_n (i := 3) hx hb dL_act_664 rfl (lv_at hl 3 rfl) ?_
      refine lv_iload_n (i := 1) hx hb dL_act_665 rfl (lv_at hl 5 rfl) ?_
      refine lv_bipush (v := 8) hx hb dL_act_666 (by decide) ?_
      refine lv_ishr hx hb dL_act_668 ?_
      refine lv_iconst (v := 3) hx hb dL_act_669 (by decide) ?_
      have hf9 := wd_b2_e hf; clear hf; obtain ⟨r242, w240, hc241, hf⟩ := hf9
      refine z_callS (As := [.int (p1 >>> ((8 : Int32) &&& 31)), .int (3 : Int32)]) (rest := [.int r7, .ref a1]) (c_L_below l E n w236 (p1 >>> ((8 : Int32) &&& 31)) (3 : Int32) r242 w240  hc241) mo_L_below tw_496 tw_495 hx hb hml hts hown hK ⟨Nat.le_trans (by decide) hR.1, Nat.le_trans (by decide) hR.2⟩ hZ rfl hl.1 rfl (Nat.le_of_ble_eq_true rfl) rfl dL_act_670 ?_; clear hZ; intro H locs cells slots hX hZ
      refine lv_if_le (tgt := 680) hx hb dL_act_673 (by decide) (fun h243 => ?_) (fun h243 => ?_)
      · replace hf := wd_ite_p h243 hf
        refine lv_iconst (v := 0) hx hb dL_act_680 (by decide) ?_
        exact v_L_act_j681 n C hR hst htab (0 : Int32) r7 (some a1) w240 _ _ _ _ _ ⟨hZ.1, hZ.2.1, hZ.2.2.1, hZ.2.2.2.1, (List.forall_mem_cons.mpr ⟨⟨Nat.succ_ne_zero _, (fun q hq => by cases hq; exact (hZ.k 0 rfl rfl))⟩, (fun _ hq => absurd hq List.not_mem_nil)⟩), hZ.2.2.2.2.2⟩ (lv_sub hl [] rfl) hf
      · replace hf := wd_ite_n h243 hf
        refine lv_iconst (v := 1) hx hb dL_act_676 (by decide) ?_
        refine lv_goto (tgt := 681) hx hb dL_act_677 (by decide) ?_
        exact v_L_act_j681 n C hR hst htab (1 : Int32) r7 (some a1) w240 _ _ _ _ _ ⟨hZ.1, hZ.2.1, hZ.2.2.1, hZ.2.2.2.1, (List.forall_mem_cons.mpr ⟨⟨Nat.succ_ne_zero _, (fun q hq => by cases hq; exact (hZ.k 0 rfl rfl))⟩, (fun _ hq => absurd hq List.not_mem_nil)⟩), hZ.2.2.2.2.2⟩ (lv_sub hl [] rfl) hf
    · replace hf := wd_ite_p h239 hf
      refine lv_aload_n (i := 0) hx hb dL_act_636 rfl (lv_at hl 4 rfl) ?_
      refine lv_iload_n (i := 1) hx hb dL_act_637 rfl (lv_at hl 5 rfl) ?_
      refine lv_bipush (v := 8) hx hb dL_act_638 (by decide) ?_
      refine lv_ishr hx hb dL_act_640 ?_
      refine lv_iconst (v := 2) hx hb dL_act_641 (by decide) ?_
      have hf9 := wd_b2_e hf; clear hf; obtain ⟨r250, w248, hc249, hf⟩ := hf9
      refine z_callS (As := [.int (p1 >>> ((8 : Int32) &&& 31)), .int (2 : Int32)]) (rest := [.ref a1]) (c_L_below l E n w236 (p1 >>> ((8 : Int32) &&& 31)) (2 : Int32) r250 w248  hc249) mo_L_below tw_496 tw_495 hx hb hml hts hown hK ⟨Nat.le_trans (by decide) hR.1, Nat.le_trans (by decide) hR.2⟩ hZ rfl hl.1 rfl (Nat.le_of_ble_eq_true rfl) rfl dL_act_642 ?_; clear hZ; intro H locs cells slots hX hZ
      refine lv_bipush (v := 12) hx hb dL_act_645 (by decide) ?_
      refine lv_iload_n (i := 1) hx hb dL_act_647 rfl (lv_at hl 5 rfl) ?_
      refine lv_iconst (v := 5) hx hb dL_act_648 (by decide) ?_
      refine lv_ishr hx hb dL_act_649 ?_
      refine lv_bipush (v := 60) hx hb dL_act_650 (by decide) ?_
      have hf9 := wd_b2_e hf; clear hf; obtain ⟨r253, w251, hc252, hf⟩ := hf9
      refine z_callS (As := [.int (p1 >>> ((5 : Int32) &&& 31)), .int (60 : Int32)]) (rest := [.int (12 : Int32), .int r250, .ref a1]) (c_L_below l E n w248 (p1 >>> ((5 : Int32) &&& 31)) (60 : Int32) r253 w251  hc252) mo_L_below tw_496 tw_495 hx hb hml hts hown hK ⟨Nat.le_trans (by decide) hR.1, Nat.le_trans (by decide) hR.2⟩ hZ rfl hl.1 rfl (Nat.le_of_ble_eq_true rfl) rfl dL_act_652 ?_; clear hZ; intro H locs cells slots hX hZ
      refine lv_iadd hx hb dL_act_655 ?_
      have hf9 := wd_b2_e hf; clear hf; obtain ⟨r256, w254, hc255, hf⟩ := hf9
      refine z_callV (ci := 11) (As := [.int r250, .int ((12 : Int32) + r253)]) (rest := []) (c_X11_setWidth l E n w251 a1 r250 ((12 : Int32) + r253) r256 w254 (hZ.k 0 rfl rfl) hc255) mo_X11_setWidth rfl (by decide) rfl tw_970 tw_971 tw_969 hx hb hml hts hown hK ⟨Nat.le_trans (by decide) hR.1, Nat.le_trans (by decide) hR.2⟩ hZ (hZ.k 0 rfl rfl) rfl hl.1 rfl (Nat.le_of_ble_eq_true rfl) rfl dL_act_656 ?_; clear hZ; intro H locs cells slots hX hZ
      refine lv_pop hx hb dL_act_659 rfl ?_
      refine lv_goto (tgt := 685) hx hb dL_act_660 (by decide) ?_
      exact v_L_act_j685 n C hR hst htab w254 _ _ _ _ _ ⟨hZ.1, hZ.2.1, hZ.2.2.1, hZ.2.2.2.1, (fun _ hq => absurd hq List.not_mem_nil), hZ.2.2.2.2.2⟩ (lv_sub hl [] rfl) hf
  · replace hf := wd_ite_p h235 hf
    refine lv_aload_n (i := 0) hx hb dL_act_589 rfl (lv_at hl 4 rfl) ?_
    refine lv_iload_n (i := 1) hx hb dL_act_590 rfl (lv_at hl 5 rfl) ?_
    refine lv_bipush (v := 8) hx hb dL_act_591 (by decide) ?_
    refine lv_ishr hx hb dL_act_593 ?_
    refine lv_iconst (v := 3) hx hb dL_act_594 (by decide) ?_
    have hf9 := wd_b2_e hf; clear hf; obtain ⟨r259, w257, hc258, hf⟩ := hf9
    refine z_callS (As := [.int (p1 >>> ((8 : Int32) &&& 31)), .int (3 : Int32)]) (rest := [.ref a1]) (c_L_below l E n w232 (p1 >>> ((8 : Int32) &&& 31)) (3 : Int32) r259 w257  hc258) mo_L_below tw_496 tw_495 hx hb hml hts hown hK ⟨Nat.le_trans (by decide) hR.1, Nat.le_trans (by decide) hR.2⟩ hZ rfl hl.1 rfl (Nat.le_of_ble_eq_true rfl) rfl dL_act_595 ?_; clear hZ; intro H locs cells slots hX hZ
    refine lv_if_le (tgt := 605) hx hb dL_act_598 (by decide) (fun h260 => ?_) (fun h260 => ?_)
    · replace hf := wd_ite_p h260 hf
      refine lv_iconst (v := 0) hx hb dL_act_605 (by decide) ?_
      exact v_L_act_j606 n C hR hst htab (0 : Int32) (some a1) (some a1) r10 r13 w257 _ _ _ _ _ ⟨hZ.1, hZ.2.1, hZ.2.2.1, hZ.2.2.2.1, (List.forall_mem_cons.mpr ⟨⟨Nat.succ_ne_zero _, (fun q hq => by cases hq; exact (hZ.k 0 rfl rfl))⟩, (List.forall_mem_cons.mpr ⟨⟨Nat.succ_ne_zero _, (fun q hq => by cases hq; exact (hZ.k 0 rfl rfl))⟩, (fun _ hq => absurd hq List.not_mem_nil)⟩)⟩), hZ.2.2.2.2.2⟩ (lv_sub hl [4, 2, 1] rfl) hf
    · replace hf := wd_ite_n h260 hf
      refine lv_iconst (v := 1) hx hb dL_act_601 (by decide) ?_
      refine lv_goto (tgt := 606) hx hb dL_act_602 (by decide) ?_
      exact v_L_act_j606 n C hR hst htab (1 : Int32) (some a1) (some a1) r10 r13 w257 _ _ _ _ _ ⟨hZ.1, hZ.2.1, hZ.2.2.1, hZ.2.2.2.1, (List.forall_mem_cons.mpr ⟨⟨Nat.succ_ne_zero _, (fun q hq => by cases hq; exact (hZ.k 0 rfl rfl))⟩, (List.forall_mem_cons.mpr ⟨⟨Nat.succ_ne_zero _, (fun q hq => by cases hq; exact (hZ.k 0 rfl rfl))⟩, (fun _ hq => absurd hq List.not_mem_nil)⟩)⟩), hZ.2.2.2.2.2⟩ (lv_sub hl [4, 2, 1] rfl) hf

