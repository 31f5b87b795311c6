/-! ===== meanings and contracts, laid by wip/p33/gen ===== -/
def f_X9_carriedOn_j19 (n : Nat) (w : Wd) : Option (Int32 × Wd) :=
  some ((0 : Int32), w)
def f_X9_carriedOn (n : Nat) (w : Wd) (this : Nat) (p0 : Int32) : Option (Int32 × Wd) :=
  if p0 < 0 then
    f_X9_carriedOn_j19 n w
  else
    if (8 : Int32) ≤ p0 then
      f_X9_carriedOn_j19 n w
    else
      Option.bind (wd_R w 907 this) fun a3 =>
      wd_gd (p0 < 0 ∨ wd_N w a3 ≤ p0.toNatClampNeg) <|
      some ((wd_A w a3 p0.toNatClampNeg), w)
set_option maxHeartbeats 4000000 in
set_option maxRecDepth 100000 in
theorem v_X9_carriedOn_j19 {p : Program} {l : Launch} {e : Env} {R : Room} {s : State} {m : MethodId} {args : Array Value} {below : List Frame} {meth : Method} {c : Code} {E : wd_E} {w0 : Wd} {r' : Int32} {w' : Wd} (n : Nat) (C : wd_X p s m args meth c cX9_carriedOn RX9 2 (some .int) "carriedOn" E) (hR : 0 ≤ R.frames ∧ 0 ≤ R.locals) (w : Wd) (H : Heap) (locs : List Loc) (cells slots : Nat) (ls : Array Slot) (hZ : wd_Z E w0 R s w H locs cells slots []) (hl : lv_has ls 2 []) (hf : f_X9_carriedOn_j19 n w = some (r', w')) : W p l e R s m args below meth c H locs cells slots (wd_fin E w0 (some (.int r')) w' True R args s below) (F0 m 19 ls []) := by
  obtain ⟨hx, hb, hr, hml, hts, hown, hlocks, hmn, hK⟩ := id C
  unfold f_X9_carriedOn_j19 at hf
  refine lv_iconst (v := 0) hx hb dX9_carriedOn_19 (by decide) ?_
  obtain ⟨rfl, rfl⟩ := Prod.mk.inj (Option.some.inj hf)
  exact z_iret hx hb hr hlocks hZ trivial dX9_carriedOn_20

set_option maxHeartbeats 4000000 in
set_option maxRecDepth 100000 in
theorem c_X9_carriedOn (l : Launch) (E : wd_E) (n : Nat) (w : Wd) (this : Nat) (p0 : Int32) (r' : Int32) (w' : Wd) (k_this : wd_K w this = 10) (hf : f_X9_carriedOn n w this p0 = some (r', w')) : wd_C l E yX9_carriedOn cX9_carriedOn 2 (some .int) 0 0 [.ref this, .int p0] w (some (.int r')) w' True := by
  refine wd_ofW (own := RX9) (nm := "carriedOn") (ks := [(some this, 10)]) (lv := [(0, .ref this), (1, .int p0)]) (by decide) rfl rfl (Nat.le_of_ble_eq_true rfl) rfl (List.forall_mem_cons.mpr ⟨⟨Nat.succ_ne_zero _, fun q hq => by cases hq; exact k_this⟩, (fun _ hq => absurd hq List.not_mem_nil)⟩) ?_
  intro p e s m args below meth c R H locs cells slots ls C hR hZ hl
  obtain ⟨hx, hb, hr, hml, hts, hown, hlocks, hmn, hK⟩ := id C
  unfold f_X9_carriedOn at hf
  refine lv_iload_n (i := 1) hx hb dX9_carriedOn_0 rfl (lv_at hl 1 rfl) ?_
  refine lv_if_lt (tgt := 19) hx hb dX9_carriedOn_1 (by decide) (fun h1 => ?_) (fun h1 => ?_)
  · replace hf := wd_ite_p h1 hf
    exact v_X9_carriedOn_j19 n C hR w _ _ _ _ _ ⟨hZ.1, hZ.2.1, hZ.2.2.1, hZ.2.2.2.1, (fun _ hq => absurd hq List.not_mem_nil), hZ.2.2.2.2.2⟩ (lv_sub hl [] rfl) hf
  · replace hf := wd_ite_n h1 hf
    refine lv_iload_n (i := 1) hx hb dX9_carriedOn_4 rfl (lv_at hl 1 rfl) ?_
    refine lv_bipush (v := 8) hx hb dX9_carriedOn_5 (by decide) ?_
    refine lv_icmp_ge (tgt := 19) hx hb dX9_carriedOn_7 (by decide) (fun h2 => ?_) (fun h2 => ?_)
    · replace hf := wd_ite_p h2 hf
      exact v_X9_carriedOn_j19 n C hR w _ _ _ _ _ ⟨hZ.1, hZ.2.1, hZ.2.2.1, hZ.2.2.2.1, (fun _ hq => absurd hq List.not_mem_nil), hZ.2.2.2.2.2⟩ (lv_sub hl [] rfl) hf
    · replace hf := wd_ite_n h2 hf
      refine lv_aload_n (i := 0) hx hb dX9_carriedOn_10 rfl (lv_at hl 0 rfl) ?_
      refine z_getR (tk := 20) fd_907 rfl hx hb hts hown hK hZ (hZ.k 0 rfl rfl) tw_254 dX9_carriedOn_11 ?_; clear hZ; intro hZ
      refine lv_iload_n (i := 1) hx hb dX9_carriedOn_14 rfl (lv_at hl 1 rfl) ?_
      have hf9 := Option.bind_eq_some_iff.mp hf; clear hf; obtain ⟨a3, ha3, hf⟩ := hf9
      replace hZ := hZ.add (r := some a3) (k := 21) (Nat.succ_ne_zero _) (fun q hq => by cases hq; exact hZ.k 0 rfl ha3)
      rw [ha3]
      have hf9 := wd_gd_e hf; clear hf; obtain ⟨h4, hf⟩ := hf9
      refine z_iald hx hb hK hZ (hZ.k 0 rfl rfl) h4 dX9_carriedOn_15 ?_
      refine lv_goto (tgt := 20) hx hb dX9_carriedOn_16 (by decide) ?_
      obtain ⟨rfl, rfl⟩ := Prod.mk.inj (Option.some.inj hf)
      exact z_iret hx hb hr hlocks hZ trivial dX9_carriedOn_20

def f_X9_goneInAll_l4 (n : Nat) (rec4 : Nat → Int32 → Int32 → Wd → Option (Int32 × Wd)) (x0 : Nat) (x1 : Int32) (x2 : Int32) (w : Wd) : Option (Int32 × Wd) :=
  if (8 : Int32) ≤ x2 then
    some (x1, w)
  else
    Option.bind (wd_R w 906 x0) fun a2 =>
    wd_gd (x2 < 0 ∨ wd_N w a2 ≤ x2.toNatClampNeg) <|
    Option.bind (wd_Q w a2 x2.toNatClampNeg) fun a4 =>
    wd_let (x1 + (wd_I w 204 a4)) fun v5 =>
    wd_let (x2 + 1) fun v7 =>
    rec4 x0 v5 v7 w
def f_X9_goneInAll (n : Nat) (w : Wd) (this : Nat) : Option (Int32 × Wd) :=
  wd_lp4 (f_X9_goneInAll_l4 n) n this (0 : Int32) (0 : Int32) w
set_option maxHeartbeats 4000000 in
set_option maxRecDepth 100000 in
theorem v_X9_goneInAll_b4 {p : Program} {l : Launch} {e : Env} {R : Room} {s : State} {m : MethodId} {args : Array Value} {below : List Frame} {meth : Method} {c : Code} {E : wd_E} {w0 : Wd} {r' : Int32} {w' : Wd} (n : Nat) (C : wd_X p s m args meth c cX9_goneInAll RX9 3 (some .int) "goneInAll" E) (hR : 0 ≤ R.frames ∧ 0 ≤ R.locals) (rec4 : Nat → Int32 → Int32 → Wd → Option (Int32 × Wd)) (hrec4 : ∀ (x0_ : Nat) (x1_ : Int32) (x2_ : Int32) (w_ : Wd) (H : Heap) (locs : List Loc) (cells slots : Nat) (ls : Array Slot), wd_Z E w0 R s w_ H locs cells slots [(some x0_, 10)] → lv_has ls 3 [(0, .ref x0_), (1, .int x1_), (2, .int x2_)] → rec4 x0_ x1_ x2_ w_ = some (r', w') → W p l e R s m args below meth c H locs cells slots (wd_fin E w0 (some (.int r')) w' True R args s below) (F0 m 4 ls [])) (x0 : Nat) (x1 : Int32) (x2 : Int32) (w : Wd) (H : Heap) (locs : List Loc) (cells slots : Nat) (ls : Array Slot) (hZ : wd_Z E w0 R s w H locs cells slots [(some x0, 10)]) (hl : lv_has ls 3 [(0, .ref x0), (1, .int x1), (2, .int x2)]) (hf : f_X9_goneInAll_l4 n rec4 x0 x1 x2 w = some (r', w')) : W p l e R s m args below meth c H locs cells slots (wd_fin E w0 (some (.int r')) w' True R args s below) (F0 m 4 ls []) := by
  obtain ⟨hx, hb, hr, hml, hts, hown, hlocks, hmn, hK⟩ := id C
  unfold f_X9_goneInAll_l4 at hf
  refine lv_iload_n (i := 2) hx hb dX9_goneInAll_4 rfl (lv_at hl 2 rfl) ?_
  refine lv_bipush (v := 8) hx hb dX9_goneInAll_5 (by decide) ?_
  refine lv_icmp_ge (tgt := 28) hx hb dX9_goneInAll_7 (by decide) (fun h1 => ?_) (fun h1 => ?_)
  · replace hf := wd_ite_p h1 hf
    refine lv_iload_n (i := 1) hx hb dX9_goneInAll_28 rfl (lv_at hl 1 rfl) ?_
    obtain ⟨rfl, rfl⟩ := Prod.mk.inj (Option.some.inj hf)
    exact z_iret hx hb hr hlocks hZ trivial dX9_goneInAll_29
  · replace hf := wd_ite_n h1 hf
    refine lv_iload_n (i := 1) hx hb dX9_goneInAll_10 rfl (lv_at hl 1 rfl) ?_
    refine lv_aload_n (i := 0) hx hb dX9_goneInAll_11 rfl (lv_at hl 0 rfl) ?_
    refine z_getR (tk := 23) fd_906 rfl hx hb hts hown hK hZ (hZ.k 0 rfl rfl) tw_253 dX9_goneInAll_12 ?_; clear hZ; intro hZ
    refine lv_iload_n (i := 2) hx hb dX9_goneInAll_15 rfl (lv_at hl 2 rfl) ?_
    have hf9 := Option.bind_eq_some_iff.mp hf; clear hf; obtain ⟨a2, ha2, hf⟩ := hf9
    replace hZ := hZ.add (r := some a2) (k := 24) (Nat.succ_ne_zero _) (fun q hq => by cases hq; exact hZ.k 0 rfl ha2)
    rw [ha2]
    have hf9 := wd_gd_e hf; clear hf; obtain ⟨h3, hf⟩ := hf9
    refine z_aald (k := 24) (by decide) (by decide) (tk := 2) rfl hx hb hK hZ (hZ.k 0 rfl rfl) h3 dX9_goneInAll_16 ?_; clear hZ; intro hZ
    have hf9 := Option.bind_eq_some_iff.mp hf; clear hf; obtain ⟨a4, ha4, hf⟩ := hf9
    replace hZ := hZ.add (r := some a4) (k := 3) (Nat.succ_ne_zero _) (fun q hq => by cases hq; exact hZ.k 0 rfl ha4)
    rw [ha4]
    refine z_getI fd_204 rfl hx hb hts hown hK hZ (hZ.k 0 rfl rfl) tw_216 dX9_goneInAll_17 ?_
    refine lv_iadd hx hb dX9_goneInAll_20 ?_
    have hf9 := wd_let_e hf; clear hf; obtain ⟨v5, e6, hf⟩ := hf9
    rw [e6]
    refine lv_istore_n (i := 1) (lv' := [(1, .int v5), (0, .ref x0), (2, .int x2)]) hx hb dX9_goneInAll_21 rfl hl (by decide) rfl ?_; clear hl; intro ls hl
    have hf9 := wd_let_e hf; clear hf; obtain ⟨v7, e8, hf⟩ := hf9
    refine lv_iinc (k := 2) (v := v7) (lv' := [(2, .int v7), (1, .int v5), (0, .ref x0)]) hx hb dX9_goneInAll_22 hl rfl (by rw [← e8]; rfl) (by decide) rfl ?_; clear hl; intro ls hl
    refine lv_goto (tgt := 4) hx hb dX9_goneInAll_25 (by decide) ?_
    exact hrec4 x0 v5 v7 w _ _ _ _ _ ⟨hZ.1, hZ.2.1, hZ.2.2.1, hZ.2.2.2.1, (List.forall_mem_cons.mpr ⟨⟨Nat.succ_ne_zero _, (fun q hq => by cases hq; exact (hZ.k 4 rfl rfl))⟩, (fun _ hq => absurd hq List.not_mem_nil)⟩), hZ.2.2.2.2.2⟩ (lv_sub hl [2, 1, 0] rfl) hf

theorem v_X9_goneInAll_l4 {p : Program} {l : Launch} {e : Env} {R : Room} {s : State} {m : MethodId} {args : Array Value} {below : List Frame} {meth : Method} {c : Code} {E : wd_E} {w0 : Wd} {r' : Int32} {w' : Wd} (n : Nat) (C : wd_X p s m args meth c cX9_goneInAll RX9 3 (some .int) "goneInAll" E) (hR : 0 ≤ R.frames ∧ 0 ≤ R.locals) : ∀ (k : Nat) (x0 : Nat) (x1 : Int32) (x2 : Int32) (w : Wd) (H : Heap) (locs : List Loc) (cells slots : Nat) (ls : Array Slot), wd_Z E w0 R s w H locs cells slots [(some x0, 10)] → lv_has ls 3 [(0, .ref x0), (1, .int x1), (2, .int x2)] → wd_lp4 (f_X9_goneInAll_l4 n) k x0 x1 x2 w = some (r', w') → W p l e R s m args below meth c H locs cells slots (wd_fin E w0 (some (.int r')) w' True R args s below) (F0 m 4 ls []) := by
  intro k
  induction k with
  | zero => intro _ _ _ _ _ _ _ _ _ _ _ hf; cases hf
  | succ k ih =>
    intro x0 x1 x2 w H locs cells slots ls hZ hl hf
    exact v_X9_goneInAll_b4 n C hR (wd_lp4 (f_X9_goneInAll_l4 n) k) ih x0 x1 x2 w H locs cells slots ls hZ hl hf

set_option maxHeartbeats 4000000 in
set_option maxRecDepth 100000 in
theorem c_X9_goneInAll (l : Launch) (E : wd_E) (n : Nat) (w : Wd) (this : Nat) (r' : Int32) (w' : Wd) (k_this : wd_K w this = 10) (hf : f_X9_goneInAll n w this = some (r', w')) : wd_C l E yX9_goneInAll cX9_goneInAll 3 (some .int) 0 0 [.ref this] w (some (.int r')) w' True := by
  refine wd_ofW (own := RX9) (nm := "goneInAll") (ks := [(some this, 10)]) (lv := [(0, .ref this)]) (by decide) rfl rfl (Nat.le_of_ble_eq_true rfl) rfl (List.forall_mem_cons.mpr ⟨⟨Nat.succ_ne_zero _, fun q hq => by cases hq; exact k_this⟩, (fun _ hq => absurd hq List.not_mem_nil)⟩) ?_
  intro p e s m args below meth c R H locs cells slots ls C hR hZ hl
  obtain ⟨hx, hb, hr, hml, hts, hown, hlocks, hmn, hK⟩ := id C
  unfold f_X9_goneInAll at hf
  refine lv_iconst (v := 0) hx hb dX9_goneInAll_0 (by decide) ?_
  refine lv_istore_n (i := 1) (lv' := [(1, .int (0 : Int32)), (0, .ref this)]) hx hb dX9_goneInAll_1 rfl hl (by decide) rfl ?_; clear hl; intro ls hl
  refine lv_iconst (v := 0) hx hb dX9_goneInAll_2 (by decide) ?_
  refine lv_istore_n (i := 2) (lv' := [(2, .int (0 : Int32)), (1, .int (0 : Int32)), (0, .ref this)]) hx hb dX9_goneInAll_3 rfl hl (by decide) rfl ?_; clear hl; intro ls hl
  exact v_X9_goneInAll_l4 n C hR n this (0 : Int32) (0 : Int32) w _ _ _ _ _ ⟨hZ.1, hZ.2.1, hZ.2.2.1, hZ.2.2.2.1, (List.forall_mem_cons.mpr ⟨⟨Nat.succ_ne_zero _, (fun q hq => by cases hq; exact (hZ.k 0 rfl rfl))⟩, (fun _ hq => absurd hq List.not_mem_nil)⟩), hZ.2.2.2.2.2⟩ (lv_sub hl [2, 1, 0] rfl) hf

def f_X9_takeOver_l10 (n : Nat) (rec10 : Nat → Option Nat → Int32 → Wd → Option Wd) (x0 : Nat) (x1 : Option Nat) (x2 : Int32) (w : Wd) : Option Wd :=
  if (8 : Int32) ≤ x2 then
    some w
  else
    Option.bind (wd_R w 906 x0) fun a5 =>
    wd_gd (x2 < 0 ∨ wd_N w a5 ≤ x2.toNatClampNeg) <|
    Option.bind x1 fun a7 =>
    Option.bind (wd_R w 906 a7) fun a8 =>
    wd_gd (x2 < 0 ∨ wd_N w a8 ≤ x2.toNatClampNeg) <|
    Option.bind (wd_Q w a5 x2.toNatClampNeg) fun a10 =>
    Option.bind (f_X2_learnAllOf n w a10 (wd_Q w a8 x2.toNatClampNeg)) fun w11 =>
    wd_let (x2 + 1) fun v13 =>
    rec10 x0 (some a7) v13 w11
def f_X9_takeOver (n : Nat) (w : Wd) (this : Nat) (p0 : Option Nat) : Option Wd :=
  Option.bind p0 fun a1 =>
  wd_let (wd_sI w 901 this (wd_I w 901 a1)) fun w2 =>
  wd_lp4 (f_X9_takeOver_l10 n) n this (some a1) (0 : Int32) w2
set_option maxHeartbeats 4000000 in
set_option maxRecDepth 100000 in
theorem v_X9_takeOver_b10 {p : Program} {l : Launch} {e : Env} {R : Room} {s : State} {m : MethodId} {args : Array Value} {below : List Frame} {meth : Method} {c : Code} {E : wd_E} {w0 : Wd} {w' : Wd} (n : Nat) (C : wd_X p s m args meth c cX9_takeOver RX9 3 none "takeOver" E) (hR : 2 ≤ R.frames ∧ 81 ≤ R.locals) (rec10 : Nat → Option Nat → Int32 → Wd → Option Wd) (hrec10 : ∀ (x0_ : Nat) (x1_ : Option Nat) (x2_ : Int32) (w_ : Wd) (H : Heap) (locs : List Loc) (cells slots : Nat) (ls : Array Slot), wd_Z E w0 R s w_ H locs cells slots [(some x0_, 10), (x1_, 10)] → lv_has ls 3 [(0, .ref x0_), (1, va_rf x1_), (2, .int x2_)] → rec10 x0_ x1_ x2_ w_ = some w' → W p l e R s m args below meth c H locs cells slots (wd_fin E w0 none w' True R args s below) (F0 m 10 ls [])) (x0 : Nat) (x1 : Option Nat) (x2 : Int32) (w : Wd) (H : Heap) (locs : List Loc) (cells slots : Nat) (ls : Array Slot) (hZ : wd_Z E w0 R s w H locs cells slots [(some x0, 10), (x1, 10)]) (hl : lv_has ls 3 [(0, .ref x0), (1, va_rf x1), (2, .int x2)]) (hf : f_X9_takeOver_l10 n rec10 x0 x1 x2 w = some w') : W p l e R s m args below meth c H locs cells slots (wd_fin E w0 none w' True R args s below) (F0 m 10 ls []) := by
  obtain ⟨hx, hb, hr, hml, hts, hown, hlocks, hmn, hK⟩ := id C
  unfold f_X9_takeOver_l10 at hf
  refine lv_iload_n (i := 2) hx hb dX9_takeOver_10 rfl (lv_at hl 2 rfl) ?_
  refine lv_bipush (v := 8) hx hb dX9_takeOver_11 (by decide) ?_
  refine lv_icmp_ge (tgt := 37) hx hb dX9_takeOver_13 (by decide) (fun h4 => ?_) (fun h4 => ?_)
  · replace hf := wd_ite_p h4 hf
    obtain rfl := Option.some.inj hf
    exact z_vret hx hb hr hlocks hZ trivial dX9_takeOver_37
  · replace hf := wd_ite_n h4 hf
    refine lv_aload_n (i := 0) hx hb dX9_takeOver_16 rfl (lv_at hl 0 rfl) ?_
    refine z_getR (tk := 23) fd_906 rfl hx hb hts hown hK hZ (hZ.k 0 rfl rfl) tw_253 dX9_takeOver_17 ?_; clear hZ; intro hZ
    refine lv_iload_n (i := 2) hx hb dX9_takeOver_20 rfl (lv_at hl 2 rfl) ?_
    have hf9 := Option.bind_eq_some_iff.mp hf; clear hf; obtain ⟨a5, ha5, hf⟩ := hf9
    replace hZ := hZ.add (r := some a5) (k := 24) (Nat.succ_ne_zero _) (fun q hq => by cases hq; exact hZ.k 0 rfl ha5)
    rw [ha5]
    have hf9 := wd_gd_e hf; clear hf; obtain ⟨h6, hf⟩ := hf9
    refine z_aald (k := 24) (by decide) (by decide) (tk := 2) rfl hx hb hK hZ (hZ.k 0 rfl rfl) h6 dX9_takeOver_21 ?_; clear hZ; intro hZ
    refine z_aload_n (i := 1) hx hb dX9_takeOver_22 rfl (lv_at hl 1 rfl) ?_
    have hf9 := Option.bind_eq_some_iff.mp hf; clear hf; obtain ⟨a7, ha7, hf⟩ := hf9
    subst ha7
    replace hl : lv_has ls 3 [(0, .ref x0), (1, .ref a7), (2, .int x2)] := hl
    replace hZ : wd_Z E w0 R s w H locs cells slots [((wd_Q w a5 x2.toNatClampNeg), 3), (some a5, 24), ((wd_R w 906 x0), 24), (some x0, 10), (some a7, 10)] := hZ
    refine z_getR (tk := 23) fd_906 rfl hx hb hts hown hK hZ (hZ.k 4 rfl rfl) tw_253 dX9_takeOver_23 ?_; clear hZ; intro hZ
    refine lv_iload_n (i := 2) hx hb dX9_takeOver_26 rfl (lv_at hl 2 rfl) ?_
    have hf9 := Option.bind_eq_some_iff.mp hf; clear hf; obtain ⟨a8, ha8, hf⟩ := hf9
    replace hZ := hZ.add (r := some a8) (k := 24) (Nat.succ_ne_zero _) (fun q hq => by cases hq; exact hZ.k 0 rfl ha8)
    rw [ha8]
    have hf9 := wd_gd_e hf; clear hf; obtain ⟨h9, hf⟩ := hf9
    refine z_aald (k := 24) (by decide) (by decide) (tk := 2) rfl hx hb hK hZ (hZ.k 0 rfl rfl) h9 dX9_takeOver_27 ?_; clear hZ; intro hZ
    have hf9 := Option.bind_eq_some_iff.mp hf; clear hf; obtain ⟨a10, ha10, hf⟩ := hf9
    replace hZ := hZ.add (r := some a10) (k := 3) (Nat.succ_ne_zero _) (fun q hq => by cases hq; exact hZ.k 3 rfl ha10)
    rw [ha10]
    have hf9 := Option.bind_eq_some_iff.mp hf; clear hf; obtain ⟨w11, hc12, hf⟩ := hf9
    refine z_callV (ci := 2) (As := [va_rf (wd_Q w a8 x2.toNatClampNeg)]) (rest := []) (c_X2_learnAllOf l E n w a10 (wd_Q w a8 x2.toNatClampNeg) w11 (hZ.k 0 rfl rfl) (fun q hq => hZ.k 1 rfl hq) hc12) mo_X2_learnAllOf rfl (by decide) rfl tw_1053 tw_1054 tw_1052 hx hb hml hts hown hK ⟨Nat.le_trans (by decide) hR.1, Nat.le_trans (by decide) hR.2⟩ hZ (hZ.k 0 rfl rfl) rfl hl.1 rfl (Nat.le_of_ble_eq_true rfl) rfl dX9_takeOver_28 ?_; clear hZ; intro H locs cells slots hX hZ
    have hf9 := wd_let_e hf; clear hf; obtain ⟨v13, e14, hf⟩ := hf9
    refine lv_iinc (k := 2) (v := v13) (lv' := [(2, .int v13), (0, .ref x0), (1, .ref a7)]) hx hb dX9_takeOver_31 hl rfl (by rw [← e14]; rfl) (by decide) rfl ?_; clear hl; intro ls hl
    refine lv_goto (tgt := 10) hx hb dX9_takeOver_34 (by decide) ?_
    exact hrec10 x0 (some a7) v13 w11 _ _ _ _ _ ⟨hZ.1, hZ.2.1, hZ.2.2.1, hZ.2.2.2.1, (List.forall_mem_cons.mpr ⟨⟨Nat.succ_ne_zero _, (fun q hq => by cases hq; exact (hZ.k 7 rfl rfl))⟩, (List.forall_mem_cons.mpr ⟨⟨Nat.succ_ne_zero _, (fun q hq => by cases hq; exact (hZ.k 8 rfl rfl))⟩, (fun _ hq => absurd hq List.not_mem_nil)⟩)⟩), hZ.2.2.2.2.2⟩ (lv_sub hl [1, 2, 0] rfl) hf

theorem v_X9_takeOver_l10 {p : Program} {l : Launch} {e : Env} {R : Room} {s : State} {m : MethodId} {args : Array Value} {below : List Frame} {meth : Method} {c : Code} {E : wd_E} {w0 : Wd} {w' : Wd} (n : Nat) (C : wd_X p s m args meth c cX9_takeOver RX9 3 none "takeOver" E) (hR : 2 ≤ R.frames ∧ 81 ≤ R.locals) : ∀ (k : Nat) (x0 : Nat) (x1 : Option Nat) (x2 : Int32) (w : Wd) (H : Heap) (locs : List Loc) (cells slots : Nat) (ls : Array Slot), wd_Z E w0 R s w H locs cells slots [(some x0, 10), (x1, 10)] → lv_has ls 3 [(0, .ref x0), (1, va_rf x1), (2, .int x2)] → wd_lp4 (f_X9_takeOver_l10 n) k x0 x1 x2 w = some w' → W p l e R s m args below meth c H locs cells slots (wd_fin E w0 none w' True R args s below) (F0 m 10 ls []) := by
  intro k
  induction k with
  | zero => intro _ _ _ _ _ _ _ _ _ _ _ hf; cases hf
  | succ k ih =>
    intro x0 x1 x2 w H locs cells slots ls hZ hl hf
    exact v_X9_takeOver_b10 n C hR (wd_lp4 (f_X9_takeOver_l10 n) k) ih x0 x1 x2 w H locs cells slots ls hZ hl hf

set_option maxHeartbeats 4000000 in
set_option maxRecDepth 100000 in
theorem c_X9_takeOver (l : Launch) (E : wd_E) (n : Nat) (w : Wd) (this : Nat) (p0 : Option Nat) (w' : Wd) (k_this : wd_K w this = 10) (k_p0 : ∀ q, p0 = some q → wd_K w q = 10) (hf : f_X9_takeOver n w this p0 = some w') : wd_C l E yX9_takeOver cX9_takeOver 3 none 2 81 [.ref this, va_rf p0] w none w' True := by
  refine wd_ofW (own := RX9) (nm := "takeOver") (ks := [(some this, 10), (p0, 10)]) (lv := [(0, .ref this), (1, va_rf p0)]) (by decide) rfl rfl (by simp [lg_sl, va_rf_cat, va_cat_r, va_cat_i, va_cat_l, va_cat_d]) (by simp [lv_args, va_rf_cat, va_cat_r, va_cat_i, va_cat_l, va_cat_d]) (List.forall_mem_cons.mpr ⟨⟨Nat.succ_ne_zero _, fun q hq => by cases hq; exact k_this⟩, (List.forall_mem_cons.mpr ⟨⟨Nat.succ_ne_zero _, k_p0⟩, (fun _ hq => absurd hq List.not_mem_nil)⟩)⟩) ?_
  intro p e s m args below meth c R H locs cells slots ls C hR hZ hl
  obtain ⟨hx, hb, hr, hml, hts, hown, hlocks, hmn, hK⟩ := id C
  unfold f_X9_takeOver at hf
  refine lv_aload_n (i := 0) hx hb dX9_takeOver_0 rfl (lv_at hl 0 rfl) ?_
  refine z_aload_n (i := 1) hx hb dX9_takeOver_1 rfl (lv_at hl 1 rfl) ?_
  have hf9 := Option.bind_eq_some_iff.mp hf; clear hf; obtain ⟨a1, ha1, hf⟩ := hf9
  subst ha1
  replace hl : lv_has ls 3 [(0, .ref this), (1, .ref a1)] := hl
  replace hZ : wd_Z E w R s w H locs cells slots [(some this, 10), (some a1, 10)] := hZ
  refine z_getI fd_901 rfl hx hb hts hown hK hZ (hZ.k 1 rfl rfl) tw_245 dX9_takeOver_2 ?_
  refine z_putI fd_901 cok_9 rfl rfl rfl rfl rfl hx hb hts hown hK hZ (hZ.k 0 rfl rfl) tw_245 dX9_takeOver_5 ?_; clear hZ; intro H locs hZ
  have hf9 := wd_let_e hf; clear hf; obtain ⟨w2, e3, hf⟩ := hf9
  rw [e3] at hZ
  refine lv_iconst (v := 0) hx hb dX9_takeOver_8 (by decide) ?_
  refine lv_istore_n (i := 2) (lv' := [(2, .int (0 : Int32)), (0, .ref this), (1, .ref a1)]) hx hb dX9_takeOver_9 rfl hl (by decide) rfl ?_; clear hl; intro ls hl
  exact v_X9_takeOver_l10 n C hR n this (some a1) (0 : Int32) w2 _ _ _ _ _ ⟨hZ.1, hZ.2.1, hZ.2.2.1, hZ.2.2.2.1, (List.forall_mem_cons.mpr ⟨⟨Nat.succ_ne_zero _, (fun q hq => by cases hq; exact (hZ.k 0 rfl rfl))⟩, (List.forall_mem_cons.mpr ⟨⟨Nat.succ_ne_zero _, (fun q hq => by cases hq; exact (hZ.k 1 rfl rfl))⟩, (fun _ hq => absurd hq List.not_mem_nil)⟩)⟩), hZ.2.2.2.2.2⟩ (lv_sub hl [1, 2, 0] rfl) hf

def f_X9_dropAllUnderWay_l9 (n : Nat) (rec9 : Nat → Int32 → Wd → Option Wd) (x0 : Nat) (x1 : Int32) (w : Wd) : Option Wd :=
  if (8 : Int32) ≤ x1 then
    Option.bind (wd_R w 905 x0) fun a5 =>
    Option.bind (f_X6_takeBackAll n w a5) fun w6 =>
    some w6
  else
    Option.bind (wd_R w 906 x0) fun a8 =>
    wd_gd (x1 < 0 ∨ wd_N w a8 ≤ x1.toNatClampNeg) <|
    Option.bind (wd_Q w a8 x1.toNatClampNeg) fun a10 =>
    Option.bind (f_X2_dropWaitingAndKept n w a10) fun w11 =>
    wd_let (x1 + 1) fun v13 =>
    rec9 x0 v13 w11
def f_X9_dropAllUnderWay (n : Nat) (w : Wd) (this : Nat) : Option Wd :=
  Option.bind (wd_R w 900 this) fun a1 =>
  Option.bind (f_X8_clear n w a1) fun w2 =>
  wd_lp3 (f_X9_dropAllUnderWay_l9 n) n this (0 : Int32) w2
set_option maxHeartbeats 4000000 in
set_option maxRecDepth 100000 in
theorem v_X9_dropAllUnderWay_b9 {p : Program} {l : Launch} {e : Env} {R : Room} {s : State} {m : MethodId} {args : Array Value} {below : List Frame} {meth : Method} {c : Code} {E : wd_E} {w0 : Wd} {w' : Wd} (n : Nat) (C : wd_X p s m args meth c cX9_dropAllUnderWay RX9 2 none "dropAllUnderWay" E) (hR : 2 ≤ R.frames ∧ 41 ≤ R.locals) (rec9 : Nat → Int32 → Wd → Option Wd) (hrec9 : ∀ (x0_ : Nat) (x1_ : Int32) (w_ : Wd) (H : Heap) (locs : List Loc) (cells slots : Nat) (ls : Array Slot), wd_Z E w0 R s w_ H locs cells slots [(some x0_, 10)] → lv_has ls 2 [(0, .ref x0_), (1, .int x1_)] → rec9 x0_ x1_ w_ = some w' → W p l e R s m args below meth c H locs cells slots (wd_fin E w0 none w' True R args s below) (F0 m 9 ls [])) (x0 : Nat) (x1 : Int32) (w : Wd) (H : Heap) (locs : List Loc) (cells slots : Nat) (ls : Array Slot) (hZ : wd_Z E w0 R s w H locs cells slots [(some x0, 10)]) (hl : lv_has ls 2 [(0, .ref x0), (1, .int x1)]) (hf : f_X9_dropAllUnderWay_l9 n rec9 x0 x1 w = some w') : W p l e R s m args below meth c H locs cells slots (wd_fin E w0 none w' True R args s below) (F0 m 9 ls []) := by
  obtain ⟨hx, hb, hr, hml, hts, hown, hlocks, hmn, hK⟩ := id C
  unfold f_X9_dropAllUnderWay_l9 at hf
  refine lv_iload_n (i := 1) hx hb dX9_dropAllUnderWay_9 rfl (lv_at hl 1 rfl) ?_
  refine lv_bipush (v := 8) hx hb dX9_dropAllUnderWay_10 (by decide) ?_
  refine lv_icmp_ge (tgt := 30) hx hb dX9_dropAllUnderWay_12 (by decide) (fun h4 => ?_) (fun h4 => ?_)
  · replace hf := wd_ite_p h4 hf
    refine lv_aload_n (i := 0) hx hb dX9_dropAllUnderWay_30 rfl (lv_at hl 0 rfl) ?_
    refine z_getR (tk := 6) fd_905 rfl hx hb hts hown hK hZ (hZ.k 0 rfl rfl) tw_252 dX9_dropAllUnderWay_31 ?_; clear hZ; intro hZ
    have hf9 := Option.bind_eq_some_iff.mp hf; clear hf; obtain ⟨a5, ha5, hf⟩ := hf9
    replace hZ := hZ.add (r := some a5) (k := 7) (Nat.succ_ne_zero _) (fun q hq => by cases hq; exact hZ.k 0 rfl ha5)
    rw [ha5]
    have hf9 := Option.bind_eq_some_iff.mp hf; clear hf; obtain ⟨w6, hc7, hf⟩ := hf9
    refine z_callV (ci := 6) (As := []) (rest := []) (c_X6_takeBackAll l E n w a5 w6 (hZ.k 0 rfl rfl) hc7) mo_X6_takeBackAll rfl (by decide) rfl tw_1077 tw_1078 tw_1076 hx hb hml hts hown hK ⟨Nat.le_trans (by decide) hR.1, Nat.le_trans (by decide) hR.2⟩ hZ (hZ.k 0 rfl rfl) rfl hl.1 rfl (Nat.le_of_ble_eq_true rfl) rfl dX9_dropAllUnderWay_34 ?_; clear hZ; intro H locs cells slots hX hZ
    obtain rfl := Option.some.inj hf
    exact z_vret hx hb hr hlocks hZ trivial dX9_dropAllUnderWay_37
  · replace hf := wd_ite_n h4 hf
    refine lv_aload_n (i := 0) hx hb dX9_dropAllUnderWay_15 rfl (lv_at hl 0 rfl) ?_
    refine z_getR (tk := 23) fd_906 rfl hx hb hts hown hK hZ (hZ.k 0 rfl rfl) tw_253 dX9_dropAllUnderWay_16 ?_; clear hZ; intro hZ
    refine lv_iload_n (i := 1) hx hb dX9_dropAllUnderWay_19 rfl (lv_at hl 1 rfl) ?_
    have hf9 := Option.bind_eq_some_iff.mp hf; clear hf; obtain ⟨a8, ha8, hf⟩ := hf9
    replace hZ := hZ.add (r := some a8) (k := 24) (Nat.succ_ne_zero _) (fun q hq => by cases hq; exact hZ.k 0 rfl ha8)
    rw [ha8]
    have hf9 := wd_gd_e hf; clear hf; obtain ⟨h9, hf⟩ := hf9
    refine z_aald (k := 24) (by decide) (by decide) (tk := 2) rfl hx hb hK hZ (hZ.k 0 rfl rfl) h9 dX9_dropAllUnderWay_20 ?_; clear hZ; intro hZ
    have hf9 := Option.bind_eq_some_iff.mp hf; clear hf; obtain ⟨a10, ha10, hf⟩ := hf9
    replace hZ := hZ.add (r := some a10) (k := 3) (Nat.succ_ne_zero _) (fun q hq => by cases hq; exact hZ.k 0 rfl ha10)
    rw [ha10]
    have hf9 := Option.bind_eq_some_iff.mp hf; clear hf; obtain ⟨w11, hc12, hf⟩ := hf9
    refine z_callV (ci := 2) (As := []) (rest := []) (c_X2_dropWaitingAndKept l E n w a10 w11 (hZ.k 0 rfl rfl) hc12) mo_X2_dropWaitingAndKept rfl (by decide) rfl tw_1072 tw_1073 tw_1071 hx hb hml hts hown hK ⟨Nat.le_trans (by decide) hR.1, Nat.le_trans (by decide) hR.2⟩ hZ (hZ.k 0 rfl rfl) rfl hl.1 rfl (Nat.le_of_ble_eq_true rfl) rfl dX9_dropAllUnderWay_21 ?_; clear hZ; intro H locs cells slots hX hZ
    have hf9 := wd_let_e hf; clear hf; obtain ⟨v13, e14, hf⟩ := hf9
    refine lv_iinc (k := 1) (v := v13) (lv' := [(1, .int v13), (0, .ref x0)]) hx hb dX9_dropAllUnderWay_24 hl rfl (by rw [← e14]; rfl) (by decide) rfl ?_; clear hl; intro ls hl
    refine lv_goto (tgt := 9) hx hb dX9_dropAllUnderWay_27 (by decide) ?_
    exact hrec9 x0 v13 w11 _ _ _ _ _ ⟨hZ.1, hZ.2.1, hZ.2.2.1, hZ.2.2.2.1, (List.forall_mem_cons.mpr ⟨⟨Nat.succ_ne_zero _, (fun q hq => by cases hq; exact (hZ.k 4 rfl rfl))⟩, (fun _ hq => absurd hq List.not_mem_nil)⟩), hZ.2.2.2.2.2⟩ (lv_sub hl [1, 0] rfl) hf

theorem v_X9_dropAllUnderWay_l9 {p : Program} {l : Launch} {e : Env} {R : Room} {s : State} {m : MethodId} {args : Array Value} {below : List Frame} {meth : Method} {c : Code} {E : wd_E} {w0 : Wd} {w' : Wd} (n : Nat) (C : wd_X p s m args meth c cX9_dropAllUnderWay RX9 2 none "dropAllUnderWay" E) (hR : 2 ≤ R.frames ∧ 41 ≤ R.locals) : ∀ (k : Nat) (x0 : Nat) (x1 : Int32) (w : Wd) (H : Heap) (locs : List Loc) (cells slots : Nat) (ls : Array Slot), wd_Z E w0 R s w H locs cells slots [(some x0, 10)] → lv_has ls 2 [(0, .ref x0), (1, .int x1)] → wd_lp3 (f_X9_dropAllUnderWay_l9 n) k x0 x1 w = some w' → W p l e R s m args below meth c H locs cells slots (wd_fin E w0 none w' True R args s below) (F0 m 9 ls []) := by
  intro k
  induction k with
  | zero => intro _ _ _ _ _ _ _ _ _ _ hf; cases hf
  | succ k ih =>
    intro x0 x1 w H locs cells slots ls hZ hl hf
    exact v_X9_dropAllUnderWay_b9 n C hR (wd_lp3 (f_X9_dropAllUnderWay_l9 n) k) ih x0 x1 w H locs cells slots ls hZ hl hf

set_option maxHeartbeats 4000000 in
set_option maxRecDepth 100000 in
theorem c_X9_dropAllUnderWay (l : Launch) (E : wd_E) (n : Nat) (w : Wd) (this : Nat) (w' : Wd) (k_this : wd_K w this = 10) (hf : f_X9_dropAllUnderWay n w this = some w') : wd_C l E yX9_dropAllUnderWay cX9_dropAllUnderWay 2 none 2 41 [.ref this] w none w' True := by
  refine wd_ofW (own := RX9) (nm := "dropAllUnderWay") (ks := [(some this, 10)]) (lv := [(0, .ref this)]) (by decide) rfl rfl (Nat.le_of_ble_eq_true rfl) rfl (List.forall_mem_cons.mpr ⟨⟨Nat.succ_ne_zero _, fun q hq => by cases hq; exact k_this⟩, (fun _ hq => absurd hq List.not_mem_nil)⟩) ?_
  intro p e s m args below meth c R H locs cells slots ls C hR hZ hl
  obtain ⟨hx, hb, hr, hml, hts, hown, hlocks, hmn, hK⟩ := id C
  unfold f_X9_dropAllUnderWay at hf
  refine lv_aload_n (i := 0) hx hb dX9_dropAllUnderWay_0 rfl (lv_at hl 0 rfl) ?_
  refine z_getR (tk := 8) fd_900 rfl hx hb hts hown hK hZ (hZ.k 0 rfl rfl) tw_243 dX9_dropAllUnderWay_1 ?_; clear hZ; intro hZ
  have hf9 := Option.bind_eq_some_iff.mp hf; clear hf; obtain ⟨a1, ha1, hf⟩ := hf9
  replace hZ := hZ.add (r := some a1) (k := 9) (Nat.succ_ne_zero _) (fun q hq => by cases hq; exact hZ.k 0 rfl ha1)
  rw [ha1]
  have hf9 := Option.bind_eq_some_iff.mp hf; clear hf; obtain ⟨w2, hc3, hf⟩ := hf9
  refine z_callV (ci := 8) (As := []) (rest := []) (c_X8_clear l E n w a1 w2 (hZ.k 0 rfl rfl) hc3) mo_X8_clear rfl (by decide) rfl tw_1068 tw_1069 tw_1067 hx hb hml hts hown hK ⟨Nat.le_trans (by decide) hR.1, Nat.le_trans (by decide) hR.2⟩ hZ (hZ.k 0 rfl rfl) rfl hl.1 rfl (Nat.le_of_ble_eq_true rfl) rfl dX9_dropAllUnderWay_4 ?_; clear hZ; intro H locs cells slots hX hZ
  refine lv_iconst (v := 0) hx hb dX9_dropAllUnderWay_7 (by decide) ?_
  refine lv_istore_n (i := 1) (lv' := [(1, .int (0 : Int32)), (0, .ref this)]) hx hb dX9_dropAllUnderWay_8 rfl hl (by decide) rfl ?_; clear hl; intro ls hl
  exact v_X9_dropAllUnderWay_l9 n C hR n this (0 : Int32) w2 _ _ _ _ _ ⟨hZ.1, hZ.2.1, hZ.2.2.1, hZ.2.2.2.1, (List.forall_mem_cons.mpr ⟨⟨Nat.succ_ne_zero _, (fun q hq => by cases hq; exact (hZ.k 2 rfl rfl))⟩, (fun _ hq => absurd hq List.not_mem_nil)⟩), hZ.2.2.2.2.2⟩ (lv_sub hl [1, 0] rfl) hf

def f_X9_sourceFor_j36 (n : Nat) (x0 : Option Nat) (x2 : Int32) (w : Wd) : Option (Int32 × Wd) :=
  Option.bind x0 fun a10 =>
  wd_b2 (f_X3_port n w a10 x2) fun r13 w11 =>
  wd_on r13 (
    some ((-1 : Int32), w11))
    (fun a14 =>
    some ((wd_I w11 702 a14), w11))
def f_X9_sourceFor (n : Nat) (w : Wd) (p0 : Option Nat) (p1 : Int32) : Option (Int32 × Wd) :=
  Option.bind p0 fun a1 =>
  wd_b2 (f_X3_owns n w a1 p1) fun r4 w2 =>
  if r4 = 0 then
    wd_b2 (f_X3_portTo n w2 a1 p1) fun r8 w6 =>
    if r8 = (-2 : Int32) then
      wd_b2 (f_X3_hopTo n w6 a1 p1) fun r17 w15 =>
      wd_b2 (f_X3_farOf n w15 a1 r17) fun r20 w18 =>
      wd_b2 (f_X3_portTo n w18 a1 r20) fun r23 w21 =>
      f_X9_sourceFor_j36 n (some a1) r23 w21
    else
      f_X9_sourceFor_j36 n (some a1) r8 w6
  else
    some (p1, w2)
set_option maxHeartbeats 4000000 in
set_option maxRecDepth 100000 in
theorem v_X9_sourceFor_j36 {p : Program} {l : Launch} {e : Env} {R : Room} {s : State} {m : MethodId} {args : Array Value} {below : List Frame} {meth : Method} {c : Code} {E : wd_E} {w0 : Wd} {r' : Int32} {w' : Wd} (n : Nat) (C : wd_X p s m args meth c cX9_sourceFor RX9 4 (some .int) "sourceFor" E) (hR : 1 ≤ R.frames ∧ 23 ≤ R.locals) (x0 : Option Nat) (x2 : Int32) (w : Wd) (H : Heap) (locs : List Loc) (cells slots : Nat) (ls : Array Slot) (hZ : wd_Z E w0 R s w H locs cells slots [(x0, 4)]) (hl : lv_has ls 4 [(0, va_rf x0), (2, .int x2)]) (hf : f_X9_sourceFor_j36 n x0 x2 w = some (r', w')) : W p l e R s m args below meth c H locs cells slots (wd_fin E w0 (some (.int r')) w' True R args s below) (F0 m 36 ls []) := by
  obtain ⟨hx, hb, hr, hml, hts, hown, hlocks, hmn, hK⟩ := id C
  unfold f_X9_sourceFor_j36 at hf
  refine z_aload_n (i := 0) hx hb dX9_sourceFor_36 rfl (lv_at hl 0 rfl) ?_
  refine lv_iload_n (i := 2) hx hb dX9_sourceFor_37 rfl (lv_at hl 1 rfl) ?_
  have hf9 := Option.bind_eq_some_iff.mp hf; clear hf; obtain ⟨a10, ha10, hf⟩ := hf9
  subst ha10
  replace hl : lv_has ls 4 [(0, .ref a10), (2, .int x2)] := hl
  replace hZ : wd_Z E w0 R s w H locs cells slots [(some a10, 4)] := hZ
  have hf9 := wd_b2_e hf; clear hf; obtain ⟨r13, w11, hc12, hf⟩ := hf9
  refine z_callV (ci := 3) (As := [.int x2]) (rest := []) (c_X3_port l E n w a10 x2 r13 w11 (hZ.k 0 rfl rfl) hc12) mo_X3_port rfl (by decide) rfl tw_488 tw_489 tw_664 hx hb hml hts hown hK ⟨Nat.le_trans (by decide) hR.1, Nat.le_trans (by decide) hR.2⟩ hZ (hZ.k 0 rfl rfl) rfl hl.1 rfl (Nat.le_of_ble_eq_true rfl) rfl dX9_sourceFor_38 ?_; clear hZ; intro H locs cells slots hX hZ
  replace hZ := hZ.add (Nat.succ_ne_zero _) hX
  refine z_astore_n (i := 3) (lv' := [(3, va_rf r13), (0, .ref a10), (2, .int x2)]) hx hb dX9_sourceFor_41 rfl hl (by decide) rfl ?_; clear hl; intro ls hl
  refine z_aload_n (i := 3) hx hb dX9_sourceFor_42 rfl (lv_at hl 0 rfl) ?_
  refine z_ifnonnull (tgt := 50) hx hb dX9_sourceFor_43 (by decide) (fun a14 ha14 => ?_) (fun hn => ?_)
  · replace hf := wd_on_s ha14 hf
    subst ha14
    replace hl : lv_has ls 4 [(3, .ref a14), (0, .ref a10), (2, .int x2)] := hl
    replace hZ : wd_Z E w0 R s w11 H locs cells slots [(some a14, 8), (some a10, 4)] := hZ
    refine lv_aload_n (i := 3) hx hb dX9_sourceFor_50 rfl (lv_at hl 0 rfl) ?_
    refine z_getI fd_702 rfl hx hb hts hown hK hZ (hZ.k 0 rfl rfl) tw_568 dX9_sourceFor_51 ?_
    obtain ⟨rfl, rfl⟩ := Prod.mk.inj (Option.some.inj hf)
    exact z_iret hx hb hr hlocks hZ trivial dX9_sourceFor_54
  · replace hf := wd_on_n hn hf
    subst hn
    replace hl : lv_has ls 4 [(3, va_rf none), (0, .ref a10), (2, .int x2)] := hl
    replace hZ : wd_Z E w0 R s w11 H locs cells slots [(none, 8), (some a10, 4)] := hZ
    refine lv_iconst (v := -1) hx hb dX9_sourceFor_46 (by decide) ?_
    refine lv_goto (tgt := 54) hx hb dX9_sourceFor_47 (by decide) ?_
    obtain ⟨rfl, rfl⟩ := Prod.mk.inj (Option.some.inj hf)
    exact z_iret hx hb hr hlocks hZ trivial dX9_sourceFor_54

set_option maxHeartbeats 4000000 in
set_option maxRecDepth 100000 in
theorem c_X9_sourceFor (l : Launch) (E : wd_E) (n : Nat) (w : Wd) (p0 : Option Nat) (p1 : Int32) (r' : Int32) (w' : Wd) (k_p0 : ∀ q, p0 = some q → wd_K w q = 4) (hf : f_X9_sourceFor n w p0 p1 = some (r', w')) : wd_C l E yX9_sourceFor cX9_sourceFor 4 (some .int) 1 23 [va_rf p0, .int p1] w (some (.int r')) w' True := by
  refine wd_ofW (own := RX9) (nm := "sourceFor") (ks := [(p0, 4)]) (lv := [(0, va_rf p0), (1, .int p1)]) (by decide) rfl rfl (by simp [lg_sl, va_rf_cat, va_cat_r, va_cat_i, va_cat_l, va_cat_d]) (by simp [lv_args, va_rf_cat, va_cat_r, va_cat_i, va_cat_l, va_cat_d]) (List.forall_mem_cons.mpr ⟨⟨Nat.succ_ne_zero _, k_p0⟩, (fun _ hq => absurd hq List.not_mem_nil)⟩) ?_
  intro p e s m args below meth c R H locs cells slots ls C hR hZ hl
  obtain ⟨hx, hb, hr, hml, hts, hown, hlocks, hmn, hK⟩ := id C
  unfold f_X9_sourceFor at hf
  refine z_aload_n (i := 0) hx hb dX9_sourceFor_0 rfl (lv_at hl 0 rfl) ?_
  refine lv_iload_n (i := 1) hx hb dX9_sourceFor_1 rfl (lv_at hl 1 rfl) ?_
  have hf9 := Option.bind_eq_some_iff.mp hf; clear hf; obtain ⟨a1, ha1, hf⟩ := hf9
  subst ha1
  replace hl : lv_has ls 4 [(0, .ref a1), (1, .int p1)] := hl
  replace hZ : wd_Z E w R s w H locs cells slots [(some a1, 4)] := hZ
  have hf9 := wd_b2_e hf; clear hf; obtain ⟨r4, w2, hc3, hf⟩ := hf9
  refine z_callV (ci := 3) (As := [.int p1]) (rest := []) (c_X3_owns l E n w a1 p1 r4 w2 (hZ.k 0 rfl rfl) hc3) mo_X3_owns rfl (by decide) rfl tw_649 tw_650 tw_648 hx hb hml hts hown hK ⟨Nat.le_trans (by decide) hR.1, Nat.le_trans (by decide) hR.2⟩ hZ (hZ.k 0 rfl rfl) rfl hl.1 rfl (Nat.le_of_ble_eq_true rfl) rfl dX9_sourceFor_2 ?_; clear hZ; intro H locs cells slots hX hZ
  refine lv_if_eq (tgt := 10) hx hb dX9_sourceFor_5 (by decide) (fun h5 => ?_) (fun h5 => ?_)
  · replace hf := wd_ite_p h5 hf
    refine lv_aload_n (i := 0) hx hb dX9_sourceFor_10 rfl (lv_at hl 0 rfl) ?_
    refine lv_iload_n (i := 1) hx hb dX9_sourceFor_11 rfl (lv_at hl 1 rfl) ?_
    have hf9 := wd_b2_e hf; clear hf; obtain ⟨r8, w6, hc7, hf⟩ := hf9
    refine z_callV (ci := 3) (As := [.int p1]) (rest := []) (c_X3_portTo l E n w2 a1 p1 r8 w6 (hZ.k 0 rfl rfl) hc7) mo_X3_portTo rfl (by decide) rfl tw_653 tw_654 tw_652 hx hb hml hts hown hK ⟨Nat.le_trans (by decide) hR.1, Nat.le_trans (by decide) hR.2⟩ hZ (hZ.k 0 rfl rfl) rfl hl.1 rfl (Nat.le_of_ble_eq_true rfl) rfl dX9_sourceFor_12 ?_; clear hZ; intro H locs cells slots hX hZ
    refine lv_istore_n (i := 2) (lv' := [(2, .int r8), (0, .ref a1), (1, .int p1)]) hx hb dX9_sourceFor_15 rfl hl (by decide) rfl ?_; clear hl; intro ls hl
    refine lv_iload_n (i := 2) hx hb dX9_sourceFor_16 rfl (lv_at hl 0 rfl) ?_
    refine lv_bipush (v := -2) hx hb dX9_sourceFor_17 (by decide) ?_
    refine lv_icmp_ne (tgt := 36) hx hb dX9_sourceFor_19 (by decide) (fun h9 => ?_) (fun h9 => ?_)
    · replace hf := wd_ite_n h9 hf
      exact v_X9_sourceFor_j36 n C hR (some a1) r8 w6 _ _ _ _ _ ⟨hZ.1, hZ.2.1, hZ.2.2.1, hZ.2.2.2.1, (List.forall_mem_cons.mpr ⟨⟨Nat.succ_ne_zero _, (fun q hq => by cases hq; exact (hZ.k 0 rfl rfl))⟩, (fun _ hq => absurd hq List.not_mem_nil)⟩), hZ.2.2.2.2.2⟩ (lv_sub hl [1, 0] rfl) hf
    · replace hf := wd_ite_p h9 hf
      refine lv_aload_n (i := 0) hx hb dX9_sourceFor_22 rfl (lv_at hl 1 rfl) ?_
      refine lv_aload_n (i := 0) hx hb dX9_sourceFor_23 rfl (lv_at hl 1 rfl) ?_
      refine lv_aload_n (i := 0) hx hb dX9_sourceFor_24 rfl (lv_at hl 1 rfl) ?_
      refine lv_iload_n (i := 1) hx hb dX9_sourceFor_25 rfl (lv_at hl 2 rfl) ?_
      have hf9 := wd_b2_e hf; clear hf; obtain ⟨r17, w15, hc16, hf⟩ := hf9
      refine z_callV (ci := 3) (As := [.int p1]) (rest := [.ref a1, .ref a1]) (c_X3_hopTo l E n w6 a1 p1 r17 w15 (hZ.k 0 rfl rfl) hc16) mo_X3_hopTo rfl (by decide) rfl tw_657 tw_658 tw_656 hx hb hml hts hown hK ⟨Nat.le_trans (by decide) hR.1, Nat.le_trans (by decide) hR.2⟩ hZ (hZ.k 0 rfl rfl) rfl hl.1 rfl (Nat.le_of_ble_eq_true rfl) rfl dX9_sourceFor_26 ?_; clear hZ; intro H locs cells slots hX hZ
      have hf9 := wd_b2_e hf; clear hf; obtain ⟨r20, w18, hc19, hf⟩ := hf9
      refine z_callV (ci := 3) (As := [.int r17]) (rest := [.ref a1]) (c_X3_farOf l E n w15 a1 r17 r20 w18 (hZ.k 0 rfl rfl) hc19) mo_X3_farOf rfl (by decide) rfl tw_661 tw_662 tw_660 hx hb hml hts hown hK ⟨Nat.le_trans (by decide) hR.1, Nat.le_trans (by decide) hR.2⟩ hZ (hZ.k 0 rfl rfl) rfl hl.1 rfl (Nat.le_of_ble_eq_true rfl) rfl dX9_sourceFor_29 ?_; clear hZ; intro H locs cells slots hX hZ
      have hf9 := wd_b2_e hf; clear hf; obtain ⟨r23, w21, hc22, hf⟩ := hf9
      refine z_callV (ci := 3) (As := [.int r20]) (rest := []) (c_X3_portTo l E n w18 a1 r20 r23 w21 (hZ.k 0 rfl rfl) hc22) mo_X3_portTo rfl (by decide) rfl tw_653 tw_654 tw_652 hx hb hml hts hown hK ⟨Nat.le_trans (by decide) hR.1, Nat.le_trans (by decide) hR.2⟩ hZ (hZ.k 0 rfl rfl) rfl hl.1 rfl (Nat.le_of_ble_eq_true rfl) rfl dX9_sourceFor_32 ?_; clear hZ; intro H locs cells slots hX hZ
      refine lv_istore_n (i := 2) (lv' := [(2, .int r23), (0, .ref a1), (1, .int p1)]) hx hb dX9_sourceFor_35 rfl hl (by decide) rfl ?_; clear hl; intro ls hl
      exact v_X9_sourceFor_j36 n C hR (some a1) r23 w21 _ _ _ _ _ ⟨hZ.1, hZ.2.1, hZ.2.2.1, hZ.2.2.2.1, (List.forall_mem_cons.mpr ⟨⟨Nat.succ_ne_zero _, (fun q hq => by cases hq; exact (hZ.k 0 rfl rfl))⟩, (fun _ hq => absurd hq List.not_mem_nil)⟩), hZ.2.2.2.2.2⟩ (lv_sub hl [1, 0] rfl) hf
  · replace hf := wd_ite_n h5 hf
    refine lv_iload_n (i := 1) hx hb dX9_sourceFor_8 rfl (lv_at hl 1 rfl) ?_
    obtain ⟨rfl, rfl⟩ := Prod.mk.inj (Option.some.inj hf)
    exact z_iret hx hb hr hlocks hZ trivial dX9_sourceFor_9

def f_X9_bear (n : Nat) (w : Wd) (this : Nat) (p0 : Int32) (p1 : Int32) (p2 : Int32) (p3 : Int32) : Option (Option Nat × Wd) :=
  Option.bind (wd_R w 905 this) fun a1 =>
  wd_b2 (f_X6_take n w a1) fun r4 w2 =>
  Option.bind r4 fun a5 =>
  wd_let (wd_sI w2 400 a5 p0) fun w6 =>
  wd_let (wd_sI w6 401 a5 p1) fun w8 =>
  wd_let (wd_sI w8 402 a5 p2) fun w10 =>
  wd_let (wd_sI w10 403 a5 p3) fun w12 =>
  wd_let (wd_sI w12 404 a5 (32 : Int32)) fun w14 =>
  wd_let (wd_sI w14 405 a5 (wd_I w14 901 this)) fun w16 =>
  wd_let (wd_sI w16 406 a5 (0 : Int32)) fun w18 =>
  wd_let (wd_sI w18 407 a5 (0 : Int32)) fun w20 =>
  wd_let (wd_sI w20 408 a5 (0 : Int32)) fun w22 =>
  wd_let (wd_sI w22 409 a5 (0 : Int32)) fun w24 =>
  wd_let (wd_sR w24 410 a5 none) fun w26 =>
  wd_let (wd_sI w26 901 this ((wd_I w26 901 this) + (1 : Int32))) fun w28 =>
  some ((some a5), w28)
set_option maxHeartbeats 4000000 in
set_option maxRecDepth 100000 in
theorem c_X9_bear (l : Launch) (E : wd_E) (n : Nat) (w : Wd) (this : Nat) (p0 : Int32) (p1 : Int32) (p2 : Int32) (p3 : Int32) (r' : Option Nat) (w' : Wd) (k_this : wd_K w this = 10) (hf : f_X9_bear n w this p0 p1 p2 p3 = some (r', w')) : wd_C l E yX9_bear cX9_bear 6 (some (.object "SeamarkNet$Packet")) 3 65 [.ref this, .int p0, .int p1, .int p2, .int p3] w (some (va_rf r')) w' (∀ q, r' = some q → wd_K w' q = 5) := by
  refine wd_ofW (own := RX9) (nm := "bear") (ks := [(some this, 10)]) (lv := [(0, .ref this), (1, .int p0), (2, .int p1), (3, .int p2), (4, .int p3)]) (by decide) rfl rfl (Nat.le_of_ble_eq_true rfl) rfl (List.forall_mem_cons.mpr ⟨⟨Nat.succ_ne_zero _, fun q hq => by cases hq; exact k_this⟩, (fun _ hq => absurd hq List.not_mem_nil)⟩) ?_
  intro p e s m args below meth c R H locs cells slots ls C hR hZ hl
  obtain ⟨hx, hb, hr, hml, hts, hown, hlocks, hmn, hK⟩ := id C
  unfold f_X9_bear at hf
  refine lv_aload_n (i := 0) hx hb dX9_bear_0 rfl (lv_at hl 0 rfl) ?_
  refine z_getR (tk := 6) fd_905 rfl hx hb hts hown hK hZ (hZ.k 0 rfl rfl) tw_252 dX9_bear_1 ?_; clear hZ; intro hZ
  have hf9 := Option.bind_eq_some_iff.mp hf; clear hf; obtain ⟨a1, ha1, hf⟩ := hf9
  replace hZ := hZ.add (r := some a1) (k := 7) (Nat.succ_ne_zero _) (fun q hq => by cases hq; exact hZ.k 0 rfl ha1)
  rw [ha1]
  have hf9 := wd_b2_e hf; clear hf; obtain ⟨r4, w2, hc3, hf⟩ := hf9
  refine z_callV (ci := 6) (As := []) (rest := []) (c_X6_take l E n w a1 r4 w2 (hZ.k 0 rfl rfl) hc3) mo_X6_take rfl (by decide) rfl tw_670 tw_671 tw_669 hx hb hml hts hown hK ⟨Nat.le_trans (by decide) hR.1, Nat.le_trans (by decide) hR.2⟩ hZ (hZ.k 0 rfl rfl) rfl hl.1 rfl (Nat.le_of_ble_eq_true rfl) rfl dX9_bear_4 ?_; clear hZ; intro H locs cells slots hX hZ
  replace hZ := hZ.add (Nat.succ_ne_zero _) hX
  refine z_astore (i := 5) (lv' := [(5, va_rf r4), (0, .ref this), (1, .int p0), (2, .int p1), (3, .int p2), (4, .int p3)]) hx hb dX9_bear_7 hl (by decide) rfl ?_; clear hl; intro ls hl
  refine z_aload hx hb dX9_bear_9 (lv_at hl 0 rfl) ?_
  refine lv_iload_n (i := 1) hx hb dX9_bear_11 rfl (lv_at hl 2 rfl) ?_
  have hf9 := Option.bind_eq_some_iff.mp hf; clear hf; obtain ⟨a5, ha5, hf⟩ := hf9
  subst ha5
  replace hl : lv_has ls 6 [(5, .ref a5), (0, .ref this), (1, .int p0), (2, .int p1), (3, .int p2), (4, .int p3)] := hl
  replace hZ : wd_Z E w R s w2 H locs cells slots [(some a5, 5), (some a1, 7), ((wd_R w 905 this), 7), (some this, 10)] := hZ
  refine z_putI fd_400 cok_4 rfl rfl rfl rfl rfl hx hb hts hown hK hZ (hZ.k 0 rfl rfl) tw_681 dX9_bear_12 ?_; clear hZ; intro H locs hZ
  have hf9 := wd_let_e hf; clear hf; obtain ⟨w6, e7, hf⟩ := hf9
  rw [e7] at hZ
  refine lv_aload hx hb dX9_bear_15 (lv_at hl 0 rfl) ?_
  refine lv_iload_n (i := 2) hx hb dX9_bear_17 rfl (lv_at hl 3 rfl) ?_
  refine z_putI fd_401 cok_4 rfl rfl rfl rfl rfl hx hb hts hown hK hZ (hZ.k 0 rfl rfl) tw_685 dX9_bear_18 ?_; clear hZ; intro H locs hZ
  have hf9 := wd_let_e hf; clear hf; obtain ⟨w8, e9, hf⟩ := hf9
  rw [e9] at hZ
  refine lv_aload hx hb dX9_bear_21 (lv_at hl 0 rfl) ?_
  refine lv_iload_n (i := 3) hx hb dX9_bear_23 rfl (lv_at hl 4 rfl) ?_
  refine z_putI fd_402 cok_4 rfl rfl rfl rfl rfl hx hb hts hown hK hZ (hZ.k 0 rfl rfl) tw_688 dX9_bear_24 ?_; clear hZ; intro H locs hZ
  have hf9 := wd_let_e hf; clear hf; obtain ⟨w10, e11, hf⟩ := hf9
  rw [e11] at hZ
  refine lv_aload hx hb dX9_bear_27 (lv_at hl 0 rfl) ?_
  refine lv_iload hx hb dX9_bear_29 (lv_at hl 5 rfl) ?_
  refine z_putI fd_403 cok_4 rfl rfl rfl rfl rfl hx hb hts hown hK hZ (hZ.k 0 rfl rfl) tw_692 dX9_bear_31 ?_; clear hZ; intro H locs hZ
  have hf9 := wd_let_e hf; clear hf; obtain ⟨w12, e13, hf⟩ := hf9
  rw [e13] at hZ
  refine lv_aload hx hb dX9_bear_34 (lv_at hl 0 rfl) ?_
  refine lv_bipush (v := 32) hx hb dX9_bear_36 (by decide) ?_
  refine z_putI fd_404 cok_4 rfl rfl rfl rfl rfl hx hb hts hown hK hZ (hZ.k 0 rfl rfl) tw_695 dX9_bear_38 ?_; clear hZ; intro H locs hZ
  have hf9 := wd_let_e hf; clear hf; obtain ⟨w14, e15, hf⟩ := hf9
  rw [e15] at hZ
  refine lv_aload hx hb dX9_bear_41 (lv_at hl 0 rfl) ?_
  refine lv_aload_n (i := 0) hx hb dX9_bear_43 rfl (lv_at hl 1 rfl) ?_
  refine z_getI fd_901 rfl hx hb hts hown hK hZ (hZ.k 3 rfl rfl) tw_245 dX9_bear_44 ?_
  refine z_putI fd_405 cok_4 rfl rfl rfl rfl rfl hx hb hts hown hK hZ (hZ.k 0 rfl rfl) tw_700 dX9_bear_47 ?_; clear hZ; intro H locs hZ
  have hf9 := wd_let_e hf; clear hf; obtain ⟨w16, e17, hf⟩ := hf9
  rw [e17] at hZ
  refine lv_aload hx hb dX9_bear_50 (lv_at hl 0 rfl) ?_
  refine lv_iconst (v := 0) hx hb dX9_bear_52 (by decide) ?_
  refine z_putI fd_406 cok_4 rfl rfl rfl rfl rfl hx hb hts hown hK hZ (hZ.k 0 rfl rfl) tw_703 dX9_bear_53 ?_; clear hZ; intro H locs hZ
  have hf9 := wd_let_e hf; clear hf; obtain ⟨w18, e19, hf⟩ := hf9
  rw [e19] at hZ
  refine lv_aload hx hb dX9_bear_56 (lv_at hl 0 rfl) ?_
  refine lv_iconst (v := 0) hx hb dX9_bear_58 (by decide) ?_
  refine z_putI fd_407 cok_4 rfl rfl rfl rfl rfl hx hb hts hown hK hZ (hZ.k 0 rfl rfl) tw_708 dX9_bear_59 ?_; clear hZ; intro H locs hZ
  have hf9 := wd_let_e hf; clear hf; obtain ⟨w20, e21, hf⟩ := hf9
  rw [e21] at hZ
  refine lv_aload hx hb dX9_bear_62 (lv_at hl 0 rfl) ?_
  refine lv_iconst (v := 0) hx hb dX9_bear_64 (by decide) ?_
  refine z_putI fd_408 cok_4 rfl rfl rfl (by decide) (by decide) hx hb hts hown hK hZ (hZ.k 0 rfl rfl) tw_711 dX9_bear_65 ?_; clear hZ; intro H locs hZ
  have hf9 := wd_let_e hf; clear hf; obtain ⟨w22, e23, hf⟩ := hf9
  rw [e23] at hZ
  refine lv_aload hx hb dX9_bear_68 (lv_at hl 0 rfl) ?_
  refine lv_iconst (v := 0) hx hb dX9_bear_70 (by decide) ?_
  refine z_putI fd_409 cok_4 rfl rfl rfl (by decide) (by decide) hx hb hts hown hK hZ (hZ.k 0 rfl rfl) tw_714 dX9_bear_71 ?_; clear hZ; intro H locs hZ
  have hf9 := wd_let_e hf; clear hf; obtain ⟨w24, e25, hf⟩ := hf9
  rw [e25] at hZ
  refine lv_aload hx hb dX9_bear_74 (lv_at hl 0 rfl) ?_
  refine z_null hx hb dX9_bear_76 ?_
  refine z_putR (r := none) rfl fd_410 cok_4 (tk := 4) rfl (fun q hq => by cases hq) rfl rfl (wd_obO _) hx hb hts hown hK hZ (hZ.k 0 rfl rfl) tw_717 dX9_bear_77 ?_; clear hZ; intro H locs hZ
  have hf9 := wd_let_e hf; clear hf; obtain ⟨w26, e27, hf⟩ := hf9
  rw [e27] at hZ
  refine lv_aload_n (i := 0) hx hb dX9_bear_80 rfl (lv_at hl 1 rfl) ?_
  refine lv_dup hx hb dX9_bear_81 rfl ?_
  refine z_getI fd_901 rfl hx hb hts hown hK hZ (hZ.k 3 rfl rfl) tw_245 dX9_bear_82 ?_
  refine lv_iconst (v := 1) hx hb dX9_bear_85 (by decide) ?_
  refine lv_iadd hx hb dX9_bear_86 ?_
  refine z_putI fd_901 cok_9 rfl rfl rfl rfl rfl hx hb hts hown hK hZ (hZ.k 3 rfl rfl) tw_245 dX9_bear_87 ?_; clear hZ; intro H locs hZ
  have hf9 := wd_let_e hf; clear hf; obtain ⟨w28, e29, hf⟩ := hf9
  rw [e29] at hZ
  refine lv_aload hx hb dX9_bear_90 (lv_at hl 0 rfl) ?_
  obtain ⟨rfl, rfl⟩ := Prod.mk.inj (Option.some.inj hf)
  exact z_aret rfl hx hb hr hlocks hZ (fun q hq => by cases hq; exact (hZ.k 0 rfl rfl)) dX9_bear_92

def f_X9_accept (n : Nat) (w : Wd) (this : Nat) (p0 : Option Nat) (p1 : Option Nat) : Option (Option Nat × Wd) :=
  Option.bind p1 fun a1 =>
  if (wd_I w 400 a1) = (1 : Int32) then
    wd_b2 (f_X9_bear n w this (2 : Int32) (wd_I w 402 a1) (wd_I w 401 a1) (wd_I w 403 a1)) fun r5 w3 =>
    Option.bind r5 fun a6 =>
    wd_let (wd_sI w3 406 a6 (wd_I w3 405 a1)) fun w7 =>
    some ((some a6), w7)
  else
    Option.bind p0 fun a9 =>
    Option.bind (f_X2_writeNote n w a9 (some a1)) fun w10 =>
    some (none, w10)
set_option maxHeartbeats 4000000 in
set_option maxRecDepth 100000 in
theorem c_X9_accept (l : Launch) (E : wd_E) (n : Nat) (w : Wd) (this : Nat) (p0 : Option Nat) (p1 : Option Nat) (r' : Option Nat) (w' : Wd) (k_this : wd_K w this = 10) (k_p0 : ∀ q, p0 = some q → wd_K w q = 3) (k_p1 : ∀ q, p1 = some q → wd_K w q = 5) (hf : f_X9_accept n w this p0 p1 = some (r', w')) : wd_C l E yX9_accept cX9_accept 4 (some (.object "SeamarkNet$Packet")) 4 90 [.ref this, va_rf p0, va_rf p1] w (some (va_rf r')) w' (∀ q, r' = some q → wd_K w' q = 5) := by
  refine wd_ofW (own := RX9) (nm := "accept") (ks := [(some this, 10), (p0, 3), (p1, 5)]) (lv := [(0, .ref this), (1, va_rf p0), (2, va_rf p1)]) (by decide) rfl rfl (by simp [lg_sl, va_rf_cat, va_cat_r, va_cat_i, va_cat_l, va_cat_d]) (by simp [lv_args, va_rf_cat, va_cat_r, va_cat_i, va_cat_l, va_cat_d]) (List.forall_mem_cons.mpr ⟨⟨Nat.succ_ne_zero _, fun q hq => by cases hq; exact k_this⟩, (List.forall_mem_cons.mpr ⟨⟨Nat.succ_ne_zero _, k_p0⟩, (List.forall_mem_cons.mpr ⟨⟨Nat.succ_ne_zero _, k_p1⟩, (fun _ hq => absurd hq List.not_mem_nil)⟩)⟩)⟩) ?_
  intro p e s m args below meth c R H locs cells slots ls C hR hZ hl
  obtain ⟨hx, hb, hr, hml, hts, hown, hlocks, hmn, hK⟩ := id C
  unfold f_X9_accept at hf
  refine z_aload_n (i := 2) hx hb dX9_accept_0 rfl (lv_at hl 2 rfl) ?_
  have hf9 := Option.bind_eq_some_iff.mp hf; clear hf; obtain ⟨a1, ha1, hf⟩ := hf9
  subst ha1
  replace hl : lv_has ls 4 [(0, .ref this), (1, va_rf p0), (2, .ref a1)] := hl
  replace hZ : wd_Z E w R s w H locs cells slots [(some this, 10), (p0, 3), (some a1, 5)] := hZ
  refine z_getI fd_400 rfl hx hb hts hown hK hZ (hZ.k 2 rfl rfl) tw_681 dX9_accept_1 ?_
  refine lv_iconst (v := 1) hx hb dX9_accept_4 (by decide) ?_
  refine lv_icmp_eq (tgt := 15) hx hb dX9_accept_5 (by decide) (fun h2 => ?_) (fun h2 => ?_)
  · replace hf := wd_ite_p h2 hf
    refine lv_aload_n (i := 0) hx hb dX9_accept_15 rfl (lv_at hl 0 rfl) ?_
    refine lv_iconst (v := 2) hx hb dX9_accept_16 (by decide) ?_
    refine lv_aload_n (i := 2) hx hb dX9_accept_17 rfl (lv_at hl 2 rfl) ?_
    refine z_getI fd_402 rfl hx hb hts hown hK hZ (hZ.k 2 rfl rfl) tw_688 dX9_accept_18 ?_
    refine lv_aload_n (i := 2) hx hb dX9_accept_21 rfl (lv_at hl 2 rfl) ?_
    refine z_getI fd_401 rfl hx hb hts hown hK hZ (hZ.k 2 rfl rfl) tw_685 dX9_accept_22 ?_
    refine lv_aload_n (i := 2) hx hb dX9_accept_25 rfl (lv_at hl 2 rfl) ?_
    refine z_getI fd_403 rfl hx hb hts hown hK hZ (hZ.k 2 rfl rfl) tw_692 dX9_accept_26 ?_
    have hf9 := wd_b2_e hf; clear hf; obtain ⟨r5, w3, hc4, hf⟩ := hf9
    refine z_callV (ci := 9) (As := [.int (2 : Int32), .int (wd_I w 402 a1), .int (wd_I w 401 a1), .int (wd_I w 403 a1)]) (rest := []) (c_X9_bear l E n w this (2 : Int32) (wd_I w 402 a1) (wd_I w 401 a1) (wd_I w 403 a1) r5 w3 (hZ.k 0 rfl rfl) hc4) mo_X9_bear rfl (by decide) rfl tw_667 tw_10 tw_665 hx hb hml hts hown hK ⟨Nat.le_trans (by decide) hR.1, Nat.le_trans (by decide) hR.2⟩ hZ (hZ.k 0 rfl rfl) rfl hl.1 rfl (Nat.le_of_ble_eq_true rfl) rfl dX9_accept_29 ?_; clear hZ; intro H locs cells slots hX hZ
    replace hZ := hZ.add (Nat.succ_ne_zero _) hX
    refine z_astore_n (i := 3) (lv' := [(3, va_rf r5), (0, .ref this), (1, va_rf p0), (2, .ref a1)]) hx hb dX9_accept_32 rfl hl (by decide) rfl ?_; clear hl; intro ls hl
    refine z_aload_n (i := 3) hx hb dX9_accept_33 rfl (lv_at hl 0 rfl) ?_
    refine lv_aload_n (i := 2) hx hb dX9_accept_34 rfl (lv_at hl 3 rfl) ?_
    refine z_getI fd_405 rfl hx hb hts hown hK hZ (hZ.k 3 rfl rfl) tw_700 dX9_accept_35 ?_
    have hf9 := Option.bind_eq_some_iff.mp hf; clear hf; obtain ⟨a6, ha6, hf⟩ := hf9
    subst ha6
    replace hl : lv_has ls 4 [(3, .ref a6), (0, .ref this), (1, va_rf p0), (2, .ref a1)] := hl
    replace hZ : wd_Z E w R s w3 H locs cells slots [(some a6, 5), (some this, 10), (p0, 3), (some a1, 5)] := hZ
    refine z_putI fd_406 cok_4 rfl rfl rfl rfl rfl hx hb hts hown hK hZ (hZ.k 0 rfl rfl) tw_703 dX9_accept_38 ?_; clear hZ; intro H locs hZ
    have hf9 := wd_let_e hf; clear hf; obtain ⟨w7, e8, hf⟩ := hf9
    rw [e8] at hZ
    refine lv_aload_n (i := 3) hx hb dX9_accept_41 rfl (lv_at hl 0 rfl) ?_
    obtain ⟨rfl, rfl⟩ := Prod.mk.inj (Option.some.inj hf)
    exact z_aret rfl hx hb hr hlocks hZ (fun q hq => by cases hq; exact (hZ.k 0 rfl rfl)) dX9_accept_42
  · replace hf := wd_ite_n h2 hf
    refine z_aload_n (i := 1) hx hb dX9_accept_8 rfl (lv_at hl 1 rfl) ?_
    refine lv_aload_n (i := 2) hx hb dX9_accept_9 rfl (lv_at hl 2 rfl) ?_
    have hf9 := Option.bind_eq_some_iff.mp hf; clear hf; obtain ⟨a9, ha9, hf⟩ := hf9
    subst ha9
    replace hl : lv_has ls 4 [(0, .ref this), (1, .ref a9), (2, .ref a1)] := hl
    replace hZ : wd_Z E w R s w H locs cells slots [(some this, 10), (some a9, 3), (some a1, 5)] := hZ
    have hf9 := Option.bind_eq_some_iff.mp hf; clear hf; obtain ⟨w10, hc11, hf⟩ := hf9
    refine z_callV (ci := 2) (As := [va_rf (some a1)]) (rest := []) (c_X2_writeNote l E n w a9 (some a1) w10 (hZ.k 1 rfl rfl) (fun q hq => by cases hq; exact (hZ.k 2 rfl rfl)) hc11) mo_X2_writeNote rfl (by decide) rfl tw_767 tw_768 tw_766 hx hb hml hts hown hK ⟨Nat.le_trans (by decide) hR.1, Nat.le_trans (by decide) hR.2⟩ hZ (hZ.k 1 rfl rfl) rfl hl.1 rfl (Nat.le_of_ble_eq_true rfl) rfl dX9_accept_10 ?_; clear hZ; intro H locs cells slots hX hZ
    refine z_null hx hb dX9_accept_13 ?_
    obtain ⟨rfl, rfl⟩ := Prod.mk.inj (Option.some.inj hf)
    exact z_aret rfl hx hb hr hlocks hZ (fun q hq => by cases hq) dX9_accept_14

def f_X9_canWrap_j37 (n : Nat) (w : Wd) : Option (Int32 × Wd) :=
  some ((0 : Int32), w)
def f_X9_canWrap (n : Nat) (w : Wd) (p0 : Option Nat) (p1 : Option Nat) : Option (Int32 × Wd) :=
  Option.bind p1 fun a1 =>
  Option.bind p0 fun a2 =>
  wd_b2 (f_X3_hopTo n w a2 (wd_I w 402 a1)) fun r5 w3 =>
  wd_b2 (f_X3_farOf n w3 a2 r5) fun r8 w6 =>
  wd_b2 (f_X3_owns n w6 a2 r8) fun r11 w9 =>
  if r11 = 0 then
    wd_b2 (f_X3_portTo n w9 a2 r8) fun r15 w13 =>
    wd_b2 (f_X3_port n w13 a2 r15) fun r18 w16 =>
    wd_on r18 (
      f_X9_canWrap_j37 n w16)
      (fun a19 =>
      some ((1 : Int32), w16))
  else
    f_X9_canWrap_j37 n w9
set_option maxHeartbeats 4000000 in
set_option maxRecDepth 100000 in
theorem v_X9_canWrap_j37 {p : Program} {l : Launch} {e : Env} {R : Room} {s : State} {m : MethodId} {args : Array Value} {below : List Frame} {meth : Method} {c : Code} {E : wd_E} {w0 : Wd} {r' : Int32} {w' : Wd} (n : Nat) (C : wd_X p s m args meth c cX9_canWrap RX9 3 (some .boolean) "canWrap" E) (hR : 1 ≤ R.frames ∧ 23 ≤ R.locals) (w : Wd) (H : Heap) (locs : List Loc) (cells slots : Nat) (ls : Array Slot) (hZ : wd_Z E w0 R s w H locs cells slots []) (hl : lv_has ls 3 []) (hf : f_X9_canWrap_j37 n w = some (r', w')) : W p l e R s m args below meth c H locs cells slots (wd_fin E w0 (some (.int r')) w' True R args s below) (F0 m 37 ls []) := by
  obtain ⟨hx, hb, hr, hml, hts, hown, hlocks, hmn, hK⟩ := id C
  unfold f_X9_canWrap_j37 at hf
  refine lv_iconst (v := 0) hx hb dX9_canWrap_37 (by decide) ?_
  obtain ⟨rfl, rfl⟩ := Prod.mk.inj (Option.some.inj hf)
  exact z_zret (by decide) hx hb hr hlocks hZ trivial dX9_canWrap_38

set_option maxHeartbeats 4000000 in
set_option maxRecDepth 100000 in
theorem c_X9_canWrap (l : Launch) (E : wd_E) (n : Nat) (w : Wd) (p0 : Option Nat) (p1 : Option Nat) (r' : Int32) (w' : Wd) (k_p0 : ∀ q, p0 = some q → wd_K w q = 4) (k_p1 : ∀ q, p1 = some q → wd_K w q = 5) (hf : f_X9_canWrap n w p0 p1 = some (r', w')) : wd_C l E yX9_canWrap cX9_canWrap 3 (some .boolean) 1 23 [va_rf p0, va_rf p1] w (some (.int r')) w' True := by
  refine wd_ofW (own := RX9) (nm := "canWrap") (ks := [(p0, 4), (p1, 5)]) (lv := [(0, va_rf p0), (1, va_rf p1)]) (by decide) rfl rfl (by simp [lg_sl, va_rf_cat, va_cat_r, va_cat_i, va_cat_l, va_cat_d]) (by simp [lv_args, va_rf_cat, va_cat_r, va_cat_i, va_cat_l, va_cat_d]) (List.forall_mem_cons.mpr ⟨⟨Nat.succ_ne_zero _, k_p0⟩, (List.forall_mem_cons.mpr ⟨⟨Nat.succ_ne_zero _, k_p1⟩, (fun _ hq => absurd hq List.not_mem_nil)⟩)⟩) ?_
  intro p e s m args below meth c R H locs cells slots ls C hR hZ hl
  obtain ⟨hx, hb, hr, hml, hts, hown, hlocks, hmn, hK⟩ := id C
  unfold f_X9_canWrap at hf
  refine z_aload_n (i := 0) hx hb dX9_canWrap_0 rfl (lv_at hl 0 rfl) ?_
  refine z_aload_n (i := 0) hx hb dX9_canWrap_1 rfl (lv_at hl 0 rfl) ?_
  refine z_aload_n (i := 1) hx hb dX9_canWrap_2 rfl (lv_at hl 1 rfl) ?_
  have hf9 := Option.bind_eq_some_iff.mp hf; clear hf; obtain ⟨a1, ha1, hf⟩ := hf9
  subst ha1
  replace hl : lv_has ls 3 [(0, va_rf p0), (1, .ref a1)] := hl
  replace hZ : wd_Z E w R s w H locs cells slots [(p0, 4), (some a1, 5)] := hZ
  refine z_getI fd_402 rfl hx hb hts hown hK hZ (hZ.k 1 rfl rfl) tw_688 dX9_canWrap_3 ?_
  have hf9 := Option.bind_eq_some_iff.mp hf; clear hf; obtain ⟨a2, ha2, hf⟩ := hf9
  subst ha2
  replace hl : lv_has ls 3 [(0, .ref a2), (1, .ref a1)] := hl
  replace hZ : wd_Z E w R s w H locs cells slots [(some a2, 4), (some a1, 5)] := hZ
  have hf9 := wd_b2_e hf; clear hf; obtain ⟨r5, w3, hc4, hf⟩ := hf9
  refine z_callV (ci := 3) (As := [.int (wd_I w 402 a1)]) (rest := [.ref a2]) (c_X3_hopTo l E n w a2 (wd_I w 402 a1) r5 w3 (hZ.k 0 rfl rfl) hc4) mo_X3_hopTo rfl (by decide) rfl tw_657 tw_658 tw_656 hx hb hml hts hown hK ⟨Nat.le_trans (by decide) hR.1, Nat.le_trans (by decide) hR.2⟩ hZ (hZ.k 0 rfl rfl) rfl hl.1 rfl (Nat.le_of_ble_eq_true rfl) rfl dX9_canWrap_6 ?_; clear hZ; intro H locs cells slots hX hZ
  have hf9 := wd_b2_e hf; clear hf; obtain ⟨r8, w6, hc7, hf⟩ := hf9
  refine z_callV (ci := 3) (As := [.int r5]) (rest := []) (c_X3_farOf l E n w3 a2 r5 r8 w6 (hZ.k 0 rfl rfl) hc7) mo_X3_farOf rfl (by decide) rfl tw_661 tw_662 tw_660 hx hb hml hts hown hK ⟨Nat.le_trans (by decide) hR.1, Nat.le_trans (by decide) hR.2⟩ hZ (hZ.k 0 rfl rfl) rfl hl.1 rfl (Nat.le_of_ble_eq_true rfl) rfl dX9_canWrap_9 ?_; clear hZ; intro H locs cells slots hX hZ
  refine lv_istore_n (i := 2) (lv' := [(2, .int r8), (0, .ref a2), (1, .ref a1)]) hx hb dX9_canWrap_12 rfl hl (by decide) rfl ?_; clear hl; intro ls hl
  refine lv_aload_n (i := 0) hx hb dX9_canWrap_13 rfl (lv_at hl 1 rfl) ?_
  refine lv_iload_n (i := 2) hx hb dX9_canWrap_14 rfl (lv_at hl 0 rfl) ?_
  have hf9 := wd_b2_e hf; clear hf; obtain ⟨r11, w9, hc10, hf⟩ := hf9
  refine z_callV (ci := 3) (As := [.int r8]) (rest := []) (c_X3_owns l E n w6 a2 r8 r11 w9 (hZ.k 0 rfl rfl) hc10) mo_X3_owns rfl (by decide) rfl tw_649 tw_650 tw_648 hx hb hml hts hown hK ⟨Nat.le_trans (by decide) hR.1, Nat.le_trans (by decide) hR.2⟩ hZ (hZ.k 0 rfl rfl) rfl hl.1 rfl (Nat.le_of_ble_eq_true rfl) rfl dX9_canWrap_15 ?_; clear hZ; intro H locs cells slots hX hZ
  refine lv_if_ne (tgt := 37) hx hb dX9_canWrap_18 (by decide) (fun h12 => ?_) (fun h12 => ?_)
  · replace hf := wd_ite_n h12 hf
    exact v_X9_canWrap_j37 n C hR w9 _ _ _ _ _ ⟨hZ.1, hZ.2.1, hZ.2.2.1, hZ.2.2.2.1, (fun _ hq => absurd hq List.not_mem_nil), hZ.2.2.2.2.2⟩ (lv_sub hl [] rfl) hf
  · replace hf := wd_ite_p h12 hf
    refine lv_aload_n (i := 0) hx hb dX9_canWrap_21 rfl (lv_at hl 1 rfl) ?_
    refine lv_aload_n (i := 0) hx hb dX9_canWrap_22 rfl (lv_at hl 1 rfl) ?_
    refine lv_iload_n (i := 2) hx hb dX9_canWrap_23 rfl (lv_at hl 0 rfl) ?_
    have hf9 := wd_b2_e hf; clear hf; obtain ⟨r15, w13, hc14, hf⟩ := hf9
    refine z_callV (ci := 3) (As := [.int r8]) (rest := [.ref a2]) (c_X3_portTo l E n w9 a2 r8 r15 w13 (hZ.k 0 rfl rfl) hc14) mo_X3_portTo rfl (by decide) rfl tw_653 tw_654 tw_652 hx hb hml hts hown hK ⟨Nat.le_trans (by decide) hR.1, Nat.le_trans (by decide) hR.2⟩ hZ (hZ.k 0 rfl rfl) rfl hl.1 rfl (Nat.le_of_ble_eq_true rfl) rfl dX9_canWrap_24 ?_; clear hZ; intro H locs cells slots hX hZ
    have hf9 := wd_b2_e hf; clear hf; obtain ⟨r18, w16, hc17, hf⟩ := hf9
    refine z_callV (ci := 3) (As := [.int r15]) (rest := []) (c_X3_port l E n w13 a2 r15 r18 w16 (hZ.k 0 rfl rfl) hc17) mo_X3_port rfl (by decide) rfl tw_488 tw_489 tw_664 hx hb hml hts hown hK ⟨Nat.le_trans (by decide) hR.1, Nat.le_trans (by decide) hR.2⟩ hZ (hZ.k 0 rfl rfl) rfl hl.1 rfl (Nat.le_of_ble_eq_true rfl) rfl dX9_canWrap_27 ?_; clear hZ; intro H locs cells slots hX hZ
    replace hZ := hZ.add (Nat.succ_ne_zero _) hX
    refine z_ifnull (tgt := 37) hx hb dX9_canWrap_30 (by decide) (fun hn => ?_) (fun a19 ha19 => ?_)
    · replace hf := wd_on_n hn hf
      subst hn
      replace hl : lv_has ls 3 [(2, .int r8), (0, .ref a2), (1, .ref a1)] := hl
      replace hZ : wd_Z E w R s w16 H locs cells slots [(none, 8), (some a2, 4), (some a1, 5)] := hZ
      exact v_X9_canWrap_j37 n C hR w16 _ _ _ _ _ ⟨hZ.1, hZ.2.1, hZ.2.2.1, hZ.2.2.2.1, (fun _ hq => absurd hq List.not_mem_nil), hZ.2.2.2.2.2⟩ (lv_sub hl [] rfl) hf
    · replace hf := wd_on_s ha19 hf
      subst ha19
      replace hl : lv_has ls 3 [(2, .int r8), (0, .ref a2), (1, .ref a1)] := hl
      replace hZ : wd_Z E w R s w16 H locs cells slots [(some a19, 8), (some a2, 4), (some a1, 5)] := hZ
      refine lv_iconst (v := 1) hx hb dX9_canWrap_33 (by decide) ?_
      refine lv_goto (tgt := 38) hx hb dX9_canWrap_34 (by decide) ?_
      obtain ⟨rfl, rfl⟩ := Prod.mk.inj (Option.some.inj hf)
      exact z_zret (by decide) hx hb hr hlocks hZ trivial dX9_canWrap_38

def f_X9_wrap (n : Nat) (w : Wd) (this : Nat) (p0 : Option Nat) (p1 : Option Nat) : Option (Option Nat × Wd) :=
  Option.bind p1 fun a1 =>
  Option.bind p0 fun a2 =>
  wd_b2 (f_X3_hopTo n w a2 (wd_I w 402 a1)) fun r5 w3 =>
  wd_b2 (f_X3_farOf n w3 a2 r5) fun r8 w6 =>
  wd_b2 (f_X9_sourceFor n w6 (some a2) r8) fun r11 w9 =>
  wd_b2 (f_X9_bear n w9 this (6 : Int32) r11 r8 ((wd_I w9 403 a1) + (4 : Int32))) fun r14 w12 =>
  Option.bind r14 fun a15 =>
  wd_let (wd_sR w12 410 a15 (some a1)) fun w16 =>
  some ((some a15), w16)
set_option maxHeartbeats 4000000 in
set_option maxRecDepth 100000 in
theorem c_X9_wrap (l : Launch) (E : wd_E) (n : Nat) (w : Wd) (this : Nat) (p0 : Option Nat) (p1 : Option Nat) (r' : Option Nat) (w' : Wd) (k_this : wd_K w this = 10) (k_p0 : ∀ q, p0 = some q → wd_K w q = 4) (k_p1 : ∀ q, p1 = some q → wd_K w q = 5) (hf : f_X9_wrap n w this p0 p1 = some (r', w')) : wd_C l E yX9_wrap cX9_wrap 5 (some (.object "SeamarkNet$Packet")) 4 90 [.ref this, va_rf p0, va_rf p1] w (some (va_rf r')) w' (∀ q, r' = some q → wd_K w' q = 5) := by
  refine wd_ofW (own := RX9) (nm := "wrap") (ks := [(some this, 10), (p0, 4), (p1, 5)]) (lv := [(0, .ref this), (1, va_rf p0), (2, va_rf p1)]) (by decide) rfl rfl (by simp [lg_sl, va_rf_cat, va_cat_r, va_cat_i, va_cat_l, va_cat_d]) (by simp [lv_args, va_rf_cat, va_cat_r, va_cat_i, va_cat_l, va_cat_d]) (List.forall_mem_cons.mpr ⟨⟨Nat.succ_ne_zero _, fun q hq => by cases hq; exact k_this⟩, (List.forall_mem_cons.mpr ⟨⟨Nat.succ_ne_zero _, k_p0⟩, (List.forall_mem_cons.mpr ⟨⟨Nat.succ_ne_zero _, k_p1⟩, (fun _ hq => absurd hq List.not_mem_nil)⟩)⟩)⟩) ?_
  intro p e s m args below meth c R H locs cells slots ls C hR hZ hl
  obtain ⟨hx, hb, hr, hml, hts, hown, hlocks, hmn, hK⟩ := id C
  unfold f_X9_wrap at hf
  refine z_aload_n (i := 1) hx hb dX9_wrap_0 rfl (lv_at hl 1 rfl) ?_
  refine z_aload_n (i := 1) hx hb dX9_wrap_1 rfl (lv_at hl 1 rfl) ?_
  refine z_aload_n (i := 2) hx hb dX9_wrap_2 rfl (lv_at hl 2 rfl) ?_
  have hf9 := Option.bind_eq_some_iff.mp hf; clear hf; obtain ⟨a1, ha1, hf⟩ := hf9
  subst ha1
  replace hl : lv_has ls 5 [(0, .ref this), (1, va_rf p0), (2, .ref a1)] := hl
  replace hZ : wd_Z E w R s w H locs cells slots [(some this, 10), (p0, 4), (some a1, 5)] := hZ
  refine z_getI fd_402 rfl hx hb hts hown hK hZ (hZ.k 2 rfl rfl) tw_688 dX9_wrap_3 ?_
  have hf9 := Option.bind_eq_some_iff.mp hf; clear hf; obtain ⟨a2, ha2, hf⟩ := hf9
  subst ha2
  replace hl : lv_has ls 5 [(0, .ref this), (1, .ref a2), (2, .ref a1)] := hl
  replace hZ : wd_Z E w R s w H locs cells slots [(some this, 10), (some a2, 4), (some a1, 5)] := hZ
  have hf9 := wd_b2_e hf; clear hf; obtain ⟨r5, w3, hc4, hf⟩ := hf9
  refine z_callV (ci := 3) (As := [.int (wd_I w 402 a1)]) (rest := [.ref a2]) (c_X3_hopTo l E n w a2 (wd_I w 402 a1) r5 w3 (hZ.k 1 rfl rfl) hc4) mo_X3_hopTo rfl (by decide) rfl tw_657 tw_658 tw_656 hx hb hml hts hown hK ⟨Nat.le_trans (by decide) hR.1, Nat.le_trans (by decide) hR.2⟩ hZ (hZ.k 1 rfl rfl) rfl hl.1 rfl (Nat.le_of_ble_eq_true rfl) rfl dX9_wrap_6 ?_; clear hZ; intro H locs cells slots hX hZ
  have hf9 := wd_b2_e hf; clear hf; obtain ⟨r8, w6, hc7, hf⟩ := hf9
  refine z_callV (ci := 3) (As := [.int r5]) (rest := []) (c_X3_farOf l E n w3 a2 r5 r8 w6 (hZ.k 1 rfl rfl) hc7) mo_X3_farOf rfl (by decide) rfl tw_661 tw_662 tw_660 hx hb hml hts hown hK ⟨Nat.le_trans (by decide) hR.1, Nat.le_trans (by decide) hR.2⟩ hZ (hZ.k 1 rfl rfl) rfl hl.1 rfl (Nat.le_of_ble_eq_true rfl) rfl dX9_wrap_9 ?_; clear hZ; intro H locs cells slots hX hZ
  refine lv_istore_n (i := 3) (lv' := [(3, .int r8), (0, .ref this), (1, .ref a2), (2, .ref a1)]) hx hb dX9_wrap_12 rfl hl (by decide) rfl ?_; clear hl; intro ls hl
  refine lv_aload_n (i := 0) hx hb dX9_wrap_13 rfl (lv_at hl 1 rfl) ?_
  refine lv_bipush (v := 6) hx hb dX9_wrap_14 (by decide) ?_
  refine lv_aload_n (i := 1) hx hb dX9_wrap_16 rfl (lv_at hl 2 rfl) ?_
  refine lv_iload_n (i := 3) hx hb dX9_wrap_17 rfl (lv_at hl 0 rfl) ?_
  have hf9 := wd_b2_e hf; clear hf; obtain ⟨r11, w9, hc10, hf⟩ := hf9
  refine z_callS (As := [va_rf (some a2), .int r8]) (rest := [.int (6 : Int32), .ref this]) (c_X9_sourceFor l E n w6 (some a2) r8 r11 w9 (fun q hq => by cases hq; exact (hZ.k 1 rfl rfl)) hc10) mo_X9_sourceFor tw_646 tw_645 hx hb hml hts hown hK ⟨Nat.le_trans (by decide) hR.1, Nat.le_trans (by decide) hR.2⟩ hZ rfl hl.1 rfl (Nat.le_of_ble_eq_true rfl) rfl dX9_wrap_18 ?_; clear hZ; intro H locs cells slots hX hZ
  refine lv_iload_n (i := 3) hx hb dX9_wrap_21 rfl (lv_at hl 0 rfl) ?_
  refine lv_aload_n (i := 2) hx hb dX9_wrap_22 rfl (lv_at hl 3 rfl) ?_
  refine z_getI fd_403 rfl hx hb hts hown hK hZ (hZ.k 2 rfl rfl) tw_692 dX9_wrap_23 ?_
  refine lv_iconst (v := 4) hx hb dX9_wrap_26 (by decide) ?_
  refine lv_iadd hx hb dX9_wrap_27 ?_
  have hf9 := wd_b2_e hf; clear hf; obtain ⟨r14, w12, hc13, hf⟩ := hf9
  refine z_callV (ci := 9) (As := [.int (6 : Int32), .int r11, .int r8, .int ((wd_I w9 403 a1) + (4 : Int32))]) (rest := []) (c_X9_bear l E n w9 this (6 : Int32) r11 r8 ((wd_I w9 403 a1) + (4 : Int32)) r14 w12 (hZ.k 0 rfl rfl) hc13) mo_X9_bear rfl (by decide) rfl tw_667 tw_10 tw_665 hx hb hml hts hown hK ⟨Nat.le_trans (by decide) hR.1, Nat.le_trans (by decide) hR.2⟩ hZ (hZ.k 0 rfl rfl) rfl hl.1 rfl (Nat.le_of_ble_eq_true rfl) rfl dX9_wrap_28 ?_; clear hZ; intro H locs cells slots hX hZ
  replace hZ := hZ.add (Nat.succ_ne_zero _) hX
  refine z_astore (i := 4) (lv' := [(4, va_rf r14), (3, .int r8), (0, .ref this), (1, .ref a2), (2, .ref a1)]) hx hb dX9_wrap_31 hl (by decide) rfl ?_; clear hl; intro ls hl
  refine z_aload hx hb dX9_wrap_33 (lv_at hl 0 rfl) ?_
  refine lv_aload_n (i := 2) hx hb dX9_wrap_35 rfl (lv_at hl 4 rfl) ?_
  have hf9 := Option.bind_eq_some_iff.mp hf; clear hf; obtain ⟨a15, ha15, hf⟩ := hf9
  subst ha15
  replace hl : lv_has ls 5 [(4, .ref a15), (3, .int r8), (0, .ref this), (1, .ref a2), (2, .ref a1)] := hl
  replace hZ : wd_Z E w R s w12 H locs cells slots [(some a15, 5), (some this, 10), (some a2, 4), (some a1, 5)] := hZ
  refine z_putR (r := (some a1)) rfl fd_410 cok_4 (tk := 4) rfl (fun q hq => by cases hq; exact (hZ.k 3 rfl rfl)) rfl rfl (wd_obO _) hx hb hts hown hK hZ (hZ.k 0 rfl rfl) tw_717 dX9_wrap_36 ?_; clear hZ; intro H locs hZ
  have hf9 := wd_let_e hf; clear hf; obtain ⟨w16, e17, hf⟩ := hf9
  rw [e17] at hZ
  refine lv_aload hx hb dX9_wrap_39 (lv_at hl 0 rfl) ?_
  obtain ⟨rfl, rfl⟩ := Prod.mk.inj (Option.some.inj hf)
  exact z_aret rfl hx hb hr hlocks hZ (fun q hq => by cases hq; exact (hZ.k 0 rfl rfl)) dX9_wrap_41

def f_X9_complain_j24 (n : Nat) (w : Wd) : Option (Option Nat × Wd) :=
  some (none, w)
def f_X9_complain (n : Nat) (w : Wd) (this : Nat) (p0 : Option Nat) (p1 : Option Nat) (p2 : Int32) (p3 : Int32) : Option (Option Nat × Wd) :=
  Option.bind p0 fun a1 =>
  wd_let (wd_sI w 204 a1 ((wd_I w 204 a1) + (1 : Int32))) fun w2 =>
  Option.bind p1 fun a4 =>
  wd_b2 (f_X4_isComplaint n w2 a4) fun r7 w5 =>
  if r7 = 0 then
    if (wd_I w5 407 a4) = 0 then
      wd_b2 (f_X9_sourceFor n w5 (wd_R w5 200 a1) (wd_I w5 401 a4)) fun r12 w10 =>
      if 0 ≤ r12 then
        wd_b2 (f_X9_bear n w10 this p2 r12 (wd_I w10 401 a4) (0 : Int32)) fun r16 w14 =>
        Option.bind r16 fun a17 =>
        wd_let (wd_sI w14 408 a17 (1 : Int32)) fun w18 =>
        wd_let (wd_sI w18 406 a17 p3) fun w20 =>
        some ((some a17), w20)
      else
        some (none, w10)
    else
      f_X9_complain_j24 n w5
  else
    f_X9_complain_j24 n w5
set_option maxHeartbeats 4000000 in
set_option maxRecDepth 100000 in
theorem v_X9_complain_j24 {p : Program} {l : Launch} {e : Env} {R : Room} {s : State} {m : MethodId} {args : Array Value} {below : List Frame} {meth : Method} {c : Code} {E : wd_E} {w0 : Wd} {r' : Option Nat} {w' : Wd} (n : Nat) (C : wd_X p s m args meth c cX9_complain RX9 7 (some (.object "SeamarkNet$Packet")) "complain" E) (hR : 4 ≤ R.frames ∧ 90 ≤ R.locals) (w : Wd) (H : Heap) (locs : List Loc) (cells slots : Nat) (ls : Array Slot) (hZ : wd_Z E w0 R s w H locs cells slots []) (hl : lv_has ls 7 []) (hf : f_X9_complain_j24 n w = some (r', w')) : W p l e R s m args below meth c H locs cells slots (wd_fin E w0 (some (va_rf r')) w' (∀ q, r' = some q → wd_K w' q = 5) R args s below) (F0 m 24 ls []) := by
  obtain ⟨hx, hb, hr, hml, hts, hown, hlocks, hmn, hK⟩ := id C
  unfold f_X9_complain_j24 at hf
  refine z_null hx hb dX9_complain_24 ?_
  obtain ⟨rfl, rfl⟩ := Prod.mk.inj (Option.some.inj hf)
  exact z_aret rfl hx hb hr hlocks hZ (fun q hq => by cases hq) dX9_complain_25

set_option maxHeartbeats 4000000 in
set_option maxRecDepth 100000 in
theorem c_X9_complain (l : Launch) (E : wd_E) (n : Nat) (w : Wd) (this : Nat) (p0 : Option Nat) (p1 : Option Nat) (p2 : Int32) (p3 : Int32) (r' : Option Nat) (w' : Wd) (k_this : wd_K w this = 10) (k_p0 : ∀ q, p0 = some q → wd_K w q = 3) (k_p1 : ∀ q, p1 = some q → wd_K w q = 5) (hf : f_X9_complain n w this p0 p1 p2 p3 = some (r', w')) : wd_C l E yX9_complain cX9_complain 7 (some (.object "SeamarkNet$Packet")) 4 90 [.ref this, va_rf p0, va_rf p1, .int p2, .int p3] w (some (va_rf r')) w' (∀ q, r' = some q → wd_K w' q = 5) := by
  refine wd_ofW (own := RX9) (nm := "complain") (ks := [(some this, 10), (p0, 3), (p1, 5)]) (lv := [(0, .ref this), (1, va_rf p0), (2, va_rf p1), (3, .int p2), (4, .int p3)]) (by decide) rfl rfl (by simp [lg_sl, va_rf_cat, va_cat_r, va_cat_i, va_cat_l, va_cat_d]) (by simp [lv_args, va_rf_cat, va_cat_r, va_cat_i, va_cat_l, va_cat_d]) (List.forall_mem_cons.mpr ⟨⟨Nat.succ_ne_zero _, fun q hq => by cases hq; exact k_this⟩, (List.forall_mem_cons.mpr ⟨⟨Nat.succ_ne_zero _, k_p0⟩, (List.forall_mem_cons.mpr ⟨⟨Nat.succ_ne_zero _, k_p1⟩, (fun _ hq => absurd hq List.not_mem_nil)⟩)⟩)⟩) ?_
  intro p e s m args below meth c R H locs cells slots ls C hR hZ hl
  obtain ⟨hx, hb, hr, hml, hts, hown, hlocks, hmn, hK⟩ := id C
  unfold f_X9_complain at hf
  refine z_aload_n (i := 1) hx hb dX9_complain_0 rfl (lv_at hl 1 rfl) ?_
  refine lv_dup hx hb dX9_complain_1 (va_rf_cat _) ?_
  have hf9 := Option.bind_eq_some_iff.mp hf; clear hf; obtain ⟨a1, ha1, hf⟩ := hf9
  subst ha1
  replace hl : lv_has ls 7 [(0, .ref this), (1, .ref a1), (2, va_rf p1), (3, .int p2), (4, .int p3)] := hl
  replace hZ : wd_Z E w R s w H locs cells slots [(some this, 10), (some a1, 3), (p1, 5)] := hZ
  refine z_getI fd_204 rfl hx hb hts hown hK hZ (hZ.k 1 rfl rfl) tw_216 dX9_complain_2 ?_
  refine lv_iconst (v := 1) hx hb dX9_complain_5 (by decide) ?_
  refine lv_iadd hx hb dX9_complain_6 ?_
  refine z_putI fd_204 cok_2 rfl rfl rfl rfl rfl hx hb hts hown hK hZ (hZ.k 1 rfl rfl) tw_216 dX9_complain_7 ?_; clear hZ; intro H locs hZ
  have hf9 := wd_let_e hf; clear hf; obtain ⟨w2, e3, hf⟩ := hf9
  rw [e3] at hZ
  refine z_aload_n (i := 2) hx hb dX9_complain_10 rfl (lv_at hl 2 rfl) ?_
  have hf9 := Option.bind_eq_some_iff.mp hf; clear hf; obtain ⟨a4, ha4, hf⟩ := hf9
  subst ha4
  replace hl : lv_has ls 7 [(0, .ref this), (1, .ref a1), (2, .ref a4), (3, .int p2), (4, .int p3)] := hl
  replace hZ : wd_Z E w R s w2 H locs cells slots [(some this, 10), (some a1, 3), (some a4, 5)] := hZ
  have hf9 := wd_b2_e hf; clear hf; obtain ⟨r7, w5, hc6, hf⟩ := hf9
  refine z_callV (ci := 4) (As := []) (rest := []) (c_X4_isComplaint l E n w2 a4 r7 w5 (hZ.k 2 rfl rfl) hc6) mo_X4_isComplaint rfl (by decide) rfl tw_782 tw_783 tw_781 hx hb hml hts hown hK ⟨Nat.le_trans (by decide) hR.1, Nat.le_trans (by decide) hR.2⟩ hZ (hZ.k 2 rfl rfl) rfl hl.1 rfl (Nat.le_of_ble_eq_true rfl) rfl dX9_complain_11 ?_; clear hZ; intro H locs cells slots hX hZ
  refine lv_if_ne (tgt := 24) hx hb dX9_complain_14 (by decide) (fun h8 => ?_) (fun h8 => ?_)
  · replace hf := wd_ite_n h8 hf
    exact v_X9_complain_j24 n C hR w5 _ _ _ _ _ ⟨hZ.1, hZ.2.1, hZ.2.2.1, hZ.2.2.2.1, (fun _ hq => absurd hq List.not_mem_nil), hZ.2.2.2.2.2⟩ (lv_sub hl [] rfl) hf
  · replace hf := wd_ite_p h8 hf
    refine lv_aload_n (i := 2) hx hb dX9_complain_17 rfl (lv_at hl 2 rfl) ?_
    refine z_getI fd_407 rfl hx hb hts hown hK hZ (hZ.k 2 rfl rfl) tw_708 dX9_complain_18 ?_
    refine lv_if_eq (tgt := 26) hx hb dX9_complain_21 (by decide) (fun h9 => ?_) (fun h9 => ?_)
    · replace hf := wd_ite_p h9 hf
      refine lv_aload_n (i := 1) hx hb dX9_complain_26 rfl (lv_at hl 1 rfl) ?_
      refine z_getR (tk := 3) fd_200 rfl hx hb hts hown hK hZ (hZ.k 1 rfl rfl) tw_206 dX9_complain_27 ?_; clear hZ; intro hZ
      refine lv_aload_n (i := 2) hx hb dX9_complain_30 rfl (lv_at hl 2 rfl) ?_
      refine z_getI fd_401 rfl hx hb hts hown hK hZ (hZ.k 3 rfl rfl) tw_685 dX9_complain_31 ?_
      have hf9 := wd_b2_e hf; clear hf; obtain ⟨r12, w10, hc11, hf⟩ := hf9
      refine z_callS (As := [va_rf (wd_R w5 200 a1), .int (wd_I w5 401 a4)]) (rest := []) (c_X9_sourceFor l E n w5 (wd_R w5 200 a1) (wd_I w5 401 a4) r12 w10 (fun q hq => hZ.k 0 rfl hq) hc11) mo_X9_sourceFor tw_646 tw_645 hx hb hml hts hown hK ⟨Nat.le_trans (by decide) hR.1, Nat.le_trans (by decide) hR.2⟩ hZ rfl hl.1 rfl (Nat.le_of_ble_eq_true rfl) rfl dX9_complain_34 ?_; clear hZ; intro H locs cells slots hX hZ
      refine lv_istore (i := 5) (lv' := [(5, .int r12), (0, .ref this), (1, .ref a1), (2, .ref a4), (3, .int p2), (4, .int p3)]) hx hb dX9_complain_37 hl (by decide) rfl ?_; clear hl; intro ls hl
      refine lv_iload hx hb dX9_complain_39 (lv_at hl 0 rfl) ?_
      refine lv_if_ge (tgt := 46) hx hb dX9_complain_41 (by decide) (fun h13 => ?_) (fun h13 => ?_)
      · replace hf := wd_ite_p h13 hf
        refine lv_aload_n (i := 0) hx hb dX9_complain_46 rfl (lv_at hl 1 rfl) ?_
        refine lv_iload_n (i := 3) hx hb dX9_complain_47 rfl (lv_at hl 4 rfl) ?_
        refine lv_iload hx hb dX9_complain_48 (lv_at hl 0 rfl) ?_
        refine lv_aload_n (i := 2) hx hb dX9_complain_50 rfl (lv_at hl 3 rfl) ?_
        refine z_getI fd_401 rfl hx hb hts hown hK hZ (hZ.k 3 rfl rfl) tw_685 dX9_complain_51 ?_
        refine lv_iconst (v := 0) hx hb dX9_complain_54 (by decide) ?_
        have hf9 := wd_b2_e hf; clear hf; obtain ⟨r16, w14, hc15, hf⟩ := hf9
        refine z_callV (ci := 9) (As := [.int p2, .int r12, .int (wd_I w10 401 a4), .int (0 : Int32)]) (rest := []) (c_X9_bear l E n w10 this p2 r12 (wd_I w10 401 a4) (0 : Int32) r16 w14 (hZ.k 1 rfl rfl) hc15) mo_X9_bear rfl (by decide) rfl tw_667 tw_10 tw_665 hx hb hml hts hown hK ⟨Nat.le_trans (by decide) hR.1, Nat.le_trans (by decide) hR.2⟩ hZ (hZ.k 1 rfl rfl) rfl hl.1 rfl (Nat.le_of_ble_eq_true rfl) rfl dX9_complain_55 ?_; clear hZ; intro H locs cells slots hX hZ
        replace hZ := hZ.add (Nat.succ_ne_zero _) hX
        refine z_astore (i := 6) (lv' := [(6, va_rf r16), (5, .int r12), (0, .ref this), (1, .ref a1), (2, .ref a4), (3, .int p2), (4, .int p3)]) hx hb dX9_complain_58 hl (by decide) rfl ?_; clear hl; intro ls hl
        refine z_aload hx hb dX9_complain_60 (lv_at hl 0 rfl) ?_
        refine lv_iconst (v := 1) hx hb dX9_complain_62 (by decide) ?_
        have hf9 := Option.bind_eq_some_iff.mp hf; clear hf; obtain ⟨a17, ha17, hf⟩ := hf9
        subst ha17
        replace hl : lv_has ls 7 [(6, .ref a17), (5, .int r12), (0, .ref this), (1, .ref a1), (2, .ref a4), (3, .int p2), (4, .int p3)] := hl
        replace hZ : wd_Z E w R s w14 H locs cells slots [(some a17, 5), ((wd_R w5 200 a1), 4), (some this, 10), (some a1, 3), (some a4, 5)] := hZ
        refine z_putI fd_408 cok_4 rfl rfl rfl (by decide) (by decide) hx hb hts hown hK hZ (hZ.k 0 rfl rfl) tw_711 dX9_complain_63 ?_; clear hZ; intro H locs hZ
        have hf9 := wd_let_e hf; clear hf; obtain ⟨w18, e19, hf⟩ := hf9
        rw [e19] at hZ
        refine lv_aload hx hb dX9_complain_66 (lv_at hl 0 rfl) ?_
        refine lv_iload hx hb dX9_complain_68 (lv_at hl 6 rfl) ?_
        refine z_putI fd_406 cok_4 rfl rfl rfl rfl rfl hx hb hts hown hK hZ (hZ.k 0 rfl rfl) tw_703 dX9_complain_70 ?_; clear hZ; intro H locs hZ
        have hf9 := wd_let_e hf; clear hf; obtain ⟨w20, e21, hf⟩ := hf9
        rw [e21] at hZ
        refine lv_aload hx hb dX9_complain_73 (lv_at hl 0 rfl) ?_
        obtain ⟨rfl, rfl⟩ := Prod.mk.inj (Option.some.inj hf)
        exact z_aret rfl hx hb hr hlocks hZ (fun q hq => by cases hq; exact (hZ.k 0 rfl rfl)) dX9_complain_75
      · replace hf := wd_ite_n h13 hf
        refine z_null hx hb dX9_complain_44 ?_
        obtain ⟨rfl, rfl⟩ := Prod.mk.inj (Option.some.inj hf)
        exact z_aret rfl hx hb hr hlocks hZ (fun q hq => by cases hq) dX9_complain_45
    · replace hf := wd_ite_n h9 hf
      exact v_X9_complain_j24 n C hR w5 _ _ _ _ _ ⟨hZ.1, hZ.2.1, hZ.2.2.1, hZ.2.2.2.1, (fun _ hq => absurd hq List.not_mem_nil), hZ.2.2.2.2.2⟩ (lv_sub hl [] rfl) hf

def f_X9_goToHop (n : Nat) (w : Wd) (this : Nat) (p0 : Option Nat) (p1 : Option Nat) (p2 : Option Nat) : Option Wd :=
  Option.bind p0 fun a1 =>
  Option.bind p2 fun a2 =>
  Option.bind (wd_R w 200 a1) fun a3 =>
  wd_b2 (f_X3_hopTo n w a3 (wd_I w 402 a2)) fun r6 w4 =>
  wd_b2 (f_X2_knownMark n w4 a1 r6) fun r9 w7 =>
  if r9 < 0 then
    wd_let (wd_sI w7 411 a2 r6) fun w11 =>
    wd_let (wd_sR w11 412 a2 p1) fun w13 =>
    Option.bind (f_X2_putToWait n w13 a1 (some a2)) fun w15 =>
    wd_b2 (f_X2_countWaitingFor n w15 a1 r6) fun r19 w17 =>
    if r19 = (1 : Int32) then
      Option.bind (wd_R w17 900 this) fun a21 =>
      Option.bind (f_X8_add n w17 a21 (1 : Int32) p1 (-1 : Int32) r6 none) fun w22 =>
      some w22
    else
      some w17
  else
    Option.bind (wd_R w7 900 this) fun a24 =>
    Option.bind (f_X8_add n w7 a24 (0 : Int32) p1 r9 (-1 : Int32) (some a2)) fun w25 =>
    some w25
set_option maxHeartbeats 4000000 in
set_option maxRecDepth 100000 in
theorem c_X9_goToHop (l : Launch) (E : wd_E) (n : Nat) (w : Wd) (this : Nat) (p0 : Option Nat) (p1 : Option Nat) (p2 : Option Nat) (w' : Wd) (k_this : wd_K w this = 10) (k_p0 : ∀ q, p0 = some q → wd_K w q = 3) (k_p1 : ∀ q, p1 = some q → wd_K w q = 8) (k_p2 : ∀ q, p2 = some q → wd_K w q = 5) (hf : f_X9_goToHop n w this p0 p1 p2 = some w') : wd_C l E yX9_goToHop cX9_goToHop 6 none 3 70 [.ref this, va_rf p0, va_rf p1, va_rf p2] w none w' True := by
  refine wd_ofW (own := RX9) (nm := "goToHop") (ks := [(some this, 10), (p0, 3), (p1, 8), (p2, 5)]) (lv := [(0, .ref this), (1, va_rf p0), (2, va_rf p1), (3, va_rf p2)]) (by decide) rfl rfl (by simp [lg_sl, va_rf_cat, va_cat_r, va_cat_i, va_cat_l, va_cat_d]) (by simp [lv_args, va_rf_cat, va_cat_r, va_cat_i, va_cat_l, va_cat_d]) (List.forall_mem_cons.mpr ⟨⟨Nat.succ_ne_zero _, fun q hq => by cases hq; exact k_this⟩, (List.forall_mem_cons.mpr ⟨⟨Nat.succ_ne_zero _, k_p0⟩, (List.forall_mem_cons.mpr ⟨⟨Nat.succ_ne_zero _, k_p1⟩, (List.forall_mem_cons.mpr ⟨⟨Nat.succ_ne_zero _, k_p2⟩, (fun _ hq => absurd hq List.not_mem_nil)⟩)⟩)⟩)⟩) ?_
  intro p e s m args below meth c R H locs cells slots ls C hR hZ hl
  obtain ⟨hx, hb, hr, hml, hts, hown, hlocks, hmn, hK⟩ := id C
  unfold f_X9_goToHop at hf
  refine z_aload_n (i := 1) hx hb dX9_goToHop_0 rfl (lv_at hl 1 rfl) ?_
  have hf9 := Option.bind_eq_some_iff.mp hf; clear hf; obtain ⟨a1, ha1, hf⟩ := hf9
  subst ha1
  replace hl : lv_has ls 6 [(0, .ref this), (1, .ref a1), (2, va_rf p1), (3, va_rf p2)] := hl
  replace hZ : wd_Z E w R s w H locs cells slots [(some this, 10), (some a1, 3), (p1, 8), (p2, 5)] := hZ
  refine z_getR (tk := 3) fd_200 rfl hx hb hts hown hK hZ (hZ.k 1 rfl rfl) tw_206 dX9_goToHop_1 ?_; clear hZ; intro hZ
  refine z_aload_n (i := 3) hx hb dX9_goToHop_4 rfl (lv_at hl 3 rfl) ?_
  have hf9 := Option.bind_eq_some_iff.mp hf; clear hf; obtain ⟨a2, ha2, hf⟩ := hf9
  subst ha2
  replace hl : lv_has ls 6 [(0, .ref this), (1, .ref a1), (2, va_rf p1), (3, .ref a2)] := hl
  replace hZ : wd_Z E w R s w H locs cells slots [((wd_R w 200 a1), 4), (some this, 10), (some a1, 3), (p1, 8), (some a2, 5)] := hZ
  refine z_getI fd_402 rfl hx hb hts hown hK hZ (hZ.k 4 rfl rfl) tw_688 dX9_goToHop_5 ?_
  have hf9 := Option.bind_eq_some_iff.mp hf; clear hf; obtain ⟨a3, ha3, hf⟩ := hf9
  replace hZ := hZ.add (r := some a3) (k := 4) (Nat.succ_ne_zero _) (fun q hq => by cases hq; exact hZ.k 0 rfl ha3)
  rw [ha3]
  have hf9 := wd_b2_e hf; clear hf; obtain ⟨r6, w4, hc5, hf⟩ := hf9
  refine z_callV (ci := 3) (As := [.int (wd_I w 402 a2)]) (rest := []) (c_X3_hopTo l E n w a3 (wd_I w 402 a2) r6 w4 (hZ.k 0 rfl rfl) hc5) mo_X3_hopTo rfl (by decide) rfl tw_657 tw_658 tw_656 hx hb hml hts hown hK ⟨Nat.le_trans (by decide) hR.1, Nat.le_trans (by decide) hR.2⟩ hZ (hZ.k 0 rfl rfl) rfl hl.1 rfl (Nat.le_of_ble_eq_true rfl) rfl dX9_goToHop_8 ?_; clear hZ; intro H locs cells slots hX hZ
  refine lv_istore (i := 4) (lv' := [(4, .int r6), (0, .ref this), (1, .ref a1), (2, va_rf p1), (3, .ref a2)]) hx hb dX9_goToHop_11 hl (by decide) rfl ?_; clear hl; intro ls hl
  refine lv_aload_n (i := 1) hx hb dX9_goToHop_13 rfl (lv_at hl 2 rfl) ?_
  refine lv_iload hx hb dX9_goToHop_14 (lv_at hl 0 rfl) ?_
  have hf9 := wd_b2_e hf; clear hf; obtain ⟨r9, w7, hc8, hf⟩ := hf9
  refine z_callV (ci := 2) (As := [.int r6]) (rest := []) (c_X2_knownMark l E n w4 a1 r6 r9 w7 (hZ.k 3 rfl rfl) hc8) mo_X2_knownMark rfl (by decide) rfl tw_492 tw_493 tw_797 hx hb hml hts hown hK ⟨Nat.le_trans (by decide) hR.1, Nat.le_trans (by decide) hR.2⟩ hZ (hZ.k 3 rfl rfl) rfl hl.1 rfl (Nat.le_of_ble_eq_true rfl) rfl dX9_goToHop_16 ?_; clear hZ; intro H locs cells slots hX hZ
  refine lv_istore (i := 5) (lv' := [(5, .int r9), (4, .int r6), (0, .ref this), (1, .ref a1), (2, va_rf p1), (3, .ref a2)]) hx hb dX9_goToHop_19 hl (by decide) rfl ?_; clear hl; intro ls hl
  refine lv_iload hx hb dX9_goToHop_21 (lv_at hl 0 rfl) ?_
  refine lv_if_lt (tgt := 40) hx hb dX9_goToHop_23 (by decide) (fun h10 => ?_) (fun h10 => ?_)
  · replace hf := wd_ite_p h10 hf
    refine lv_aload_n (i := 3) hx hb dX9_goToHop_40 rfl (lv_at hl 5 rfl) ?_
    refine lv_iload hx hb dX9_goToHop_41 (lv_at hl 1 rfl) ?_
    refine z_putI fd_411 cok_4 rfl rfl rfl rfl rfl hx hb hts hown hK hZ (hZ.k 5 rfl rfl) tw_720 dX9_goToHop_43 ?_; clear hZ; intro H locs hZ
    have hf9 := wd_let_e hf; clear hf; obtain ⟨w11, e12, hf⟩ := hf9
    rw [e12] at hZ
    refine lv_aload_n (i := 3) hx hb dX9_goToHop_46 rfl (lv_at hl 5 rfl) ?_
    refine z_aload_n (i := 2) hx hb dX9_goToHop_47 rfl (lv_at hl 4 rfl) ?_
    refine z_putR (r := p1) rfl fd_412 cok_4 (tk := 7) rfl (fun q hq => hZ.k 4 rfl hq) rfl rfl (wd_obO _) hx hb hts hown hK hZ (hZ.k 5 rfl rfl) tw_721 dX9_goToHop_48 ?_; clear hZ; intro H locs hZ
    have hf9 := wd_let_e hf; clear hf; obtain ⟨w13, e14, hf⟩ := hf9
    rw [e14] at hZ
    refine lv_aload_n (i := 1) hx hb dX9_goToHop_51 rfl (lv_at hl 3 rfl) ?_
    refine lv_aload_n (i := 3) hx hb dX9_goToHop_52 rfl (lv_at hl 5 rfl) ?_
    have hf9 := Option.bind_eq_some_iff.mp hf; clear hf; obtain ⟨w15, hc16, hf⟩ := hf9
    refine z_callV (ci := 2) (As := [va_rf (some a2)]) (rest := []) (c_X2_putToWait l E n w13 a1 (some a2) w15 (hZ.k 3 rfl rfl) (fun q hq => by cases hq; exact (hZ.k 5 rfl rfl)) hc16) mo_X2_putToWait rfl (by decide) rfl tw_843 tw_844 tw_842 hx hb hml hts hown hK ⟨Nat.le_trans (by decide) hR.1, Nat.le_trans (by decide) hR.2⟩ hZ (hZ.k 3 rfl rfl) rfl hl.1 rfl (Nat.le_of_ble_eq_true rfl) rfl dX9_goToHop_53 ?_; clear hZ; intro H locs cells slots hX hZ
    refine lv_aload_n (i := 1) hx hb dX9_goToHop_56 rfl (lv_at hl 3 rfl) ?_
    refine lv_iload hx hb dX9_goToHop_57 (lv_at hl 1 rfl) ?_
    have hf9 := wd_b2_e hf; clear hf; obtain ⟨r19, w17, hc18, hf⟩ := hf9
    refine z_callV (ci := 2) (As := [.int r6]) (rest := []) (c_X2_countWaitingFor l E n w15 a1 r6 r19 w17 (hZ.k 3 rfl rfl) hc18) mo_X2_countWaitingFor rfl (by decide) rfl tw_851 tw_852 tw_850 hx hb hml hts hown hK ⟨Nat.le_trans (by decide) hR.1, Nat.le_trans (by decide) hR.2⟩ hZ (hZ.k 3 rfl rfl) rfl hl.1 rfl (Nat.le_of_ble_eq_true rfl) rfl dX9_goToHop_59 ?_; clear hZ; intro H locs cells slots hX hZ
    refine lv_iconst (v := 1) hx hb dX9_goToHop_62 (by decide) ?_
    refine lv_icmp_ne (tgt := 79) hx hb dX9_goToHop_63 (by decide) (fun h20 => ?_) (fun h20 => ?_)
    · replace hf := wd_ite_n h20 hf
      obtain rfl := Option.some.inj hf
      exact z_vret hx hb hr hlocks hZ trivial dX9_goToHop_79
    · replace hf := wd_ite_p h20 hf
      refine lv_aload_n (i := 0) hx hb dX9_goToHop_66 rfl (lv_at hl 2 rfl) ?_
      refine z_getR (tk := 8) fd_900 rfl hx hb hts hown hK hZ (hZ.k 2 rfl rfl) tw_243 dX9_goToHop_67 ?_; clear hZ; intro hZ
      refine lv_iconst (v := 1) hx hb dX9_goToHop_70 (by decide) ?_
      refine z_aload_n (i := 2) hx hb dX9_goToHop_71 rfl (lv_at hl 4 rfl) ?_
      refine lv_iconst (v := -1) hx hb dX9_goToHop_72 (by decide) ?_
      refine lv_iload hx hb dX9_goToHop_73 (lv_at hl 1 rfl) ?_
      refine z_null hx hb dX9_goToHop_75 ?_
      have hf9 := Option.bind_eq_some_iff.mp hf; clear hf; obtain ⟨a21, ha21, hf⟩ := hf9
      replace hZ := hZ.add (r := some a21) (k := 9) (Nat.succ_ne_zero _) (fun q hq => by cases hq; exact hZ.k 0 rfl ha21)
      rw [ha21]
      have hf9 := Option.bind_eq_some_iff.mp hf; clear hf; obtain ⟨w22, hc23, hf⟩ := hf9
      refine z_callV (ci := 8) (As := [.int (1 : Int32), va_rf p1, .int (-1 : Int32), .int r6, va_rf none]) (rest := []) (c_X8_add l E n w17 a21 (1 : Int32) p1 (-1 : Int32) r6 none w22 (hZ.k 0 rfl rfl) (fun q hq => hZ.k 6 rfl hq) (fun q hq => by cases hq) hc23) mo_X8_add rfl (by decide) rfl tw_799 tw_800 tw_798 hx hb hml hts hown hK ⟨Nat.le_trans (by decide) hR.1, Nat.le_trans (by decide) hR.2⟩ hZ (hZ.k 0 rfl rfl) rfl hl.1 rfl (Nat.le_of_ble_eq_true rfl) rfl dX9_goToHop_76 ?_; clear hZ; intro H locs cells slots hX hZ
      obtain rfl := Option.some.inj hf
      exact z_vret hx hb hr hlocks hZ trivial dX9_goToHop_79
  · replace hf := wd_ite_n h10 hf
    refine lv_aload_n (i := 0) hx hb dX9_goToHop_26 rfl (lv_at hl 2 rfl) ?_
    refine z_getR (tk := 8) fd_900 rfl hx hb hts hown hK hZ (hZ.k 2 rfl rfl) tw_243 dX9_goToHop_27 ?_; clear hZ; intro hZ
    refine lv_iconst (v := 0) hx hb dX9_goToHop_30 (by decide) ?_
    refine z_aload_n (i := 2) hx hb dX9_goToHop_31 rfl (lv_at hl 4 rfl) ?_
    refine lv_iload hx hb dX9_goToHop_32 (lv_at hl 0 rfl) ?_
    refine lv_iconst (v := -1) hx hb dX9_goToHop_34 (by decide) ?_
    refine lv_aload_n (i := 3) hx hb dX9_goToHop_35 rfl (lv_at hl 5 rfl) ?_
    have hf9 := Option.bind_eq_some_iff.mp hf; clear hf; obtain ⟨a24, ha24, hf⟩ := hf9
    replace hZ := hZ.add (r := some a24) (k := 9) (Nat.succ_ne_zero _) (fun q hq => by cases hq; exact hZ.k 0 rfl ha24)
    rw [ha24]
    have hf9 := Option.bind_eq_some_iff.mp hf; clear hf; obtain ⟨w25, hc26, hf⟩ := hf9
    refine z_callV (ci := 8) (As := [.int (0 : Int32), va_rf p1, .int r9, .int (-1 : Int32), va_rf (some a2)]) (rest := []) (c_X8_add l E n w7 a24 (0 : Int32) p1 r9 (-1 : Int32) (some a2) w25 (hZ.k 0 rfl rfl) (fun q hq => hZ.k 6 rfl hq) (fun q hq => by cases hq; exact (hZ.k 7 rfl rfl)) hc26) mo_X8_add rfl (by decide) rfl tw_799 tw_800 tw_798 hx hb hml hts hown hK ⟨Nat.le_trans (by decide) hR.1, Nat.le_trans (by decide) hR.2⟩ hZ (hZ.k 0 rfl rfl) rfl hl.1 rfl (Nat.le_of_ble_eq_true rfl) rfl dX9_goToHop_36 ?_; clear hZ; intro H locs cells slots hX hZ
    obtain rfl := Option.some.inj hf
    exact z_vret hx hb hr hlocks hZ trivial dX9_goToHop_39

def f_X9_goByPort_j40 (n : Nat) (x0 : Nat) (x1 : Option Nat) (x2 : Option Nat) (x3 : Option Nat) (w : Wd) : Option Wd :=
  Option.bind (f_X9_goToHop n w x0 x1 x2 x3) fun w10 =>
  some w10
def f_X9_goByPort_l51 (n : Nat) (rec51 : Nat → Option Nat → Option Nat → Option Nat → Int32 → Int32 → Wd → Option Wd) (x0 : Nat) (x1 : Option Nat) (x2 : Option Nat) (x3 : Option Nat) (x5 : Int32) (x6 : Int32) (w : Wd) : Option Wd :=
  Option.bind x3 fun a13 =>
  if (wd_I w 403 a13) ≤ x6 then
    some w
  else
    Option.bind (wd_R w 905 x0) fun a15 =>
    wd_b2 (f_X6_take n w a15) fun r18 w16 =>
    Option.bind r18 fun a19 =>
    Option.bind (f_X4_cutFrom n w16 a19 (some a13) x6 x5) fun w20 =>
    Option.bind (f_X9_goToHop n w20 x0 x1 x2 (some a19)) fun w22 =>
    wd_let (x6 + x5) fun v24 =>
    rec51 x0 x1 x2 (some a13) x5 v24 w22
def f_X9_goByPort (n : Nat) (w : Wd) (this : Nat) (p0 : Option Nat) (p1 : Option Nat) (p2 : Option Nat) : Option Wd :=
  Option.bind p1 fun a1 =>
  Option.bind (wd_R w 904 this) fun a2 =>
  wd_b2 (f_X5_widthOf n w a2 (wd_I w 701 a1)) fun r5 w3 =>
  wd_let (((r5 - (4 : Int32)) / (4 : Int32)) * (4 : Int32)) fun v6 =>
  Option.bind p2 fun a8 =>
  if ((wd_I w3 403 a8) + (4 : Int32)) ≤ r5 then
    f_X9_goByPort_j40 n this p0 (some a1) (some a8) w3
  else
    if (1 : Int32) ≤ v6 then
      wd_lp7 (f_X9_goByPort_l51 n) n this p0 (some a1) (some a8) v6 (0 : Int32) w3
    else
      f_X9_goByPort_j40 n this p0 (some a1) (some a8) w3
set_option maxHeartbeats 4000000 in
set_option maxRecDepth 100000 in
theorem v_X9_goByPort_j40 {p : Program} {l : Launch} {e : Env} {R : Room} {s : State} {m : MethodId} {args : Array Value} {below : List Frame} {meth : Method} {c : Code} {E : wd_E} {w0 : Wd} {w' : Wd} (n : Nat) (C : wd_X p s m args meth c cX9_goByPort RX9 8 none "goByPort" E) (hR : 4 ≤ R.frames ∧ 95 ≤ R.locals) (x0 : Nat) (x1 : Option Nat) (x2 : Option Nat) (x3 : Option Nat) (w : Wd) (H : Heap) (locs : List Loc) (cells slots : Nat) (ls : Array Slot) (hZ : wd_Z E w0 R s w H locs cells slots [(some x0, 10), (x1, 3), (x2, 8), (x3, 5)]) (hl : lv_has ls 8 [(0, .ref x0), (1, va_rf x1), (2, va_rf x2), (3, va_rf x3)]) (hf : f_X9_goByPort_j40 n x0 x1 x2 x3 w = some w') : W p l e R s m args below meth c H locs cells slots (wd_fin E w0 none w' True R args s below) (F0 m 40 ls []) := by
  obtain ⟨hx, hb, hr, hml, hts, hown, hlocks, hmn, hK⟩ := id C
  unfold f_X9_goByPort_j40 at hf
  refine lv_aload_n (i := 0) hx hb dX9_goByPort_40 rfl (lv_at hl 0 rfl) ?_
  refine z_aload_n (i := 1) hx hb dX9_goByPort_41 rfl (lv_at hl 1 rfl) ?_
  refine z_aload_n (i := 2) hx hb dX9_goByPort_42 rfl (lv_at hl 2 rfl) ?_
  refine z_aload_n (i := 3) hx hb dX9_goByPort_43 rfl (lv_at hl 3 rfl) ?_
  have hf9 := Option.bind_eq_some_iff.mp hf; clear hf; obtain ⟨w10, hc11, hf⟩ := hf9
  refine z_callV (ci := 9) (As := [va_rf x1, va_rf x2, va_rf x3]) (rest := []) (c_X9_goToHop l E n w x0 x1 x2 x3 w10 (hZ.k 0 rfl rfl) (fun q hq => hZ.k 1 rfl hq) (fun q hq => hZ.k 2 rfl hq) (fun q hq => hZ.k 3 rfl hq) hc11) mo_X9_goToHop rfl (by decide) rfl tw_795 tw_16 tw_793 hx hb hml hts hown hK ⟨Nat.le_trans (by decide) hR.1, Nat.le_trans (by decide) hR.2⟩ hZ (hZ.k 0 rfl rfl) rfl hl.1 rfl (Nat.le_of_ble_eq_true rfl) rfl dX9_goByPort_44 ?_; clear hZ; intro H locs cells slots hX hZ
  obtain rfl := Option.some.inj hf
  exact z_vret hx hb hr hlocks hZ trivial dX9_goByPort_47

set_option maxHeartbeats 4000000 in
set_option maxRecDepth 100000 in
theorem v_X9_goByPort_b51 {p : Program} {l : Launch} {e : Env} {R : Room} {s : State} {m : MethodId} {args : Array Value} {below : List Frame} {meth : Method} {c : Code} {E : wd_E} {w0 : Wd} {w' : Wd} (n : Nat) (C : wd_X p s m args meth c cX9_goByPort RX9 8 none "goByPort" E) (hR : 4 ≤ R.frames ∧ 95 ≤ R.locals) (rec51 : Nat → Option Nat → Option Nat → Option Nat → Int32 → Int32 → Wd → Option Wd) (hrec51 : ∀ (x0_ : Nat) (x1_ : Option Nat) (x2_ : Option Nat) (x3_ : Option Nat) (x5_ : Int32) (x6_ : Int32) (w_ : Wd) (H : Heap) (locs : List Loc) (cells slots : Nat) (ls : Array Slot), wd_Z E w0 R s w_ H locs cells slots [(some x0_, 10), (x1_, 3), (x2_, 8), (x3_, 5)] → lv_has ls 8 [(0, .ref x0_), (1, va_rf x1_), (2, va_rf x2_), (3, va_rf x3_), (5, .int x5_), (6, .int x6_)] → rec51 x0_ x1_ x2_ x3_ x5_ x6_ w_ = some w' → W p l e R s m args below meth c H locs cells slots (wd_fin E w0 none w' True R args s below) (F0 m 51 ls [])) (x0 : Nat) (x1 : Option Nat) (x2 : Option Nat) (x3 : Option Nat) (x5 : Int32) (x6 : Int32) (w : Wd) (H : Heap) (locs : List Loc) (cells slots : Nat) (ls : Array Slot) (hZ : wd_Z E w0 R s w H locs cells slots [(some x0, 10), (x1, 3), (x2, 8), (x3, 5)]) (hl : lv_has ls 8 [(0, .ref x0), (1, va_rf x1), (2, va_rf x2), (3, va_rf x3), (5, .int x5), (6, .int x6)]) (hf : f_X9_goByPort_l51 n rec51 x0 x1 x2 x3 x5 x6 w = some w') : W p l e R s m args below meth c H locs cells slots (wd_fin E w0 none w' True R args s below) (F0 m 51 ls []) := by
  obtain ⟨hx, hb, hr, hml, hts, hown, hlocks, hmn, hK⟩ := id C
  unfold f_X9_goByPort_l51 at hf
  refine lv_iload hx hb dX9_goByPort_51 (lv_at hl 5 rfl) ?_
  refine z_aload_n (i := 3) hx hb dX9_goByPort_53 rfl (lv_at hl 3 rfl) ?_
  have hf9 := Option.bind_eq_some_iff.mp hf; clear hf; obtain ⟨a13, ha13, hf⟩ := hf9
  subst ha13
  replace hl : lv_has ls 8 [(0, .ref x0), (1, va_rf x1), (2, va_rf x2), (3, .ref a13), (5, .int x5), (6, .int x6)] := hl
  replace hZ : wd_Z E w0 R s w H locs cells slots [(some x0, 10), (x1, 3), (x2, 8), (some a13, 5)] := hZ
  refine z_getI fd_403 rfl hx hb hts hown hK hZ (hZ.k 3 rfl rfl) tw_692 dX9_goByPort_54 ?_
  refine lv_icmp_ge (tgt := 97) hx hb dX9_goByPort_57 (by decide) (fun h14 => ?_) (fun h14 => ?_)
  · replace hf := wd_ite_p h14 hf
    obtain rfl := Option.some.inj hf
    exact z_vret hx hb hr hlocks hZ trivial dX9_goByPort_97
  · replace hf := wd_ite_n h14 hf
    refine lv_aload_n (i := 0) hx hb dX9_goByPort_60 rfl (lv_at hl 0 rfl) ?_
    refine z_getR (tk := 6) fd_905 rfl hx hb hts hown hK hZ (hZ.k 0 rfl rfl) tw_252 dX9_goByPort_61 ?_; clear hZ; intro hZ
    have hf9 := Option.bind_eq_some_iff.mp hf; clear hf; obtain ⟨a15, ha15, hf⟩ := hf9
    replace hZ := hZ.add (r := some a15) (k := 7) (Nat.succ_ne_zero _) (fun q hq => by cases hq; exact hZ.k 0 rfl ha15)
    rw [ha15]
    have hf9 := wd_b2_e hf; clear hf; obtain ⟨r18, w16, hc17, hf⟩ := hf9
    refine z_callV (ci := 6) (As := []) (rest := []) (c_X6_take l E n w a15 r18 w16 (hZ.k 0 rfl rfl) hc17) mo_X6_take rfl (by decide) rfl tw_670 tw_671 tw_669 hx hb hml hts hown hK ⟨Nat.le_trans (by decide) hR.1, Nat.le_trans (by decide) hR.2⟩ hZ (hZ.k 0 rfl rfl) rfl hl.1 rfl (Nat.le_of_ble_eq_true rfl) rfl dX9_goByPort_64 ?_; clear hZ; intro H locs cells slots hX hZ
    replace hZ := hZ.add (Nat.succ_ne_zero _) hX
    refine z_astore (i := 7) (lv' := [(7, va_rf r18), (0, .ref x0), (1, va_rf x1), (2, va_rf x2), (3, .ref a13), (5, .int x5), (6, .int x6)]) hx hb dX9_goByPort_67 hl (by decide) rfl ?_; clear hl; intro ls hl
    refine z_aload hx hb dX9_goByPort_69 (lv_at hl 0 rfl) ?_
    refine lv_aload_n (i := 3) hx hb dX9_goByPort_71 rfl (lv_at hl 4 rfl) ?_
    refine lv_iload hx hb dX9_goByPort_72 (lv_at hl 6 rfl) ?_
    refine lv_iload hx hb dX9_goByPort_74 (lv_at hl 5 rfl) ?_
    have hf9 := Option.bind_eq_some_iff.mp hf; clear hf; obtain ⟨a19, ha19, hf⟩ := hf9
    subst ha19
    replace hl : lv_has ls 8 [(7, .ref a19), (0, .ref x0), (1, va_rf x1), (2, va_rf x2), (3, .ref a13), (5, .int x5), (6, .int x6)] := hl
    replace hZ : wd_Z E w0 R s w16 H locs cells slots [(some a19, 5), (some a15, 7), ((wd_R w 905 x0), 7), (some x0, 10), (x1, 3), (x2, 8), (some a13, 5)] := hZ
    have hf9 := Option.bind_eq_some_iff.mp hf; clear hf; obtain ⟨w20, hc21, hf⟩ := hf9
    refine z_callV (ci := 4) (As := [va_rf (some a13), .int x6, .int x5]) (rest := []) (c_X4_cutFrom l E n w16 a19 (some a13) x6 x5 w20 (hZ.k 0 rfl rfl) (fun q hq => by cases hq; exact (hZ.k 6 rfl rfl)) hc21) mo_X4_cutFrom rfl (by decide) rfl tw_855 tw_856 tw_854 hx hb hml hts hown hK ⟨Nat.le_trans (by decide) hR.1, Nat.le_trans (by decide) hR.2⟩ hZ (hZ.k 0 rfl rfl) rfl hl.1 rfl (Nat.le_of_ble_eq_true rfl) rfl dX9_goByPort_76 ?_; clear hZ; intro H locs cells slots hX hZ
    refine lv_aload_n (i := 0) hx hb dX9_goByPort_79 rfl (lv_at hl 1 rfl) ?_
    refine z_aload_n (i := 1) hx hb dX9_goByPort_80 rfl (lv_at hl 2 rfl) ?_
    refine z_aload_n (i := 2) hx hb dX9_goByPort_81 rfl (lv_at hl 3 rfl) ?_
    refine lv_aload hx hb dX9_goByPort_82 (lv_at hl 0 rfl) ?_
    have hf9 := Option.bind_eq_some_iff.mp hf; clear hf; obtain ⟨w22, hc23, hf⟩ := hf9
    refine z_callV (ci := 9) (As := [va_rf x1, va_rf x2, va_rf (some a19)]) (rest := []) (c_X9_goToHop l E n w20 x0 x1 x2 (some a19) w22 (hZ.k 3 rfl rfl) (fun q hq => hZ.k 4 rfl hq) (fun q hq => hZ.k 5 rfl hq) (fun q hq => by cases hq; exact (hZ.k 0 rfl rfl)) hc23) mo_X9_goToHop rfl (by decide) rfl tw_795 tw_16 tw_793 hx hb hml hts hown hK ⟨Nat.le_trans (by decide) hR.1, Nat.le_trans (by decide) hR.2⟩ hZ (hZ.k 3 rfl rfl) rfl hl.1 rfl (Nat.le_of_ble_eq_true rfl) rfl dX9_goByPort_84 ?_; clear hZ; intro H locs cells slots hX hZ
    refine lv_iload hx hb dX9_goByPort_87 (lv_at hl 6 rfl) ?_
    refine lv_iload hx hb dX9_goByPort_89 (lv_at hl 5 rfl) ?_
    refine lv_iadd hx hb dX9_goByPort_91 ?_
    have hf9 := wd_let_e hf; clear hf; obtain ⟨v24, e25, hf⟩ := hf9
    rw [e25]
    refine lv_istore (i := 6) (lv' := [(6, .int v24), (7, .ref a19), (0, .ref x0), (1, va_rf x1), (2, va_rf x2), (3, .ref a13), (5, .int x5)]) hx hb dX9_goByPort_92 hl (by decide) rfl ?_; clear hl; intro ls hl
    refine lv_goto (tgt := 51) hx hb dX9_goByPort_94 (by decide) ?_
    exact hrec51 x0 x1 x2 (some a13) x5 v24 w22 _ _ _ _ _ ⟨hZ.1, hZ.2.1, hZ.2.2.1, hZ.2.2.2.1, (List.forall_mem_cons.mpr ⟨⟨Nat.succ_ne_zero _, (fun q hq => by cases hq; exact (hZ.k 3 rfl rfl))⟩, (List.forall_mem_cons.mpr ⟨⟨Nat.succ_ne_zero _, (fun q hq => hZ.k 4 rfl hq)⟩, (List.forall_mem_cons.mpr ⟨⟨Nat.succ_ne_zero _, (fun q hq => hZ.k 5 rfl hq)⟩, (List.forall_mem_cons.mpr ⟨⟨Nat.succ_ne_zero _, (fun q hq => by cases hq; exact (hZ.k 6 rfl rfl))⟩, (fun _ hq => absurd hq List.not_mem_nil)⟩)⟩)⟩)⟩), hZ.2.2.2.2.2⟩ (lv_sub hl [2, 3, 4, 5, 6, 0] rfl) hf

theorem v_X9_goByPort_l51 {p : Program} {l : Launch} {e : Env} {R : Room} {s : State} {m : MethodId} {args : Array Value} {below : List Frame} {meth : Method} {c : Code} {E : wd_E} {w0 : Wd} {w' : Wd} (n : Nat) (C : wd_X p s m args meth c cX9_goByPort RX9 8 none "goByPort" E) (hR : 4 ≤ R.frames ∧ 95 ≤ R.locals) : ∀ (k : Nat) (x0 : Nat) (x1 : Option Nat) (x2 : Option Nat) (x3 : Option Nat) (x5 : Int32) (x6 : Int32) (w : Wd) (H : Heap) (locs : List Loc) (cells slots : Nat) (ls : Array Slot), wd_Z E w0 R s w H locs cells slots [(some x0, 10), (x1, 3), (x2, 8), (x3, 5)] → lv_has ls 8 [(0, .ref x0), (1, va_rf x1), (2, va_rf x2), (3, va_rf x3), (5, .int x5), (6, .int x6)] → wd_lp7 (f_X9_goByPort_l51 n) k x0 x1 x2 x3 x5 x6 w = some w' → W p l e R s m args below meth c H locs cells slots (wd_fin E w0 none w' True R args s below) (F0 m 51 ls []) := by
  intro k
  induction k with
  | zero => intro _ _ _ _ _ _ _ _ _ _ _ _ _ _ hf; cases hf
  | succ k ih =>
    intro x0 x1 x2 x3 x5 x6 w H locs cells slots ls hZ hl hf
    exact v_X9_goByPort_b51 n C hR (wd_lp7 (f_X9_goByPort_l51 n) k) ih x0 x1 x2 x3 x5 x6 w H locs cells slots ls hZ hl hf

set_option maxHeartbeats 4000000 in
set_option maxRecDepth 100000 in
theorem c_X9_goByPort (l : Launch) (E : wd_E) (n : Nat) (w : Wd) (this : Nat) (p0 : Option Nat) (p1 : Option Nat) (p2 : Option Nat) (w' : Wd) (k_this : wd_K w this = 10) (k_p0 : ∀ q, p0 = some q → wd_K w q = 3) (k_p1 : ∀ q, p1 = some q → wd_K w q = 8) (k_p2 : ∀ q, p2 = some q → wd_K w q = 5) (hf : f_X9_goByPort n w this p0 p1 p2 = some w') : wd_C l E yX9_goByPort cX9_goByPort 8 none 4 95 [.ref this, va_rf p0, va_rf p1, va_rf p2] w none w' True := by
  refine wd_ofW (own := RX9) (nm := "goByPort") (ks := [(some this, 10), (p0, 3), (p1, 8), (p2, 5)]) (lv := [(0, .ref this), (1, va_rf p0), (2, va_rf p1), (3, va_rf p2)]) (by decide) rfl rfl (by simp [lg_sl, va_rf_cat, va_cat_r, va_cat_i, va_cat_l, va_cat_d]) (by simp [lv_args, va_rf_cat, va_cat_r, va_cat_i, va_cat_l, va_cat_d]) (List.forall_mem_cons.mpr ⟨⟨Nat.succ_ne_zero _, fun q hq => by cases hq; exact k_this⟩, (List.forall_mem_cons.mpr ⟨⟨Nat.succ_ne_zero _, k_p0⟩, (List.forall_mem_cons.mpr ⟨⟨Nat.succ_ne_zero _, k_p1⟩, (List.forall_mem_cons.mpr ⟨⟨Nat.succ_ne_zero _, k_p2⟩, (fun _ hq => absurd hq List.not_mem_nil)⟩)⟩)⟩)⟩) ?_
  intro p e s m args below meth c R H locs cells slots ls C hR hZ hl
  obtain ⟨hx, hb, hr, hml, hts, hown, hlocks, hmn, hK⟩ := id C
  unfold f_X9_goByPort at hf
  refine lv_aload_n (i := 0) hx hb dX9_goByPort_0 rfl (lv_at hl 0 rfl) ?_
  refine z_getR (tk := 5) fd_904 rfl hx hb hts hown hK hZ (hZ.k 0 rfl rfl) tw_251 dX9_goByPort_1 ?_; clear hZ; intro hZ
  refine z_aload_n (i := 2) hx hb dX9_goByPort_4 rfl (lv_at hl 2 rfl) ?_
  have hf9 := Option.bind_eq_some_iff.mp hf; clear hf; obtain ⟨a1, ha1, hf⟩ := hf9
  subst ha1
  replace hl : lv_has ls 8 [(0, .ref this), (1, va_rf p0), (2, .ref a1), (3, va_rf p2)] := hl
  replace hZ : wd_Z E w R s w H locs cells slots [((wd_R w 904 this), 6), (some this, 10), (p0, 3), (some a1, 8), (p2, 5)] := hZ
  refine z_getI fd_701 rfl hx hb hts hown hK hZ (hZ.k 3 rfl rfl) tw_565 dX9_goByPort_5 ?_
  have hf9 := Option.bind_eq_some_iff.mp hf; clear hf; obtain ⟨a2, ha2, hf⟩ := hf9
  replace hZ := hZ.add (r := some a2) (k := 6) (Nat.succ_ne_zero _) (fun q hq => by cases hq; exact hZ.k 0 rfl ha2)
  rw [ha2]
  have hf9 := wd_b2_e hf; clear hf; obtain ⟨r5, w3, hc4, hf⟩ := hf9
  refine z_callV (ci := 5) (As := [.int (wd_I w 701 a1)]) (rest := []) (c_X5_widthOf l E n w a2 (wd_I w 701 a1) r5 w3 (hZ.k 0 rfl rfl) hc4) mo_X5_widthOf rfl (by decide) rfl tw_786 tw_787 tw_785 hx hb hml hts hown hK ⟨Nat.le_trans (by decide) hR.1, Nat.le_trans (by decide) hR.2⟩ hZ (hZ.k 0 rfl rfl) rfl hl.1 rfl (Nat.le_of_ble_eq_true rfl) rfl dX9_goByPort_8 ?_; clear hZ; intro H locs cells slots hX hZ
  refine lv_istore (i := 4) (lv' := [(4, .int r5), (0, .ref this), (1, va_rf p0), (2, .ref a1), (3, va_rf p2)]) hx hb dX9_goByPort_11 hl (by decide) (by simp [va_rf_cat, va_cat_r, va_cat_i, va_cat_l, va_cat_d]) ?_; clear hl; intro ls hl
  refine lv_iload hx hb dX9_goByPort_13 (lv_at hl 0 rfl) ?_
  refine lv_iconst (v := 4) hx hb dX9_goByPort_15 (by decide) ?_
  refine lv_isub hx hb dX9_goByPort_16 ?_
  refine lv_iconst (v := 4) hx hb dX9_goByPort_17 (by decide) ?_
  refine lv_idiv hx hb dX9_goByPort_18 (by decide) ?_
  refine lv_iconst (v := 4) hx hb dX9_goByPort_19 (by decide) ?_
  refine lv_imul hx hb dX9_goByPort_20 ?_
  have hf9 := wd_let_e hf; clear hf; obtain ⟨v6, e7, hf⟩ := hf9
  rw [e7]
  refine lv_istore (i := 5) (lv' := [(5, .int v6), (4, .int r5), (0, .ref this), (1, va_rf p0), (2, .ref a1), (3, va_rf p2)]) hx hb dX9_goByPort_21 hl (by decide) rfl ?_; clear hl; intro ls hl
  refine z_aload_n (i := 3) hx hb dX9_goByPort_23 rfl (lv_at hl 5 rfl) ?_
  have hf9 := Option.bind_eq_some_iff.mp hf; clear hf; obtain ⟨a8, ha8, hf⟩ := hf9
  subst ha8
  replace hl : lv_has ls 8 [(5, .int v6), (4, .int r5), (0, .ref this), (1, va_rf p0), (2, .ref a1), (3, .ref a8)] := hl
  replace hZ : wd_Z E w R s w3 H locs cells slots [(some a2, 6), ((wd_R w 904 this), 6), (some this, 10), (p0, 3), (some a1, 8), (some a8, 5)] := hZ
  refine z_getI fd_403 rfl hx hb hts hown hK hZ (hZ.k 5 rfl rfl) tw_692 dX9_goByPort_24 ?_
  refine lv_iconst (v := 4) hx hb dX9_goByPort_27 (by decide) ?_
  refine lv_iadd hx hb dX9_goByPort_28 ?_
  refine lv_iload hx hb dX9_goByPort_29 (lv_at hl 1 rfl) ?_
  refine lv_icmp_le (tgt := 40) hx hb dX9_goByPort_31 (by decide) (fun h9 => ?_) (fun h9 => ?_)
  · replace hf := wd_ite_p h9 hf
    exact v_X9_goByPort_j40 n C hR this p0 (some a1) (some a8) w3 _ _ _ _ _ ⟨hZ.1, hZ.2.1, hZ.2.2.1, hZ.2.2.2.1, (List.forall_mem_cons.mpr ⟨⟨Nat.succ_ne_zero _, (fun q hq => by cases hq; exact (hZ.k 2 rfl rfl))⟩, (List.forall_mem_cons.mpr ⟨⟨Nat.succ_ne_zero _, (fun q hq => hZ.k 3 rfl hq)⟩, (List.forall_mem_cons.mpr ⟨⟨Nat.succ_ne_zero _, (fun q hq => by cases hq; exact (hZ.k 4 rfl rfl))⟩, (List.forall_mem_cons.mpr ⟨⟨Nat.succ_ne_zero _, (fun q hq => by cases hq; exact (hZ.k 5 rfl rfl))⟩, (fun _ hq => absurd hq List.not_mem_nil)⟩)⟩)⟩)⟩), hZ.2.2.2.2.2⟩ (lv_sub hl [2, 3, 4, 5] rfl) hf
  · replace hf := wd_ite_n h9 hf
    refine lv_iload hx hb dX9_goByPort_34 (lv_at hl 0 rfl) ?_
    refine lv_iconst (v := 1) hx hb dX9_goByPort_36 (by decide) ?_
    refine lv_icmp_ge (tgt := 48) hx hb dX9_goByPort_37 (by decide) (fun h12 => ?_) (fun h12 => ?_)
    · replace hf := wd_ite_p h12 hf
      refine lv_iconst (v := 0) hx hb dX9_goByPort_48 (by decide) ?_
      refine lv_istore (i := 6) (lv' := [(6, .int (0 : Int32)), (5, .int v6), (4, .int r5), (0, .ref this), (1, va_rf p0), (2, .ref a1), (3, .ref a8)]) hx hb dX9_goByPort_49 hl (by decide) rfl ?_; clear hl; intro ls hl
      exact v_X9_goByPort_l51 n C hR n this p0 (some a1) (some a8) v6 (0 : Int32) w3 _ _ _ _ _ ⟨hZ.1, hZ.2.1, hZ.2.2.1, hZ.2.2.2.1, (List.forall_mem_cons.mpr ⟨⟨Nat.succ_ne_zero _, (fun q hq => by cases hq; exact (hZ.k 2 rfl rfl))⟩, (List.forall_mem_cons.mpr ⟨⟨Nat.succ_ne_zero _, (fun q hq => hZ.k 3 rfl hq)⟩, (List.forall_mem_cons.mpr ⟨⟨Nat.succ_ne_zero _, (fun q hq => by cases hq; exact (hZ.k 4 rfl rfl))⟩, (List.forall_mem_cons.mpr ⟨⟨Nat.succ_ne_zero _, (fun q hq => by cases hq; exact (hZ.k 5 rfl rfl))⟩, (fun _ hq => absurd hq List.not_mem_nil)⟩)⟩)⟩)⟩), hZ.2.2.2.2.2⟩ (lv_sub hl [3, 4, 5, 6, 1, 0] rfl) hf
    · replace hf := wd_ite_n h12 hf
      exact v_X9_goByPort_j40 n C hR this p0 (some a1) (some a8) w3 _ _ _ _ _ ⟨hZ.1, hZ.2.1, hZ.2.2.1, hZ.2.2.2.1, (List.forall_mem_cons.mpr ⟨⟨Nat.succ_ne_zero _, (fun q hq => by cases hq; exact (hZ.k 2 rfl rfl))⟩, (List.forall_mem_cons.mpr ⟨⟨Nat.succ_ne_zero _, (fun q hq => hZ.k 3 rfl hq)⟩, (List.forall_mem_cons.mpr ⟨⟨Nat.succ_ne_zero _, (fun q hq => by cases hq; exact (hZ.k 4 rfl rfl))⟩, (List.forall_mem_cons.mpr ⟨⟨Nat.succ_ne_zero _, (fun q hq => by cases hq; exact (hZ.k 5 rfl rfl))⟩, (fun _ hq => absurd hq List.not_mem_nil)⟩)⟩)⟩)⟩), hZ.2.2.2.2.2⟩ (lv_sub hl [2, 3, 4, 5] rfl) hf

