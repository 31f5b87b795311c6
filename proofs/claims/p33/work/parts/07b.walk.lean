/-! ===== meanings and contracts, laid by wip/p33/gen ===== -/
def f_X2_countWaitingFor_j22 (n : Nat) (rec7 : Int32 → Int32 → Option Nat → Wd → Option (Int32 × Wd)) (x1 : Int32) (x2 : Int32) (x3 : Option Nat) (w : Wd) : Option (Int32 × Wd) :=
  Option.bind x3 fun a5 =>
  wd_let (wd_R w 413 a5) fun v6 =>
  rec7 x1 x2 v6 w
def f_X2_countWaitingFor_l7 (n : Nat) (rec7 : Int32 → Int32 → Option Nat → Wd → Option (Int32 × Wd)) (x1 : Int32) (x2 : Int32) (x3 : Option Nat) (w : Wd) : Option (Int32 × Wd) :=
  wd_on x3 (
    some (x2, w))
    (fun a3 =>
    if (wd_I w 411 a3) = x1 then
      wd_let (x2 + 1) fun v8 =>
      f_X2_countWaitingFor_j22 n rec7 x1 v8 (some a3) w
    else
      f_X2_countWaitingFor_j22 n rec7 x1 x2 (some a3) w)
def f_X2_countWaitingFor (n : Nat) (w : Wd) (this : Nat) (p0 : Int32) : Option (Int32 × Wd) :=
  wd_let (wd_R w 206 this) fun v1 =>
  wd_lp4 (f_X2_countWaitingFor_l7 n) n p0 (0 : Int32) v1 w
set_option maxHeartbeats 4000000 in
set_option maxRecDepth 100000 in
theorem v_X2_countWaitingFor_j22 {p : Program} {l : Launch} {e : Env} {R : Room} {s : State} {m : MethodId} {args : Array Value} {below : List Frame} {meth : Method} {c : Code} {E : wd_E} {w0 : Wd} {r' : Int32} {w' : Wd} (n : Nat) (C : wd_X p s m args meth c cX2_countWaitingFor RX2 4 (some .int) "countWaitingFor" E) (hR : 0 ≤ R.frames ∧ 0 ≤ R.locals) (rec7 : Int32 → Int32 → Option Nat → Wd → Option (Int32 × Wd)) (hrec7 : ∀ (x1_ : Int32) (x2_ : Int32) (x3_ : Option Nat) (w_ : Wd) (H : Heap) (locs : List Loc) (cells slots : Nat) (ls : Array Slot), wd_Z E w0 R s w_ H locs cells slots [(x3_, 5)] → lv_has ls 4 [(1, .int x1_), (2, .int x2_), (3, va_rf x3_)] → rec7 x1_ x2_ x3_ w_ = some (r', w') → W p l e R s m args below meth c H locs cells slots (wd_fin E w0 (some (.int r')) w' True R args s below) (F0 m 7 ls [])) (x1 : Int32) (x2 : Int32) (x3 : Option Nat) (w : Wd) (H : Heap) (locs : List Loc) (cells slots : Nat) (ls : Array Slot) (hZ : wd_Z E w0 R s w H locs cells slots [(x3, 5)]) (hl : lv_has ls 4 [(1, .int x1), (2, .int x2), (3, va_rf x3)]) (hf : f_X2_countWaitingFor_j22 n rec7 x1 x2 x3 w = some (r', w')) : W p l e R s m args below meth c H locs cells slots (wd_fin E w0 (some (.int r')) w' True R args s below) (F0 m 22 ls []) := by
  obtain ⟨hx, hb, hr, hml, hts, hown, hlocks, hmn, hK⟩ := id C
  unfold f_X2_countWaitingFor_j22 at hf
  refine z_aload_n (i := 3) hx hb dX2_countWaitingFor_22 rfl (lv_at hl 2 rfl) ?_
  have hf9 := Option.bind_eq_some_iff.mp hf; clear hf; obtain ⟨a5, ha5, hf⟩ := hf9
  subst ha5
  replace hl : lv_has ls 4 [(1, .int x1), (2, .int x2), (3, .ref a5)] := hl
  replace hZ : wd_Z E w0 R s w H locs cells slots [(some a5, 5)] := hZ
  refine z_getR (tk := 4) fd_413 rfl hx hb hts hown hK hZ (hZ.k 0 rfl rfl) tw_723 dX2_countWaitingFor_23 ?_; clear hZ; intro hZ
  have hf9 := wd_let_e hf; clear hf; obtain ⟨v6, e7, hf⟩ := hf9
  rw [e7]
  rw [e7] at hZ
  refine z_astore_n (i := 3) (lv' := [(3, va_rf v6), (1, .int x1), (2, .int x2)]) hx hb dX2_countWaitingFor_26 rfl hl (by decide) rfl ?_; clear hl; intro ls hl
  refine lv_goto (tgt := 7) hx hb dX2_countWaitingFor_27 (by decide) ?_
  exact hrec7 x1 x2 v6 w _ _ _ _ _ ⟨hZ.1, hZ.2.1, hZ.2.2.1, hZ.2.2.2.1, (List.forall_mem_cons.mpr ⟨⟨Nat.succ_ne_zero _, (fun q hq => hZ.k 0 rfl hq)⟩, (fun _ hq => absurd hq List.not_mem_nil)⟩), hZ.2.2.2.2.2⟩ (lv_sub hl [1, 2, 0] rfl) hf

set_option maxHeartbeats 4000000 in
set_option maxRecDepth 100000 in
theorem v_X2_countWaitingFor_b7 {p : Program} {l : Launch} {e : Env} {R : Room} {s : State} {m : MethodId} {args : Array Value} {below : List Frame} {meth : Method} {c : Code} {E : wd_E} {w0 : Wd} {r' : Int32} {w' : Wd} (n : Nat) (C : wd_X p s m args meth c cX2_countWaitingFor RX2 4 (some .int) "countWaitingFor" E) (hR : 0 ≤ R.frames ∧ 0 ≤ R.locals) (rec7 : Int32 → Int32 → Option Nat → Wd → Option (Int32 × Wd)) (hrec7 : ∀ (x1_ : Int32) (x2_ : Int32) (x3_ : Option Nat) (w_ : Wd) (H : Heap) (locs : List Loc) (cells slots : Nat) (ls : Array Slot), wd_Z E w0 R s w_ H locs cells slots [(x3_, 5)] → lv_has ls 4 [(1, .int x1_), (2, .int x2_), (3, va_rf x3_)] → rec7 x1_ x2_ x3_ w_ = some (r', w') → W p l e R s m args below meth c H locs cells slots (wd_fin E w0 (some (.int r')) w' True R args s below) (F0 m 7 ls [])) (x1 : Int32) (x2 : Int32) (x3 : Option Nat) (w : Wd) (H : Heap) (locs : List Loc) (cells slots : Nat) (ls : Array Slot) (hZ : wd_Z E w0 R s w H locs cells slots [(x3, 5)]) (hl : lv_has ls 4 [(1, .int x1), (2, .int x2), (3, va_rf x3)]) (hf : f_X2_countWaitingFor_l7 n rec7 x1 x2 x3 w = some (r', w')) : W p l e R s m args below meth c H locs cells slots (wd_fin E w0 (some (.int r')) w' True R args s below) (F0 m 7 ls []) := by
  obtain ⟨hx, hb, hr, hml, hts, hown, hlocks, hmn, hK⟩ := id C
  unfold f_X2_countWaitingFor_l7 at hf
  refine z_aload_n (i := 3) hx hb dX2_countWaitingFor_7 rfl (lv_at hl 2 rfl) ?_
  refine z_ifnull (tgt := 30) hx hb dX2_countWaitingFor_8 (by decide) (fun hn => ?_) (fun a3 ha3 => ?_)
  · replace hf := wd_on_n hn hf
    subst hn
    replace hl : lv_has ls 4 [(1, .int x1), (2, .int x2), (3, va_rf none)] := hl
    replace hZ : wd_Z E w0 R s w H locs cells slots [(none, 5)] := hZ
    refine lv_iload_n (i := 2) hx hb dX2_countWaitingFor_30 rfl (lv_at hl 1 rfl) ?_
    obtain ⟨rfl, rfl⟩ := Prod.mk.inj (Option.some.inj hf)
    exact z_iret hx hb hr hlocks hZ trivial dX2_countWaitingFor_31
  · replace hf := wd_on_s ha3 hf
    subst ha3
    replace hl : lv_has ls 4 [(1, .int x1), (2, .int x2), (3, .ref a3)] := hl
    replace hZ : wd_Z E w0 R s w H locs cells slots [(some a3, 5)] := hZ
    refine lv_aload_n (i := 3) hx hb dX2_countWaitingFor_11 rfl (lv_at hl 2 rfl) ?_
    refine z_getI fd_411 rfl hx hb hts hown hK hZ (hZ.k 0 rfl rfl) tw_719 dX2_countWaitingFor_12 ?_
    refine lv_iload_n (i := 1) hx hb dX2_countWaitingFor_15 rfl (lv_at hl 0 rfl) ?_
    refine lv_icmp_ne (tgt := 22) hx hb dX2_countWaitingFor_16 (by decide) (fun h4 => ?_) (fun h4 => ?_)
    · replace hf := wd_ite_n h4 hf
      exact v_X2_countWaitingFor_j22 n C hR rec7 hrec7 x1 x2 (some a3) w _ _ _ _ _ ⟨hZ.1, hZ.2.1, hZ.2.2.1, hZ.2.2.2.1, (List.forall_mem_cons.mpr ⟨⟨Nat.succ_ne_zero _, (fun q hq => by cases hq; exact (hZ.k 0 rfl rfl))⟩, (fun _ hq => absurd hq List.not_mem_nil)⟩), hZ.2.2.2.2.2⟩ (lv_sub hl [0, 1, 2] rfl) hf
    · replace hf := wd_ite_p h4 hf
      have hf9 := wd_let_e hf; clear hf; obtain ⟨v8, e9, hf⟩ := hf9
      refine lv_iinc (k := 1) (v := v8) (lv' := [(2, .int v8), (1, .int x1), (3, .ref a3)]) hx hb dX2_countWaitingFor_19 hl rfl (by rw [← e9]; rfl) (by decide) rfl ?_; clear hl; intro ls hl
      exact v_X2_countWaitingFor_j22 n C hR rec7 hrec7 x1 v8 (some a3) w _ _ _ _ _ ⟨hZ.1, hZ.2.1, hZ.2.2.1, hZ.2.2.2.1, (List.forall_mem_cons.mpr ⟨⟨Nat.succ_ne_zero _, (fun q hq => by cases hq; exact (hZ.k 0 rfl rfl))⟩, (fun _ hq => absurd hq List.not_mem_nil)⟩), hZ.2.2.2.2.2⟩ (lv_sub hl [1, 0, 2] rfl) hf

theorem v_X2_countWaitingFor_l7 {p : Program} {l : Launch} {e : Env} {R : Room} {s : State} {m : MethodId} {args : Array Value} {below : List Frame} {meth : Method} {c : Code} {E : wd_E} {w0 : Wd} {r' : Int32} {w' : Wd} (n : Nat) (C : wd_X p s m args meth c cX2_countWaitingFor RX2 4 (some .int) "countWaitingFor" E) (hR : 0 ≤ R.frames ∧ 0 ≤ R.locals) : ∀ (k : Nat) (x1 : Int32) (x2 : Int32) (x3 : Option Nat) (w : Wd) (H : Heap) (locs : List Loc) (cells slots : Nat) (ls : Array Slot), wd_Z E w0 R s w H locs cells slots [(x3, 5)] → lv_has ls 4 [(1, .int x1), (2, .int x2), (3, va_rf x3)] → wd_lp4 (f_X2_countWaitingFor_l7 n) k x1 x2 x3 w = some (r', w') → W p l e R s m args below meth c H locs cells slots (wd_fin E w0 (some (.int r')) w' True R args s below) (F0 m 7 ls []) := by
  intro k
  induction k with
  | zero => intro _ _ _ _ _ _ _ _ _ _ _ hf; cases hf
  | succ k ih =>
    intro x1 x2 x3 w H locs cells slots ls hZ hl hf
    exact v_X2_countWaitingFor_b7 n C hR (wd_lp4 (f_X2_countWaitingFor_l7 n) k) ih x1 x2 x3 w H locs cells slots ls hZ hl hf

set_option maxHeartbeats 4000000 in
set_option maxRecDepth 100000 in
theorem c_X2_countWaitingFor (l : Launch) (E : wd_E) (n : Nat) (w : Wd) (this : Nat) (p0 : Int32) (r' : Int32) (w' : Wd) (k_this : wd_K w this = 3) (hf : f_X2_countWaitingFor n w this p0 = some (r', w')) : wd_C l E yX2_countWaitingFor cX2_countWaitingFor 4 (some .int) 0 0 [.ref this, .int p0] w (some (.int r')) w' True := by
  refine wd_ofW (own := RX2) (nm := "countWaitingFor") (ks := [(some this, 3)]) (lv := [(0, .ref this), (1, .int p0)]) (by decide) rfl rfl (Nat.le_of_ble_eq_true rfl) rfl (List.forall_mem_cons.mpr ⟨⟨Nat.succ_ne_zero _, fun q hq => by cases hq; exact k_this⟩, (fun _ hq => absurd hq List.not_mem_nil)⟩) ?_
  intro p e s m args below meth c R H locs cells slots ls C hR hZ hl
  obtain ⟨hx, hb, hr, hml, hts, hown, hlocks, hmn, hK⟩ := id C
  unfold f_X2_countWaitingFor at hf
  refine lv_iconst (v := 0) hx hb dX2_countWaitingFor_0 (by decide) ?_
  refine lv_istore_n (i := 2) (lv' := [(2, .int (0 : Int32)), (0, .ref this), (1, .int p0)]) hx hb dX2_countWaitingFor_1 rfl hl (by decide) rfl ?_; clear hl; intro ls hl
  refine lv_aload_n (i := 0) hx hb dX2_countWaitingFor_2 rfl (lv_at hl 1 rfl) ?_
  refine z_getR (tk := 4) fd_206 rfl hx hb hts hown hK hZ (hZ.k 0 rfl rfl) tw_218 dX2_countWaitingFor_3 ?_; clear hZ; intro hZ
  have hf9 := wd_let_e hf; clear hf; obtain ⟨v1, e2, hf⟩ := hf9
  rw [e2]
  rw [e2] at hZ
  refine z_astore_n (i := 3) (lv' := [(3, va_rf v1), (2, .int (0 : Int32)), (0, .ref this), (1, .int p0)]) hx hb dX2_countWaitingFor_6 rfl hl (by decide) rfl ?_; clear hl; intro ls hl
  exact v_X2_countWaitingFor_l7 n C hR n p0 (0 : Int32) v1 w _ _ _ _ _ ⟨hZ.1, hZ.2.1, hZ.2.2.1, hZ.2.2.2.1, (List.forall_mem_cons.mpr ⟨⟨Nat.succ_ne_zero _, (fun q hq => hZ.k 0 rfl hq)⟩, (fun _ hq => absurd hq List.not_mem_nil)⟩), hZ.2.2.2.2.2⟩ (lv_sub hl [3, 1, 0] rfl) hf

def f_X2_takeWaiting (n : Nat) (w : Wd) (this : Nat) : Option (Option Nat × Wd) :=
  wd_let (wd_R w 206 this) fun v1 =>
  wd_let (wd_sR w 206 this none) fun w3 =>
  wd_let (wd_sR w3 207 this none) fun w5 =>
  wd_let (wd_sI w5 201 this (0 : Int32)) fun w7 =>
  some (v1, w7)
set_option maxHeartbeats 4000000 in
set_option maxRecDepth 100000 in
theorem c_X2_takeWaiting (l : Launch) (E : wd_E) (n : Nat) (w : Wd) (this : Nat) (r' : Option Nat) (w' : Wd) (k_this : wd_K w this = 3) (hf : f_X2_takeWaiting n w this = some (r', w')) : wd_C l E yX2_takeWaiting cX2_takeWaiting 2 (some (.object "SeamarkNet$Packet")) 0 0 [.ref this] w (some (va_rf r')) w' (∀ q, r' = some q → wd_K w' q = 5) := by
  refine wd_ofW (own := RX2) (nm := "takeWaiting") (ks := [(some this, 3)]) (lv := [(0, .ref this)]) (by decide) rfl rfl (Nat.le_of_ble_eq_true rfl) rfl (List.forall_mem_cons.mpr ⟨⟨Nat.succ_ne_zero _, fun q hq => by cases hq; exact k_this⟩, (fun _ hq => absurd hq List.not_mem_nil)⟩) ?_
  intro p e s m args below meth c R H locs cells slots ls C hR hZ hl
  obtain ⟨hx, hb, hr, hml, hts, hown, hlocks, hmn, hK⟩ := id C
  unfold f_X2_takeWaiting at hf
  refine lv_aload_n (i := 0) hx hb dX2_takeWaiting_0 rfl (lv_at hl 0 rfl) ?_
  refine z_getR (tk := 4) fd_206 rfl hx hb hts hown hK hZ (hZ.k 0 rfl rfl) tw_218 dX2_takeWaiting_1 ?_; clear hZ; intro hZ
  have hf9 := wd_let_e hf; clear hf; obtain ⟨v1, e2, hf⟩ := hf9
  rw [e2]
  rw [e2] at hZ
  refine z_astore_n (i := 1) (lv' := [(1, va_rf v1), (0, .ref this)]) hx hb dX2_takeWaiting_4 rfl hl (by decide) rfl ?_; clear hl; intro ls hl
  refine lv_aload_n (i := 0) hx hb dX2_takeWaiting_5 rfl (lv_at hl 1 rfl) ?_
  refine z_null hx hb dX2_takeWaiting_6 ?_
  refine z_putR (r := none) rfl fd_206 cok_2 (tk := 4) rfl (fun q hq => by cases hq) rfl rfl (wd_obO _) hx hb hts hown hK hZ (hZ.k 1 rfl rfl) tw_218 dX2_takeWaiting_7 ?_; clear hZ; intro H locs hZ
  have hf9 := wd_let_e hf; clear hf; obtain ⟨w3, e4, hf⟩ := hf9
  rw [e4] at hZ
  refine lv_aload_n (i := 0) hx hb dX2_takeWaiting_10 rfl (lv_at hl 1 rfl) ?_
  refine z_null hx hb dX2_takeWaiting_11 ?_
  refine z_putR (r := none) rfl fd_207 cok_2 (tk := 4) rfl (fun q hq => by cases hq) rfl rfl (wd_obO _) hx hb hts hown hK hZ (hZ.k 1 rfl rfl) tw_219 dX2_takeWaiting_12 ?_; clear hZ; intro H locs hZ
  have hf9 := wd_let_e hf; clear hf; obtain ⟨w5, e6, hf⟩ := hf9
  rw [e6] at hZ
  refine lv_aload_n (i := 0) hx hb dX2_takeWaiting_15 rfl (lv_at hl 1 rfl) ?_
  refine lv_iconst (v := 0) hx hb dX2_takeWaiting_16 (by decide) ?_
  refine z_putI fd_201 cok_2 rfl rfl rfl rfl rfl hx hb hts hown hK hZ (hZ.k 1 rfl rfl) tw_207 dX2_takeWaiting_17 ?_; clear hZ; intro H locs hZ
  have hf9 := wd_let_e hf; clear hf; obtain ⟨w7, e8, hf⟩ := hf9
  rw [e8] at hZ
  refine z_aload_n (i := 1) hx hb dX2_takeWaiting_20 rfl (lv_at hl 0 rfl) ?_
  obtain ⟨rfl, rfl⟩ := Prod.mk.inj (Option.some.inj hf)
  exact z_aret rfl hx hb hr hlocks hZ (fun q hq => hZ.k 0 rfl hq) dX2_takeWaiting_21

def f_X4_isPiece_j14 (n : Nat) (w : Wd) : Option (Int32 × Wd) :=
  some ((1 : Int32), w)
def f_X4_isPiece (n : Nat) (w : Wd) (this : Nat) : Option (Int32 × Wd) :=
  if (wd_I w 407 this) = 0 then
    if (wd_I w 409 this) = 0 then
      some ((0 : Int32), w)
    else
      f_X4_isPiece_j14 n w
  else
    f_X4_isPiece_j14 n w
set_option maxHeartbeats 4000000 in
set_option maxRecDepth 100000 in
theorem v_X4_isPiece_j14 {p : Program} {l : Launch} {e : Env} {R : Room} {s : State} {m : MethodId} {args : Array Value} {below : List Frame} {meth : Method} {c : Code} {E : wd_E} {w0 : Wd} {r' : Int32} {w' : Wd} (n : Nat) (C : wd_X p s m args meth c cX4_isPiece RX4 1 (some .boolean) "isPiece" E) (hR : 0 ≤ R.frames ∧ 0 ≤ R.locals) (w : Wd) (H : Heap) (locs : List Loc) (cells slots : Nat) (ls : Array Slot) (hZ : wd_Z E w0 R s w H locs cells slots []) (hl : lv_has ls 1 []) (hf : f_X4_isPiece_j14 n w = some (r', w')) : W p l e R s m args below meth c H locs cells slots (wd_fin E w0 (some (.int r')) w' True R args s below) (F0 m 14 ls []) := by
  obtain ⟨hx, hb, hr, hml, hts, hown, hlocks, hmn, hK⟩ := id C
  unfold f_X4_isPiece_j14 at hf
  refine lv_iconst (v := 1) hx hb dX4_isPiece_14 (by decide) ?_
  refine lv_goto (tgt := 19) hx hb dX4_isPiece_15 (by decide) ?_
  obtain ⟨rfl, rfl⟩ := Prod.mk.inj (Option.some.inj hf)
  exact z_zret (by decide) hx hb hr hlocks hZ trivial dX4_isPiece_19

set_option maxHeartbeats 4000000 in
set_option maxRecDepth 100000 in
theorem c_X4_isPiece (l : Launch) (E : wd_E) (n : Nat) (w : Wd) (this : Nat) (r' : Int32) (w' : Wd) (k_this : wd_K w this = 5) (hf : f_X4_isPiece n w this = some (r', w')) : wd_C l E yX4_isPiece cX4_isPiece 1 (some .boolean) 0 0 [.ref this] w (some (.int r')) w' True := by
  refine wd_ofW (own := RX4) (nm := "isPiece") (ks := [(some this, 5)]) (lv := [(0, .ref this)]) (by decide) rfl rfl (Nat.le_of_ble_eq_true rfl) rfl (List.forall_mem_cons.mpr ⟨⟨Nat.succ_ne_zero _, fun q hq => by cases hq; exact k_this⟩, (fun _ hq => absurd hq List.not_mem_nil)⟩) ?_
  intro p e s m args below meth c R H locs cells slots ls C hR hZ hl
  obtain ⟨hx, hb, hr, hml, hts, hown, hlocks, hmn, hK⟩ := id C
  unfold f_X4_isPiece at hf
  refine lv_aload_n (i := 0) hx hb dX4_isPiece_0 rfl (lv_at hl 0 rfl) ?_
  refine z_getI fd_407 rfl hx hb hts hown hK hZ (hZ.k 0 rfl rfl) tw_705 dX4_isPiece_1 ?_
  refine lv_if_ne (tgt := 14) hx hb dX4_isPiece_4 (by decide) (fun h1 => ?_) (fun h1 => ?_)
  · replace hf := wd_ite_n h1 hf
    exact v_X4_isPiece_j14 n C hR w _ _ _ _ _ ⟨hZ.1, hZ.2.1, hZ.2.2.1, hZ.2.2.2.1, (fun _ hq => absurd hq List.not_mem_nil), hZ.2.2.2.2.2⟩ (lv_sub hl [] rfl) hf
  · replace hf := wd_ite_p h1 hf
    refine lv_aload_n (i := 0) hx hb dX4_isPiece_7 rfl (lv_at hl 0 rfl) ?_
    refine z_getI fd_409 rfl hx hb hts hown hK hZ (hZ.k 0 rfl rfl) tw_712 dX4_isPiece_8 ?_
    refine lv_if_eq (tgt := 18) hx hb dX4_isPiece_11 (by decide) (fun h2 => ?_) (fun h2 => ?_)
    · replace hf := wd_ite_p h2 hf
      refine lv_iconst (v := 0) hx hb dX4_isPiece_18 (by decide) ?_
      obtain ⟨rfl, rfl⟩ := Prod.mk.inj (Option.some.inj hf)
      exact z_zret (by decide) hx hb hr hlocks hZ trivial dX4_isPiece_19
    · replace hf := wd_ite_n h2 hf
      exact v_X4_isPiece_j14 n C hR w _ _ _ _ _ ⟨hZ.1, hZ.2.1, hZ.2.2.1, hZ.2.2.2.1, (fun _ hq => absurd hq List.not_mem_nil), hZ.2.2.2.2.2⟩ (lv_sub hl [] rfl) hf

def f_X2_findHeap_j44 (n : Nat) (rec2 : Nat → Option Nat → Int32 → Wd → Option (Int32 × Wd)) (x0 : Nat) (x1 : Option Nat) (x2 : Int32) (w : Wd) : Option (Int32 × Wd) :=
  wd_let (x2 + 1) fun v7 =>
  rec2 x0 x1 v7 w
def f_X2_findHeap_l2 (n : Nat) (rec2 : Nat → Option Nat → Int32 → Wd → Option (Int32 × Wd)) (x0 : Nat) (x1 : Option Nat) (x2 : Int32) (w : Wd) : Option (Int32 × Wd) :=
  if (wd_I w 202 x0) ≤ x2 then
    some ((-1 : Int32), w)
  else
    Option.bind (wd_R w 208 x0) fun a2 =>
    wd_gd (x2 < 0 ∨ wd_N w a2 ≤ x2.toNatClampNeg) <|
    Option.bind (wd_Q w a2 x2.toNatClampNeg) fun a4 =>
    Option.bind x1 fun a5 =>
    if (wd_I w 100 a4) = (wd_I w 401 a5) then
      Option.bind (wd_R w 208 x0) fun a9 =>
      wd_gd (x2 < 0 ∨ wd_N w a9 ≤ x2.toNatClampNeg) <|
      Option.bind (wd_Q w a9 x2.toNatClampNeg) fun a11 =>
      if (wd_I w 101 a11) = (wd_I w 405 a5) then
        some (x2, w)
      else
        f_X2_findHeap_j44 n rec2 x0 (some a5) x2 w
    else
      f_X2_findHeap_j44 n rec2 x0 (some a5) x2 w
def f_X2_findHeap (n : Nat) (w : Wd) (this : Nat) (p0 : Option Nat) : Option (Int32 × Wd) :=
  wd_lp4 (f_X2_findHeap_l2 n) n this p0 (0 : Int32) w
set_option maxHeartbeats 4000000 in
set_option maxRecDepth 100000 in
theorem v_X2_findHeap_j44 {p : Program} {l : Launch} {e : Env} {R : Room} {s : State} {m : MethodId} {args : Array Value} {below : List Frame} {meth : Method} {c : Code} {E : wd_E} {w0 : Wd} {r' : Int32} {w' : Wd} (n : Nat) (C : wd_X p s m args meth c cX2_findHeap RX2 3 (some .int) "findHeap" E) (hR : 0 ≤ R.frames ∧ 0 ≤ R.locals) (rec2 : Nat → Option Nat → Int32 → Wd → Option (Int32 × Wd)) (hrec2 : ∀ (x0_ : Nat) (x1_ : Option Nat) (x2_ : Int32) (w_ : Wd) (H : Heap) (locs : List Loc) (cells slots : Nat) (ls : Array Slot), wd_Z E w0 R s w_ H locs cells slots [(some x0_, 3), (x1_, 5)] → lv_has ls 3 [(0, .ref x0_), (1, va_rf x1_), (2, .int x2_)] → rec2 x0_ x1_ x2_ w_ = some (r', w') → W p l e R s m args below meth c H locs cells slots (wd_fin E w0 (some (.int r')) w' True R args s below) (F0 m 2 ls [])) (x0 : Nat) (x1 : Option Nat) (x2 : Int32) (w : Wd) (H : Heap) (locs : List Loc) (cells slots : Nat) (ls : Array Slot) (hZ : wd_Z E w0 R s w H locs cells slots [(some x0, 3), (x1, 5)]) (hl : lv_has ls 3 [(0, .ref x0), (1, va_rf x1), (2, .int x2)]) (hf : f_X2_findHeap_j44 n rec2 x0 x1 x2 w = some (r', w')) : W p l e R s m args below meth c H locs cells slots (wd_fin E w0 (some (.int r')) w' True R args s below) (F0 m 44 ls []) := by
  obtain ⟨hx, hb, hr, hml, hts, hown, hlocks, hmn, hK⟩ := id C
  unfold f_X2_findHeap_j44 at hf
  have hf9 := wd_let_e hf; clear hf; obtain ⟨v7, e8, hf⟩ := hf9
  refine lv_iinc (k := 2) (v := v7) (lv' := [(2, .int v7), (0, .ref x0), (1, va_rf x1)]) hx hb dX2_findHeap_44 hl rfl (by rw [← e8]; rfl) (by decide) (by simp [va_rf_cat, va_cat_r, va_cat_i, va_cat_l, va_cat_d]) ?_; clear hl; intro ls hl
  refine lv_goto (tgt := 2) hx hb dX2_findHeap_47 (by decide) ?_
  exact hrec2 x0 x1 v7 w _ _ _ _ _ ⟨hZ.1, hZ.2.1, hZ.2.2.1, hZ.2.2.2.1, (List.forall_mem_cons.mpr ⟨⟨Nat.succ_ne_zero _, (fun q hq => by cases hq; exact (hZ.k 0 rfl rfl))⟩, (List.forall_mem_cons.mpr ⟨⟨Nat.succ_ne_zero _, (fun q hq => hZ.k 1 rfl hq)⟩, (fun _ hq => absurd hq List.not_mem_nil)⟩)⟩), hZ.2.2.2.2.2⟩ (lv_sub hl [1, 2, 0] rfl) hf

set_option maxHeartbeats 4000000 in
set_option maxRecDepth 100000 in
theorem v_X2_findHeap_b2 {p : Program} {l : Launch} {e : Env} {R : Room} {s : State} {m : MethodId} {args : Array Value} {below : List Frame} {meth : Method} {c : Code} {E : wd_E} {w0 : Wd} {r' : Int32} {w' : Wd} (n : Nat) (C : wd_X p s m args meth c cX2_findHeap RX2 3 (some .int) "findHeap" E) (hR : 0 ≤ R.frames ∧ 0 ≤ R.locals) (rec2 : Nat → Option Nat → Int32 → Wd → Option (Int32 × Wd)) (hrec2 : ∀ (x0_ : Nat) (x1_ : Option Nat) (x2_ : Int32) (w_ : Wd) (H : Heap) (locs : List Loc) (cells slots : Nat) (ls : Array Slot), wd_Z E w0 R s w_ H locs cells slots [(some x0_, 3), (x1_, 5)] → lv_has ls 3 [(0, .ref x0_), (1, va_rf x1_), (2, .int x2_)] → rec2 x0_ x1_ x2_ w_ = some (r', w') → W p l e R s m args below meth c H locs cells slots (wd_fin E w0 (some (.int r')) w' True R args s below) (F0 m 2 ls [])) (x0 : Nat) (x1 : Option Nat) (x2 : Int32) (w : Wd) (H : Heap) (locs : List Loc) (cells slots : Nat) (ls : Array Slot) (hZ : wd_Z E w0 R s w H locs cells slots [(some x0, 3), (x1, 5)]) (hl : lv_has ls 3 [(0, .ref x0), (1, va_rf x1), (2, .int x2)]) (hf : f_X2_findHeap_l2 n rec2 x0 x1 x2 w = some (r', w')) : W p l e R s m args below meth c H locs cells slots (wd_fin E w0 (some (.int r')) w' True R args s below) (F0 m 2 ls []) := by
  obtain ⟨hx, hb, hr, hml, hts, hown, hlocks, hmn, hK⟩ := id C
  unfold f_X2_findHeap_l2 at hf
  refine lv_iload_n (i := 2) hx hb dX2_findHeap_2 rfl (lv_at hl 2 rfl) ?_
  refine lv_aload_n (i := 0) hx hb dX2_findHeap_3 rfl (lv_at hl 0 rfl) ?_
  refine z_getI fd_202 rfl hx hb hts hown hK hZ (hZ.k 0 rfl rfl) tw_210 dX2_findHeap_4 ?_
  refine lv_icmp_ge (tgt := 50) hx hb dX2_findHeap_7 (by decide) (fun h1 => ?_) (fun h1 => ?_)
  · replace hf := wd_ite_p h1 hf
    refine lv_iconst (v := -1) hx hb dX2_findHeap_50 (by decide) ?_
    obtain ⟨rfl, rfl⟩ := Prod.mk.inj (Option.some.inj hf)
    exact z_iret hx hb hr hlocks hZ trivial dX2_findHeap_51
  · replace hf := wd_ite_n h1 hf
    refine lv_aload_n (i := 0) hx hb dX2_findHeap_10 rfl (lv_at hl 0 rfl) ?_
    refine z_getR (tk := 24) fd_208 rfl hx hb hts hown hK hZ (hZ.k 0 rfl rfl) tw_220 dX2_findHeap_11 ?_; clear hZ; intro hZ
    refine lv_iload_n (i := 2) hx hb dX2_findHeap_14 rfl (lv_at hl 2 rfl) ?_
    have hf9 := Option.bind_eq_some_iff.mp hf; clear hf; obtain ⟨a2, ha2, hf⟩ := hf9
    replace hZ := hZ.add (r := some a2) (k := 25) (Nat.succ_ne_zero _) (fun q hq => by cases hq; exact hZ.k 0 rfl ha2)
    rw [ha2]
    have hf9 := wd_gd_e hf; clear hf; obtain ⟨h3, hf⟩ := hf9
    refine z_aald (k := 25) (by decide) (by decide) (tk := 1) rfl hx hb hK hZ (hZ.k 0 rfl rfl) h3 dX2_findHeap_15 ?_; clear hZ; intro hZ
    have hf9 := Option.bind_eq_some_iff.mp hf; clear hf; obtain ⟨a4, ha4, hf⟩ := hf9
    replace hZ := hZ.add (r := some a4) (k := 2) (Nat.succ_ne_zero _) (fun q hq => by cases hq; exact hZ.k 0 rfl ha4)
    rw [ha4]
    refine z_getI fd_100 rfl hx hb hts hown hK hZ (hZ.k 0 rfl rfl) tw_193 dX2_findHeap_16 ?_
    refine z_aload_n (i := 1) hx hb dX2_findHeap_19 rfl (lv_at hl 1 rfl) ?_
    have hf9 := Option.bind_eq_some_iff.mp hf; clear hf; obtain ⟨a5, ha5, hf⟩ := hf9
    subst ha5
    replace hl : lv_has ls 3 [(0, .ref x0), (1, .ref a5), (2, .int x2)] := hl
    replace hZ : wd_Z E w0 R s w H locs cells slots [(some a4, 2), ((wd_Q w a2 x2.toNatClampNeg), 2), (some a2, 25), ((wd_R w 208 x0), 25), (some x0, 3), (some a5, 5)] := hZ
    refine z_getI fd_401 rfl hx hb hts hown hK hZ (hZ.k 5 rfl rfl) tw_686 dX2_findHeap_20 ?_
    refine lv_icmp_ne (tgt := 44) hx hb dX2_findHeap_23 (by decide) (fun h6 => ?_) (fun h6 => ?_)
    · replace hf := wd_ite_n h6 hf
      exact v_X2_findHeap_j44 n C hR rec2 hrec2 x0 (some a5) x2 w _ _ _ _ _ ⟨hZ.1, hZ.2.1, hZ.2.2.1, hZ.2.2.2.1, (List.forall_mem_cons.mpr ⟨⟨Nat.succ_ne_zero _, (fun q hq => by cases hq; exact (hZ.k 4 rfl rfl))⟩, (List.forall_mem_cons.mpr ⟨⟨Nat.succ_ne_zero _, (fun q hq => by cases hq; exact (hZ.k 5 rfl rfl))⟩, (fun _ hq => absurd hq List.not_mem_nil)⟩)⟩), hZ.2.2.2.2.2⟩ (lv_sub hl [0, 1, 2] rfl) hf
    · replace hf := wd_ite_p h6 hf
      refine lv_aload_n (i := 0) hx hb dX2_findHeap_26 rfl (lv_at hl 0 rfl) ?_
      refine z_getR (tk := 24) fd_208 rfl hx hb hts hown hK hZ (hZ.k 4 rfl rfl) tw_220 dX2_findHeap_27 ?_; clear hZ; intro hZ
      refine lv_iload_n (i := 2) hx hb dX2_findHeap_30 rfl (lv_at hl 2 rfl) ?_
      have hf9 := Option.bind_eq_some_iff.mp hf; clear hf; obtain ⟨a9, ha9, hf⟩ := hf9
      replace hZ := hZ.add (r := some a9) (k := 25) (Nat.succ_ne_zero _) (fun q hq => by cases hq; exact hZ.k 0 rfl ha9)
      rw [ha9]
      have hf9 := wd_gd_e hf; clear hf; obtain ⟨h10, hf⟩ := hf9
      refine z_aald (k := 25) (by decide) (by decide) (tk := 1) rfl hx hb hK hZ (hZ.k 0 rfl rfl) h10 dX2_findHeap_31 ?_; clear hZ; intro hZ
      have hf9 := Option.bind_eq_some_iff.mp hf; clear hf; obtain ⟨a11, ha11, hf⟩ := hf9
      replace hZ := hZ.add (r := some a11) (k := 2) (Nat.succ_ne_zero _) (fun q hq => by cases hq; exact hZ.k 0 rfl ha11)
      rw [ha11]
      refine z_getI fd_101 rfl hx hb hts hown hK hZ (hZ.k 0 rfl rfl) tw_195 dX2_findHeap_32 ?_
      refine lv_aload_n (i := 1) hx hb dX2_findHeap_35 rfl (lv_at hl 1 rfl) ?_
      refine z_getI fd_405 rfl hx hb hts hown hK hZ (hZ.k 9 rfl rfl) tw_701 dX2_findHeap_36 ?_
      refine lv_icmp_ne (tgt := 44) hx hb dX2_findHeap_39 (by decide) (fun h12 => ?_) (fun h12 => ?_)
      · replace hf := wd_ite_n h12 hf
        exact v_X2_findHeap_j44 n C hR rec2 hrec2 x0 (some a5) x2 w _ _ _ _ _ ⟨hZ.1, hZ.2.1, hZ.2.2.1, hZ.2.2.2.1, (List.forall_mem_cons.mpr ⟨⟨Nat.succ_ne_zero _, (fun q hq => by cases hq; exact (hZ.k 8 rfl rfl))⟩, (List.forall_mem_cons.mpr ⟨⟨Nat.succ_ne_zero _, (fun q hq => by cases hq; exact (hZ.k 9 rfl rfl))⟩, (fun _ hq => absurd hq List.not_mem_nil)⟩)⟩), hZ.2.2.2.2.2⟩ (lv_sub hl [0, 1, 2] rfl) hf
      · replace hf := wd_ite_p h12 hf
        refine lv_iload_n (i := 2) hx hb dX2_findHeap_42 rfl (lv_at hl 2 rfl) ?_
        obtain ⟨rfl, rfl⟩ := Prod.mk.inj (Option.some.inj hf)
        exact z_iret hx hb hr hlocks hZ trivial dX2_findHeap_43

theorem v_X2_findHeap_l2 {p : Program} {l : Launch} {e : Env} {R : Room} {s : State} {m : MethodId} {args : Array Value} {below : List Frame} {meth : Method} {c : Code} {E : wd_E} {w0 : Wd} {r' : Int32} {w' : Wd} (n : Nat) (C : wd_X p s m args meth c cX2_findHeap RX2 3 (some .int) "findHeap" E) (hR : 0 ≤ R.frames ∧ 0 ≤ R.locals) : ∀ (k : Nat) (x0 : Nat) (x1 : Option Nat) (x2 : Int32) (w : Wd) (H : Heap) (locs : List Loc) (cells slots : Nat) (ls : Array Slot), wd_Z E w0 R s w H locs cells slots [(some x0, 3), (x1, 5)] → lv_has ls 3 [(0, .ref x0), (1, va_rf x1), (2, .int x2)] → wd_lp4 (f_X2_findHeap_l2 n) k x0 x1 x2 w = some (r', w') → W p l e R s m args below meth c H locs cells slots (wd_fin E w0 (some (.int r')) w' True R args s below) (F0 m 2 ls []) := by
  intro k
  induction k with
  | zero => intro _ _ _ _ _ _ _ _ _ _ _ hf; cases hf
  | succ k ih =>
    intro x0 x1 x2 w H locs cells slots ls hZ hl hf
    exact v_X2_findHeap_b2 n C hR (wd_lp4 (f_X2_findHeap_l2 n) k) ih x0 x1 x2 w H locs cells slots ls hZ hl hf

set_option maxHeartbeats 4000000 in
set_option maxRecDepth 100000 in
theorem c_X2_findHeap (l : Launch) (E : wd_E) (n : Nat) (w : Wd) (this : Nat) (p0 : Option Nat) (r' : Int32) (w' : Wd) (k_this : wd_K w this = 3) (k_p0 : ∀ q, p0 = some q → wd_K w q = 5) (hf : f_X2_findHeap n w this p0 = some (r', w')) : wd_C l E yX2_findHeap cX2_findHeap 3 (some .int) 0 0 [.ref this, va_rf p0] w (some (.int r')) w' True := by
  refine wd_ofW (own := RX2) (nm := "findHeap") (ks := [(some this, 3), (p0, 5)]) (lv := [(0, .ref this), (1, va_rf p0)]) (by decide) rfl rfl (by simp [lg_sl, va_rf_cat, va_cat_r, va_cat_i, va_cat_l, va_cat_d]) (by simp [lv_args, va_rf_cat, va_cat_r, va_cat_i, va_cat_l, va_cat_d]) (List.forall_mem_cons.mpr ⟨⟨Nat.succ_ne_zero _, fun q hq => by cases hq; exact k_this⟩, (List.forall_mem_cons.mpr ⟨⟨Nat.succ_ne_zero _, k_p0⟩, (fun _ hq => absurd hq List.not_mem_nil)⟩)⟩) ?_
  intro p e s m args below meth c R H locs cells slots ls C hR hZ hl
  obtain ⟨hx, hb, hr, hml, hts, hown, hlocks, hmn, hK⟩ := id C
  unfold f_X2_findHeap at hf
  refine lv_iconst (v := 0) hx hb dX2_findHeap_0 (by decide) ?_
  refine lv_istore_n (i := 2) (lv' := [(2, .int (0 : Int32)), (0, .ref this), (1, va_rf p0)]) hx hb dX2_findHeap_1 rfl hl (by decide) (by simp [va_rf_cat, va_cat_r, va_cat_i, va_cat_l, va_cat_d]) ?_; clear hl; intro ls hl
  exact v_X2_findHeap_l2 n C hR n this p0 (0 : Int32) w _ _ _ _ _ ⟨hZ.1, hZ.2.1, hZ.2.2.1, hZ.2.2.2.1, (List.forall_mem_cons.mpr ⟨⟨Nat.succ_ne_zero _, (fun q hq => by cases hq; exact (hZ.k 0 rfl rfl))⟩, (List.forall_mem_cons.mpr ⟨⟨Nat.succ_ne_zero _, (fun q hq => hZ.k 1 rfl hq)⟩, (fun _ hq => absurd hq List.not_mem_nil)⟩)⟩), hZ.2.2.2.2.2⟩ (lv_sub hl [1, 2, 0] rfl) hf

def f_X2_dropHeap_l9 (n : Nat) (rec9 : Nat → Option Nat → Int32 → Wd → Option Wd) (x0 : Nat) (x2 : Option Nat) (x3 : Int32) (w : Wd) : Option Wd :=
  if (wd_I w 202 x0) ≤ (x3 + (1 : Int32)) then
    wd_let (wd_sI w 202 x0 ((wd_I w 202 x0) - (1 : Int32))) fun w6 =>
    Option.bind (wd_R w6 208 x0) fun a8 =>
    Option.bind x2 fun a9 =>
    wd_gd ((wd_I w6 202 x0) < 0 ∨ wd_N w6 a8 ≤ (wd_I w6 202 x0).toNatClampNeg) <|
    wd_let (wd_sQ w6 a8 (wd_I w6 202 x0).toNatClampNeg (some a9)) fun w11 =>
    some w11
  else
    Option.bind (wd_R w 208 x0) fun a13 =>
    wd_gd ((x3 + (1 : Int32)) < 0 ∨ wd_N w a13 ≤ (x3 + (1 : Int32)).toNatClampNeg) <|
    Option.bind (wd_Q w a13 (x3 + (1 : Int32)).toNatClampNeg) fun a15 =>
    wd_gd (x3 < 0 ∨ wd_N w a13 ≤ x3.toNatClampNeg) <|
    wd_let (wd_sQ w a13 x3.toNatClampNeg (some a15)) fun w17 =>
    wd_let (x3 + 1) fun v19 =>
    rec9 x0 x2 v19 w17
def f_X2_dropHeap (n : Nat) (w : Wd) (this : Nat) (p0 : Int32) : Option Wd :=
  Option.bind (wd_R w 208 this) fun a1 =>
  wd_gd (p0 < 0 ∨ wd_N w a1 ≤ p0.toNatClampNeg) <|
  wd_let (wd_Q w a1 p0.toNatClampNeg) fun v3 =>
  wd_lp4 (f_X2_dropHeap_l9 n) n this v3 p0 w
set_option maxHeartbeats 4000000 in
set_option maxRecDepth 100000 in
theorem v_X2_dropHeap_b9 {p : Program} {l : Launch} {e : Env} {R : Room} {s : State} {m : MethodId} {args : Array Value} {below : List Frame} {meth : Method} {c : Code} {E : wd_E} {w0 : Wd} {w' : Wd} (n : Nat) (C : wd_X p s m args meth c cX2_dropHeap RX2 4 none "dropHeap" E) (hR : 0 ≤ R.frames ∧ 0 ≤ R.locals) (rec9 : Nat → Option Nat → Int32 → Wd → Option Wd) (hrec9 : ∀ (x0_ : Nat) (x2_ : Option Nat) (x3_ : Int32) (w_ : Wd) (H : Heap) (locs : List Loc) (cells slots : Nat) (ls : Array Slot), wd_Z E w0 R s w_ H locs cells slots [(some x0_, 3), (x2_, 2)] → lv_has ls 4 [(0, .ref x0_), (2, va_rf x2_), (3, .int x3_)] → rec9 x0_ x2_ x3_ w_ = some w' → W p l e R s m args below meth c H locs cells slots (wd_fin E w0 none w' True R args s below) (F0 m 9 ls [])) (x0 : Nat) (x2 : Option Nat) (x3 : Int32) (w : Wd) (H : Heap) (locs : List Loc) (cells slots : Nat) (ls : Array Slot) (hZ : wd_Z E w0 R s w H locs cells slots [(some x0, 3), (x2, 2)]) (hl : lv_has ls 4 [(0, .ref x0), (2, va_rf x2), (3, .int x3)]) (hf : f_X2_dropHeap_l9 n rec9 x0 x2 x3 w = some w') : W p l e R s m args below meth c H locs cells slots (wd_fin E w0 none w' True R args s below) (F0 m 9 ls []) := by
  obtain ⟨hx, hb, hr, hml, hts, hown, hlocks, hmn, hK⟩ := id C
  unfold f_X2_dropHeap_l9 at hf
  refine lv_iload_n (i := 3) hx hb dX2_dropHeap_9 rfl (lv_at hl 2 rfl) ?_
  refine lv_iconst (v := 1) hx hb dX2_dropHeap_10 (by decide) ?_
  refine lv_iadd hx hb dX2_dropHeap_11 ?_
  refine lv_aload_n (i := 0) hx hb dX2_dropHeap_12 rfl (lv_at hl 0 rfl) ?_
  refine z_getI fd_202 rfl hx hb hts hown hK hZ (hZ.k 0 rfl rfl) tw_210 dX2_dropHeap_13 ?_
  refine lv_icmp_ge (tgt := 39) hx hb dX2_dropHeap_16 (by decide) (fun h5 => ?_) (fun h5 => ?_)
  · replace hf := wd_ite_p h5 hf
    refine lv_aload_n (i := 0) hx hb dX2_dropHeap_39 rfl (lv_at hl 0 rfl) ?_
    refine lv_dup hx hb dX2_dropHeap_40 rfl ?_
    refine z_getI fd_202 rfl hx hb hts hown hK hZ (hZ.k 0 rfl rfl) tw_210 dX2_dropHeap_41 ?_
    refine lv_iconst (v := 1) hx hb dX2_dropHeap_44 (by decide) ?_
    refine lv_isub hx hb dX2_dropHeap_45 ?_
    refine z_putI fd_202 cok_2 rfl rfl rfl rfl rfl hx hb hts hown hK hZ (hZ.k 0 rfl rfl) tw_210 dX2_dropHeap_46 ?_; clear hZ; intro H locs hZ
    have hf9 := wd_let_e hf; clear hf; obtain ⟨w6, e7, hf⟩ := hf9
    rw [e7] at hZ
    refine lv_aload_n (i := 0) hx hb dX2_dropHeap_49 rfl (lv_at hl 0 rfl) ?_
    refine z_getR (tk := 24) fd_208 rfl hx hb hts hown hK hZ (hZ.k 0 rfl rfl) tw_220 dX2_dropHeap_50 ?_; clear hZ; intro hZ
    refine lv_aload_n (i := 0) hx hb dX2_dropHeap_53 rfl (lv_at hl 0 rfl) ?_
    refine z_getI fd_202 rfl hx hb hts hown hK hZ (hZ.k 1 rfl rfl) tw_210 dX2_dropHeap_54 ?_
    refine z_aload_n (i := 2) hx hb dX2_dropHeap_57 rfl (lv_at hl 1 rfl) ?_
    have hf9 := Option.bind_eq_some_iff.mp hf; clear hf; obtain ⟨a8, ha8, hf⟩ := hf9
    replace hZ := hZ.add (r := some a8) (k := 25) (Nat.succ_ne_zero _) (fun q hq => by cases hq; exact hZ.k 0 rfl ha8)
    rw [ha8]
    have hf9 := Option.bind_eq_some_iff.mp hf; clear hf; obtain ⟨a9, ha9, hf⟩ := hf9
    subst ha9
    replace hl : lv_has ls 4 [(0, .ref x0), (2, .ref a9), (3, .int x3)] := hl
    replace hZ : wd_Z E w0 R s w6 H locs cells slots [(some a8, 25), ((wd_R w6 208 x0), 25), (some x0, 3), (some a9, 2)] := hZ
    have hf9 := wd_gd_e hf; clear hf; obtain ⟨h10, hf⟩ := hf9
    refine z_aast (k := 25) (ci := 1) (by decide) (by decide) rfl rfl (by decide) rfl hx hb hK hZ (hZ.k 0 rfl rfl) (hZ.k 3 rfl rfl) h10 dX2_dropHeap_58 ?_; clear hZ; intro H locs hZ
    have hf9 := wd_let_e hf; clear hf; obtain ⟨w11, e12, hf⟩ := hf9
    rw [e12] at hZ
    obtain rfl := Option.some.inj hf
    exact z_vret hx hb hr hlocks hZ trivial dX2_dropHeap_59
  · replace hf := wd_ite_n h5 hf
    refine lv_aload_n (i := 0) hx hb dX2_dropHeap_19 rfl (lv_at hl 0 rfl) ?_
    refine z_getR (tk := 24) fd_208 rfl hx hb hts hown hK hZ (hZ.k 0 rfl rfl) tw_220 dX2_dropHeap_20 ?_; clear hZ; intro hZ
    refine lv_iload_n (i := 3) hx hb dX2_dropHeap_23 rfl (lv_at hl 2 rfl) ?_
    refine lv_aload_n (i := 0) hx hb dX2_dropHeap_24 rfl (lv_at hl 0 rfl) ?_
    refine z_getR (tk := 24) fd_208 rfl hx hb hts hown hK hZ (hZ.k 1 rfl rfl) tw_220 dX2_dropHeap_25 ?_; clear hZ; intro hZ
    refine lv_iload_n (i := 3) hx hb dX2_dropHeap_28 rfl (lv_at hl 2 rfl) ?_
    refine lv_iconst (v := 1) hx hb dX2_dropHeap_29 (by decide) ?_
    refine lv_iadd hx hb dX2_dropHeap_30 ?_
    have hf9 := Option.bind_eq_some_iff.mp hf; clear hf; obtain ⟨a13, ha13, hf⟩ := hf9
    replace hZ := hZ.add (r := some a13) (k := 25) (Nat.succ_ne_zero _) (fun q hq => by cases hq; exact hZ.k 0 rfl ha13)
    rw [ha13]
    have hf9 := wd_gd_e hf; clear hf; obtain ⟨h14, hf⟩ := hf9
    refine z_aald (k := 25) (by decide) (by decide) (tk := 1) rfl hx hb hK hZ (hZ.k 0 rfl rfl) h14 dX2_dropHeap_31 ?_; clear hZ; intro hZ
    have hf9 := Option.bind_eq_some_iff.mp hf; clear hf; obtain ⟨a15, ha15, hf⟩ := hf9
    replace hZ := hZ.add (r := some a15) (k := 2) (Nat.succ_ne_zero _) (fun q hq => by cases hq; exact hZ.k 0 rfl ha15)
    rw [ha15]
    have hf9 := wd_gd_e hf; clear hf; obtain ⟨h16, hf⟩ := hf9
    refine z_aast (k := 25) (ci := 1) (by decide) (by decide) rfl rfl (by decide) rfl hx hb hK hZ (hZ.k 2 rfl rfl) (hZ.k 0 rfl rfl) h16 dX2_dropHeap_32 ?_; clear hZ; intro H locs hZ
    have hf9 := wd_let_e hf; clear hf; obtain ⟨w17, e18, hf⟩ := hf9
    rw [e18] at hZ
    have hf9 := wd_let_e hf; clear hf; obtain ⟨v19, e20, hf⟩ := hf9
    refine lv_iinc (k := 2) (v := v19) (lv' := [(3, .int v19), (0, .ref x0), (2, va_rf x2)]) hx hb dX2_dropHeap_33 hl rfl (by rw [← e20]; rfl) (by decide) (by simp [va_rf_cat, va_cat_r, va_cat_i, va_cat_l, va_cat_d]) ?_; clear hl; intro ls hl
    refine lv_goto (tgt := 9) hx hb dX2_dropHeap_36 (by decide) ?_
    exact hrec9 x0 x2 v19 w17 _ _ _ _ _ ⟨hZ.1, hZ.2.1, hZ.2.2.1, hZ.2.2.2.1, (List.forall_mem_cons.mpr ⟨⟨Nat.succ_ne_zero _, (fun q hq => by cases hq; exact (hZ.k 5 rfl rfl))⟩, (List.forall_mem_cons.mpr ⟨⟨Nat.succ_ne_zero _, (fun q hq => hZ.k 6 rfl hq)⟩, (fun _ hq => absurd hq List.not_mem_nil)⟩)⟩), hZ.2.2.2.2.2⟩ (lv_sub hl [1, 2, 0] rfl) hf

theorem v_X2_dropHeap_l9 {p : Program} {l : Launch} {e : Env} {R : Room} {s : State} {m : MethodId} {args : Array Value} {below : List Frame} {meth : Method} {c : Code} {E : wd_E} {w0 : Wd} {w' : Wd} (n : Nat) (C : wd_X p s m args meth c cX2_dropHeap RX2 4 none "dropHeap" E) (hR : 0 ≤ R.frames ∧ 0 ≤ R.locals) : ∀ (k : Nat) (x0 : Nat) (x2 : Option Nat) (x3 : Int32) (w : Wd) (H : Heap) (locs : List Loc) (cells slots : Nat) (ls : Array Slot), wd_Z E w0 R s w H locs cells slots [(some x0, 3), (x2, 2)] → lv_has ls 4 [(0, .ref x0), (2, va_rf x2), (3, .int x3)] → wd_lp4 (f_X2_dropHeap_l9 n) k x0 x2 x3 w = some w' → W p l e R s m args below meth c H locs cells slots (wd_fin E w0 none w' True R args s below) (F0 m 9 ls []) := by
  intro k
  induction k with
  | zero => intro _ _ _ _ _ _ _ _ _ _ _ hf; cases hf
  | succ k ih =>
    intro x0 x2 x3 w H locs cells slots ls hZ hl hf
    exact v_X2_dropHeap_b9 n C hR (wd_lp4 (f_X2_dropHeap_l9 n) k) ih x0 x2 x3 w H locs cells slots ls hZ hl hf

set_option maxHeartbeats 4000000 in
set_option maxRecDepth 100000 in
theorem c_X2_dropHeap (l : Launch) (E : wd_E) (n : Nat) (w : Wd) (this : Nat) (p0 : Int32) (w' : Wd) (k_this : wd_K w this = 3) (hf : f_X2_dropHeap n w this p0 = some w') : wd_C l E yX2_dropHeap cX2_dropHeap 4 none 0 0 [.ref this, .int p0] w none w' True := by
  refine wd_ofW (own := RX2) (nm := "dropHeap") (ks := [(some this, 3)]) (lv := [(0, .ref this), (1, .int p0)]) (by decide) rfl rfl (Nat.le_of_ble_eq_true rfl) rfl (List.forall_mem_cons.mpr ⟨⟨Nat.succ_ne_zero _, fun q hq => by cases hq; exact k_this⟩, (fun _ hq => absurd hq List.not_mem_nil)⟩) ?_
  intro p e s m args below meth c R H locs cells slots ls C hR hZ hl
  obtain ⟨hx, hb, hr, hml, hts, hown, hlocks, hmn, hK⟩ := id C
  unfold f_X2_dropHeap at hf
  refine lv_aload_n (i := 0) hx hb dX2_dropHeap_0 rfl (lv_at hl 0 rfl) ?_
  refine z_getR (tk := 24) fd_208 rfl hx hb hts hown hK hZ (hZ.k 0 rfl rfl) tw_220 dX2_dropHeap_1 ?_; clear hZ; intro hZ
  refine lv_iload_n (i := 1) hx hb dX2_dropHeap_4 rfl (lv_at hl 1 rfl) ?_
  have hf9 := Option.bind_eq_some_iff.mp hf; clear hf; obtain ⟨a1, ha1, hf⟩ := hf9
  replace hZ := hZ.add (r := some a1) (k := 25) (Nat.succ_ne_zero _) (fun q hq => by cases hq; exact hZ.k 0 rfl ha1)
  rw [ha1]
  have hf9 := wd_gd_e hf; clear hf; obtain ⟨h2, hf⟩ := hf9
  refine z_aald (k := 25) (by decide) (by decide) (tk := 1) rfl hx hb hK hZ (hZ.k 0 rfl rfl) h2 dX2_dropHeap_5 ?_; clear hZ; intro hZ
  have hf9 := wd_let_e hf; clear hf; obtain ⟨v3, e4, hf⟩ := hf9
  rw [e4]
  rw [e4] at hZ
  refine z_astore_n (i := 2) (lv' := [(2, va_rf v3), (0, .ref this), (1, .int p0)]) hx hb dX2_dropHeap_6 rfl hl (by decide) rfl ?_; clear hl; intro ls hl
  refine lv_iload_n (i := 1) hx hb dX2_dropHeap_7 rfl (lv_at hl 2 rfl) ?_
  refine lv_istore_n (i := 3) (lv' := [(3, .int p0), (2, va_rf v3), (0, .ref this), (1, .int p0)]) hx hb dX2_dropHeap_8 rfl hl (by decide) (by simp [va_rf_cat, va_cat_r, va_cat_i, va_cat_l, va_cat_d]) ?_; clear hl; intro ls hl
  exact v_X2_dropHeap_l9 n C hR n this v3 p0 w _ _ _ _ _ ⟨hZ.1, hZ.2.1, hZ.2.2.1, hZ.2.2.2.1, (List.forall_mem_cons.mpr ⟨⟨Nat.succ_ne_zero _, (fun q hq => by cases hq; exact (hZ.k 3 rfl rfl))⟩, (List.forall_mem_cons.mpr ⟨⟨Nat.succ_ne_zero _, (fun q hq => hZ.k 0 rfl hq)⟩, (fun _ hq => absurd hq List.not_mem_nil)⟩)⟩), hZ.2.2.2.2.2⟩ (lv_sub hl [2, 1, 0] rfl) hf

def f_X2_beginHeap_j23 (n : Nat) (x0 : Nat) (x1 : Option Nat) (w : Wd) : Option (Int32 × Wd) :=
  wd_let (wd_I w 202 x0) fun v2 =>
  Option.bind (wd_R w 208 x0) fun a4 =>
  wd_gd (v2 < 0 ∨ wd_N w a4 ≤ v2.toNatClampNeg) <|
  Option.bind (wd_Q w a4 v2.toNatClampNeg) fun a6 =>
  Option.bind (f_X1_begin n w a6 x1) fun w7 =>
  wd_let (wd_sI w7 202 x0 ((wd_I w7 202 x0) + (1 : Int32))) fun w9 =>
  some (v2, w9)
def f_X2_beginHeap (n : Nat) (w : Wd) (this : Nat) (p0 : Option Nat) : Option (Int32 × Wd) :=
  if (wd_I w 202 this) < (3 : Int32) then
    f_X2_beginHeap_j23 n this p0 w
  else
    Option.bind (f_X2_dropHeap n w this (0 : Int32)) fun w11 =>
    wd_let (wd_sI w11 204 this ((wd_I w11 204 this) + (1 : Int32))) fun w13 =>
    f_X2_beginHeap_j23 n this p0 w13
set_option maxHeartbeats 4000000 in
set_option maxRecDepth 100000 in
theorem v_X2_beginHeap_j23 {p : Program} {l : Launch} {e : Env} {R : Room} {s : State} {m : MethodId} {args : Array Value} {below : List Frame} {meth : Method} {c : Code} {E : wd_E} {w0 : Wd} {r' : Int32} {w' : Wd} (n : Nat) (C : wd_X p s m args meth c cX2_beginHeap RX2 3 (some .int) "beginHeap" E) (hR : 1 ≤ R.frames ∧ 23 ≤ R.locals) (x0 : Nat) (x1 : Option Nat) (w : Wd) (H : Heap) (locs : List Loc) (cells slots : Nat) (ls : Array Slot) (hZ : wd_Z E w0 R s w H locs cells slots [(some x0, 3), (x1, 5)]) (hl : lv_has ls 3 [(0, .ref x0), (1, va_rf x1)]) (hf : f_X2_beginHeap_j23 n x0 x1 w = some (r', w')) : W p l e R s m args below meth c H locs cells slots (wd_fin E w0 (some (.int r')) w' True R args s below) (F0 m 23 ls []) := by
  obtain ⟨hx, hb, hr, hml, hts, hown, hlocks, hmn, hK⟩ := id C
  unfold f_X2_beginHeap_j23 at hf
  refine lv_aload_n (i := 0) hx hb dX2_beginHeap_23 rfl (lv_at hl 0 rfl) ?_
  refine z_getI fd_202 rfl hx hb hts hown hK hZ (hZ.k 0 rfl rfl) tw_210 dX2_beginHeap_24 ?_
  have hf9 := wd_let_e hf; clear hf; obtain ⟨v2, e3, hf⟩ := hf9
  rw [e3]
  refine lv_istore_n (i := 2) (lv' := [(2, .int v2), (0, .ref x0), (1, va_rf x1)]) hx hb dX2_beginHeap_27 rfl hl (by decide) (by simp [va_rf_cat, va_cat_r, va_cat_i, va_cat_l, va_cat_d]) ?_; clear hl; intro ls hl
  refine lv_aload_n (i := 0) hx hb dX2_beginHeap_28 rfl (lv_at hl 1 rfl) ?_
  refine z_getR (tk := 24) fd_208 rfl hx hb hts hown hK hZ (hZ.k 0 rfl rfl) tw_220 dX2_beginHeap_29 ?_; clear hZ; intro hZ
  refine lv_iload_n (i := 2) hx hb dX2_beginHeap_32 rfl (lv_at hl 0 rfl) ?_
  have hf9 := Option.bind_eq_some_iff.mp hf; clear hf; obtain ⟨a4, ha4, hf⟩ := hf9
  replace hZ := hZ.add (r := some a4) (k := 25) (Nat.succ_ne_zero _) (fun q hq => by cases hq; exact hZ.k 0 rfl ha4)
  rw [ha4]
  have hf9 := wd_gd_e hf; clear hf; obtain ⟨h5, hf⟩ := hf9
  refine z_aald (k := 25) (by decide) (by decide) (tk := 1) rfl hx hb hK hZ (hZ.k 0 rfl rfl) h5 dX2_beginHeap_33 ?_; clear hZ; intro hZ
  refine z_aload_n (i := 1) hx hb dX2_beginHeap_34 rfl (lv_at hl 2 rfl) ?_
  have hf9 := Option.bind_eq_some_iff.mp hf; clear hf; obtain ⟨a6, ha6, hf⟩ := hf9
  replace hZ := hZ.add (r := some a6) (k := 2) (Nat.succ_ne_zero _) (fun q hq => by cases hq; exact hZ.k 0 rfl ha6)
  rw [ha6]
  have hf9 := Option.bind_eq_some_iff.mp hf; clear hf; obtain ⟨w7, hc8, hf⟩ := hf9
  refine z_callV (ci := 1) (As := [va_rf x1]) (rest := []) (c_X1_begin l E n w a6 x1 w7 (hZ.k 0 rfl rfl) (fun q hq => hZ.k 5 rfl hq) hc8) mo_X1_begin rfl (by decide) rfl tw_922 tw_923 tw_921 hx hb hml hts hown hK ⟨Nat.le_trans (by decide) hR.1, Nat.le_trans (by decide) hR.2⟩ hZ (hZ.k 0 rfl rfl) rfl hl.1 rfl (Nat.le_of_ble_eq_true rfl) rfl dX2_beginHeap_35 ?_; clear hZ; intro H locs cells slots hX hZ
  refine lv_aload_n (i := 0) hx hb dX2_beginHeap_38 rfl (lv_at hl 1 rfl) ?_
  refine lv_dup hx hb dX2_beginHeap_39 rfl ?_
  refine z_getI fd_202 rfl hx hb hts hown hK hZ (hZ.k 4 rfl rfl) tw_210 dX2_beginHeap_40 ?_
  refine lv_iconst (v := 1) hx hb dX2_beginHeap_43 (by decide) ?_
  refine lv_iadd hx hb dX2_beginHeap_44 ?_
  refine z_putI fd_202 cok_2 rfl rfl rfl rfl rfl hx hb hts hown hK hZ (hZ.k 4 rfl rfl) tw_210 dX2_beginHeap_45 ?_; clear hZ; intro H locs hZ
  have hf9 := wd_let_e hf; clear hf; obtain ⟨w9, e10, hf⟩ := hf9
  rw [e10] at hZ
  refine lv_iload_n (i := 2) hx hb dX2_beginHeap_48 rfl (lv_at hl 0 rfl) ?_
  obtain ⟨rfl, rfl⟩ := Prod.mk.inj (Option.some.inj hf)
  exact z_iret hx hb hr hlocks hZ trivial dX2_beginHeap_49

set_option maxHeartbeats 4000000 in
set_option maxRecDepth 100000 in
theorem c_X2_beginHeap (l : Launch) (E : wd_E) (n : Nat) (w : Wd) (this : Nat) (p0 : Option Nat) (r' : Int32) (w' : Wd) (k_this : wd_K w this = 3) (k_p0 : ∀ q, p0 = some q → wd_K w q = 5) (hf : f_X2_beginHeap n w this p0 = some (r', w')) : wd_C l E yX2_beginHeap cX2_beginHeap 3 (some .int) 1 23 [.ref this, va_rf p0] w (some (.int r')) w' True := by
  refine wd_ofW (own := RX2) (nm := "beginHeap") (ks := [(some this, 3), (p0, 5)]) (lv := [(0, .ref this), (1, va_rf p0)]) (by decide) rfl rfl (by simp [lg_sl, va_rf_cat, va_cat_r, va_cat_i, va_cat_l, va_cat_d]) (by simp [lv_args, va_rf_cat, va_cat_r, va_cat_i, va_cat_l, va_cat_d]) (List.forall_mem_cons.mpr ⟨⟨Nat.succ_ne_zero _, fun q hq => by cases hq; exact k_this⟩, (List.forall_mem_cons.mpr ⟨⟨Nat.succ_ne_zero _, k_p0⟩, (fun _ hq => absurd hq List.not_mem_nil)⟩)⟩) ?_
  intro p e s m args below meth c R H locs cells slots ls C hR hZ hl
  obtain ⟨hx, hb, hr, hml, hts, hown, hlocks, hmn, hK⟩ := id C
  unfold f_X2_beginHeap at hf
  refine lv_aload_n (i := 0) hx hb dX2_beginHeap_0 rfl (lv_at hl 0 rfl) ?_
  refine z_getI fd_202 rfl hx hb hts hown hK hZ (hZ.k 0 rfl rfl) tw_210 dX2_beginHeap_1 ?_
  refine lv_iconst (v := 3) hx hb dX2_beginHeap_4 (by decide) ?_
  refine lv_icmp_lt (tgt := 23) hx hb dX2_beginHeap_5 (by decide) (fun h1 => ?_) (fun h1 => ?_)
  · replace hf := wd_ite_p h1 hf
    exact v_X2_beginHeap_j23 n C hR this p0 w _ _ _ _ _ ⟨hZ.1, hZ.2.1, hZ.2.2.1, hZ.2.2.2.1, (List.forall_mem_cons.mpr ⟨⟨Nat.succ_ne_zero _, (fun q hq => by cases hq; exact (hZ.k 0 rfl rfl))⟩, (List.forall_mem_cons.mpr ⟨⟨Nat.succ_ne_zero _, (fun q hq => hZ.k 1 rfl hq)⟩, (fun _ hq => absurd hq List.not_mem_nil)⟩)⟩), hZ.2.2.2.2.2⟩ (lv_sub hl [0, 1] rfl) hf
  · replace hf := wd_ite_n h1 hf
    refine lv_aload_n (i := 0) hx hb dX2_beginHeap_8 rfl (lv_at hl 0 rfl) ?_
    refine lv_iconst (v := 0) hx hb dX2_beginHeap_9 (by decide) ?_
    have hf9 := Option.bind_eq_some_iff.mp hf; clear hf; obtain ⟨w11, hc12, hf⟩ := hf9
    refine z_callV (ci := 2) (As := [.int (0 : Int32)]) (rest := []) (c_X2_dropHeap l E n w this (0 : Int32) w11 (hZ.k 0 rfl rfl) hc12) mo_X2_dropHeap rfl (by decide) rfl tw_919 tw_24 tw_917 hx hb hml hts hown hK ⟨Nat.le_trans (by decide) hR.1, Nat.le_trans (by decide) hR.2⟩ hZ (hZ.k 0 rfl rfl) rfl hl.1 rfl (Nat.le_of_ble_eq_true rfl) rfl dX2_beginHeap_10 ?_; clear hZ; intro H locs cells slots hX hZ
    refine lv_aload_n (i := 0) hx hb dX2_beginHeap_13 rfl (lv_at hl 0 rfl) ?_
    refine lv_dup hx hb dX2_beginHeap_14 rfl ?_
    refine z_getI fd_204 rfl hx hb hts hown hK hZ (hZ.k 0 rfl rfl) tw_215 dX2_beginHeap_15 ?_
    refine lv_iconst (v := 1) hx hb dX2_beginHeap_18 (by decide) ?_
    refine lv_iadd hx hb dX2_beginHeap_19 ?_
    refine z_putI fd_204 cok_2 rfl rfl rfl rfl rfl hx hb hts hown hK hZ (hZ.k 0 rfl rfl) tw_215 dX2_beginHeap_20 ?_; clear hZ; intro H locs hZ
    have hf9 := wd_let_e hf; clear hf; obtain ⟨w13, e14, hf⟩ := hf9
    rw [e14] at hZ
    exact v_X2_beginHeap_j23 n C hR this p0 w13 _ _ _ _ _ ⟨hZ.1, hZ.2.1, hZ.2.2.1, hZ.2.2.2.1, (List.forall_mem_cons.mpr ⟨⟨Nat.succ_ne_zero _, (fun q hq => by cases hq; exact (hZ.k 0 rfl rfl))⟩, (List.forall_mem_cons.mpr ⟨⟨Nat.succ_ne_zero _, (fun q hq => hZ.k 1 rfl hq)⟩, (fun _ hq => absurd hq List.not_mem_nil)⟩)⟩), hZ.2.2.2.2.2⟩ (lv_sub hl [0, 1] rfl) hf

def f_X2_gather_j25 (n : Nat) (x0 : Nat) (x1 : Option Nat) (x2 : Int32) (w : Wd) : Option (Option Nat × Wd) :=
  Option.bind (wd_R w 208 x0) fun a10 =>
  wd_gd (x2 < 0 ∨ wd_N w a10 ≤ x2.toNatClampNeg) <|
  wd_let (wd_Q w a10 x2.toNatClampNeg) fun v12 =>
  Option.bind v12 fun a14 =>
  wd_b2 (f_X1_put n w a14 x1) fun r17 w15 =>
  if r17 = 0 then
    wd_let (wd_sI w15 204 x0 ((wd_I w15 204 x0) + (1 : Int32))) fun w32 =>
    some (none, w32)
  else
    wd_b2 (f_X1_wholeSize n w15 a14) fun r21 w19 =>
    if 0 ≤ r21 then
      Option.bind (f_X2_dropHeap n w19 x0 x2) fun w23 =>
      Option.bind x1 fun a25 =>
      wd_let (wd_sI w23 407 a25 (0 : Int32)) fun w26 =>
      wd_let (wd_sI w26 409 a25 (0 : Int32)) fun w28 =>
      wd_let (wd_sI w28 403 a25 r21) fun w30 =>
      some ((some a25), w30)
    else
      some (none, w19)
def f_X2_gather (n : Nat) (w : Wd) (this : Nat) (p0 : Option Nat) : Option (Option Nat × Wd) :=
  Option.bind p0 fun a1 =>
  wd_b2 (f_X4_isPiece n w a1) fun r4 w2 =>
  if r4 = 0 then
    some ((some a1), w2)
  else
    wd_b2 (f_X2_findHeap n w2 this (some a1)) fun r8 w6 =>
    if 0 ≤ r8 then
      f_X2_gather_j25 n this (some a1) r8 w6
    else
      wd_b2 (f_X2_beginHeap n w6 this (some a1)) fun r36 w34 =>
      f_X2_gather_j25 n this (some a1) r36 w34
set_option maxHeartbeats 4000000 in
set_option maxRecDepth 100000 in
theorem v_X2_gather_j25 {p : Program} {l : Launch} {e : Env} {R : Room} {s : State} {m : MethodId} {args : Array Value} {below : List Frame} {meth : Method} {c : Code} {E : wd_E} {w0 : Wd} {r' : Option Nat} {w' : Wd} (n : Nat) (C : wd_X p s m args meth c cX2_gather RX2 5 (some (.object "SeamarkNet$Packet")) "gather" E) (hR : 2 ≤ R.frames ∧ 45 ≤ R.locals) (x0 : Nat) (x1 : Option Nat) (x2 : Int32) (w : Wd) (H : Heap) (locs : List Loc) (cells slots : Nat) (ls : Array Slot) (hZ : wd_Z E w0 R s w H locs cells slots [(some x0, 3), (x1, 5)]) (hl : lv_has ls 5 [(0, .ref x0), (1, va_rf x1), (2, .int x2)]) (hf : f_X2_gather_j25 n x0 x1 x2 w = some (r', w')) : W p l e R s m args below meth c H locs cells slots (wd_fin E w0 (some (va_rf r')) w' (∀ q, r' = some q → wd_K w' q = 5) R args s below) (F0 m 25 ls []) := by
  obtain ⟨hx, hb, hr, hml, hts, hown, hlocks, hmn, hK⟩ := id C
  unfold f_X2_gather_j25 at hf
  refine lv_aload_n (i := 0) hx hb dX2_gather_25 rfl (lv_at hl 0 rfl) ?_
  refine z_getR (tk := 24) fd_208 rfl hx hb hts hown hK hZ (hZ.k 0 rfl rfl) tw_220 dX2_gather_26 ?_; clear hZ; intro hZ
  refine lv_iload_n (i := 2) hx hb dX2_gather_29 rfl (lv_at hl 2 rfl) ?_
  have hf9 := Option.bind_eq_some_iff.mp hf; clear hf; obtain ⟨a10, ha10, hf⟩ := hf9
  replace hZ := hZ.add (r := some a10) (k := 25) (Nat.succ_ne_zero _) (fun q hq => by cases hq; exact hZ.k 0 rfl ha10)
  rw [ha10]
  have hf9 := wd_gd_e hf; clear hf; obtain ⟨h11, hf⟩ := hf9
  refine z_aald (k := 25) (by decide) (by decide) (tk := 1) rfl hx hb hK hZ (hZ.k 0 rfl rfl) h11 dX2_gather_30 ?_; clear hZ; intro hZ
  have hf9 := wd_let_e hf; clear hf; obtain ⟨v12, e13, hf⟩ := hf9
  rw [e13]
  rw [e13] at hZ
  refine z_astore_n (i := 3) (lv' := [(3, va_rf v12), (0, .ref x0), (1, va_rf x1), (2, .int x2)]) hx hb dX2_gather_31 rfl hl (by decide) rfl ?_; clear hl; intro ls hl
  refine z_aload_n (i := 3) hx hb dX2_gather_32 rfl (lv_at hl 0 rfl) ?_
  refine z_aload_n (i := 1) hx hb dX2_gather_33 rfl (lv_at hl 2 rfl) ?_
  have hf9 := Option.bind_eq_some_iff.mp hf; clear hf; obtain ⟨a14, ha14, hf⟩ := hf9
  subst ha14
  replace hl : lv_has ls 5 [(3, .ref a14), (0, .ref x0), (1, va_rf x1), (2, .int x2)] := hl
  replace hZ : wd_Z E w0 R s w H locs cells slots [(some a14, 2), (some a10, 25), ((wd_R w 208 x0), 25), (some x0, 3), (x1, 5)] := hZ
  have hf9 := wd_b2_e hf; clear hf; obtain ⟨r17, w15, hc16, hf⟩ := hf9
  refine z_callV (ci := 1) (As := [va_rf x1]) (rest := []) (c_X1_put l E n w a14 x1 r17 w15 (hZ.k 0 rfl rfl) (fun q hq => hZ.k 4 rfl hq) hc16) mo_X1_put rfl (by decide) rfl tw_926 tw_927 tw_925 hx hb hml hts hown hK ⟨Nat.le_trans (by decide) hR.1, Nat.le_trans (by decide) hR.2⟩ hZ (hZ.k 0 rfl rfl) rfl hl.1 rfl (Nat.le_of_ble_eq_true rfl) rfl dX2_gather_34 ?_; clear hZ; intro H locs cells slots hX hZ
  refine lv_if_ne (tgt := 52) hx hb dX2_gather_37 (by decide) (fun h18 => ?_) (fun h18 => ?_)
  · replace hf := wd_ite_n h18 hf
    refine lv_aload_n (i := 3) hx hb dX2_gather_52 rfl (lv_at hl 0 rfl) ?_
    have hf9 := wd_b2_e hf; clear hf; obtain ⟨r21, w19, hc20, hf⟩ := hf9
    refine z_callV (ci := 1) (As := []) (rest := []) (c_X1_wholeSize l E n w15 a14 r21 w19 (hZ.k 0 rfl rfl) hc20) mo_X1_wholeSize rfl (by decide) rfl tw_930 tw_931 tw_929 hx hb hml hts hown hK ⟨Nat.le_trans (by decide) hR.1, Nat.le_trans (by decide) hR.2⟩ hZ (hZ.k 0 rfl rfl) rfl hl.1 rfl (Nat.le_of_ble_eq_true rfl) rfl dX2_gather_53 ?_; clear hZ; intro H locs cells slots hX hZ
    refine lv_istore (i := 4) (lv' := [(4, .int r21), (3, .ref a14), (0, .ref x0), (1, va_rf x1), (2, .int x2)]) hx hb dX2_gather_56 hl (by decide) rfl ?_; clear hl; intro ls hl
    refine lv_iload hx hb dX2_gather_58 (lv_at hl 0 rfl) ?_
    refine lv_if_ge (tgt := 65) hx hb dX2_gather_60 (by decide) (fun h22 => ?_) (fun h22 => ?_)
    · replace hf := wd_ite_p h22 hf
      refine lv_aload_n (i := 0) hx hb dX2_gather_65 rfl (lv_at hl 2 rfl) ?_
      refine lv_iload_n (i := 2) hx hb dX2_gather_66 rfl (lv_at hl 4 rfl) ?_
      have hf9 := Option.bind_eq_some_iff.mp hf; clear hf; obtain ⟨w23, hc24, hf⟩ := hf9
      refine z_callV (ci := 2) (As := [.int x2]) (rest := []) (c_X2_dropHeap l E n w19 x0 x2 w23 (hZ.k 3 rfl rfl) hc24) mo_X2_dropHeap rfl (by decide) rfl tw_919 tw_24 tw_917 hx hb hml hts hown hK ⟨Nat.le_trans (by decide) hR.1, Nat.le_trans (by decide) hR.2⟩ hZ (hZ.k 3 rfl rfl) rfl hl.1 rfl (Nat.le_of_ble_eq_true rfl) rfl dX2_gather_67 ?_; clear hZ; intro H locs cells slots hX hZ
      refine z_aload_n (i := 1) hx hb dX2_gather_70 rfl (lv_at hl 3 rfl) ?_
      refine lv_iconst (v := 0) hx hb dX2_gather_71 (by decide) ?_
      have hf9 := Option.bind_eq_some_iff.mp hf; clear hf; obtain ⟨a25, ha25, hf⟩ := hf9
      subst ha25
      replace hl : lv_has ls 5 [(4, .int r21), (3, .ref a14), (0, .ref x0), (1, .ref a25), (2, .int x2)] := hl
      replace hZ : wd_Z E w0 R s w23 H locs cells slots [(some a14, 2), (some a10, 25), ((wd_R w 208 x0), 25), (some x0, 3), (some a25, 5)] := hZ
      refine z_putI fd_407 cok_4 rfl rfl rfl rfl rfl hx hb hts hown hK hZ (hZ.k 4 rfl rfl) tw_709 dX2_gather_72 ?_; clear hZ; intro H locs hZ
      have hf9 := wd_let_e hf; clear hf; obtain ⟨w26, e27, hf⟩ := hf9
      rw [e27] at hZ
      refine lv_aload_n (i := 1) hx hb dX2_gather_75 rfl (lv_at hl 3 rfl) ?_
      refine lv_iconst (v := 0) hx hb dX2_gather_76 (by decide) ?_
      refine z_putI fd_409 cok_4 rfl rfl rfl (by decide) (by decide) hx hb hts hown hK hZ (hZ.k 4 rfl rfl) tw_715 dX2_gather_77 ?_; clear hZ; intro H locs hZ
      have hf9 := wd_let_e hf; clear hf; obtain ⟨w28, e29, hf⟩ := hf9
      rw [e29] at hZ
      refine lv_aload_n (i := 1) hx hb dX2_gather_80 rfl (lv_at hl 3 rfl) ?_
      refine lv_iload hx hb dX2_gather_81 (lv_at hl 0 rfl) ?_
      refine z_putI fd_403 cok_4 rfl rfl rfl rfl rfl hx hb hts hown hK hZ (hZ.k 4 rfl rfl) tw_693 dX2_gather_83 ?_; clear hZ; intro H locs hZ
      have hf9 := wd_let_e hf; clear hf; obtain ⟨w30, e31, hf⟩ := hf9
      rw [e31] at hZ
      refine lv_aload_n (i := 1) hx hb dX2_gather_86 rfl (lv_at hl 3 rfl) ?_
      obtain ⟨rfl, rfl⟩ := Prod.mk.inj (Option.some.inj hf)
      exact z_aret rfl hx hb hr hlocks hZ (fun q hq => by cases hq; exact (hZ.k 4 rfl rfl)) dX2_gather_87
    · replace hf := wd_ite_n h22 hf
      refine z_null hx hb dX2_gather_63 ?_
      obtain ⟨rfl, rfl⟩ := Prod.mk.inj (Option.some.inj hf)
      exact z_aret rfl hx hb hr hlocks hZ (fun q hq => by cases hq) dX2_gather_64
  · replace hf := wd_ite_p h18 hf
    refine lv_aload_n (i := 0) hx hb dX2_gather_40 rfl (lv_at hl 1 rfl) ?_
    refine lv_dup hx hb dX2_gather_41 rfl ?_
    refine z_getI fd_204 rfl hx hb hts hown hK hZ (hZ.k 3 rfl rfl) tw_215 dX2_gather_42 ?_
    refine lv_iconst (v := 1) hx hb dX2_gather_45 (by decide) ?_
    refine lv_iadd hx hb dX2_gather_46 ?_
    refine z_putI fd_204 cok_2 rfl rfl rfl rfl rfl hx hb hts hown hK hZ (hZ.k 3 rfl rfl) tw_215 dX2_gather_47 ?_; clear hZ; intro H locs hZ
    have hf9 := wd_let_e hf; clear hf; obtain ⟨w32, e33, hf⟩ := hf9
    rw [e33] at hZ
    refine z_null hx hb dX2_gather_50 ?_
    obtain ⟨rfl, rfl⟩ := Prod.mk.inj (Option.some.inj hf)
    exact z_aret rfl hx hb hr hlocks hZ (fun q hq => by cases hq) dX2_gather_51

set_option maxHeartbeats 4000000 in
set_option maxRecDepth 100000 in
theorem c_X2_gather (l : Launch) (E : wd_E) (n : Nat) (w : Wd) (this : Nat) (p0 : Option Nat) (r' : Option Nat) (w' : Wd) (k_this : wd_K w this = 3) (k_p0 : ∀ q, p0 = some q → wd_K w q = 5) (hf : f_X2_gather n w this p0 = some (r', w')) : wd_C l E yX2_gather cX2_gather 5 (some (.object "SeamarkNet$Packet")) 2 45 [.ref this, va_rf p0] w (some (va_rf r')) w' (∀ q, r' = some q → wd_K w' q = 5) := by
  refine wd_ofW (own := RX2) (nm := "gather") (ks := [(some this, 3), (p0, 5)]) (lv := [(0, .ref this), (1, va_rf p0)]) (by decide) rfl rfl (by simp [lg_sl, va_rf_cat, va_cat_r, va_cat_i, va_cat_l, va_cat_d]) (by simp [lv_args, va_rf_cat, va_cat_r, va_cat_i, va_cat_l, va_cat_d]) (List.forall_mem_cons.mpr ⟨⟨Nat.succ_ne_zero _, fun q hq => by cases hq; exact k_this⟩, (List.forall_mem_cons.mpr ⟨⟨Nat.succ_ne_zero _, k_p0⟩, (fun _ hq => absurd hq List.not_mem_nil)⟩)⟩) ?_
  intro p e s m args below meth c R H locs cells slots ls C hR hZ hl
  obtain ⟨hx, hb, hr, hml, hts, hown, hlocks, hmn, hK⟩ := id C
  unfold f_X2_gather at hf
  refine z_aload_n (i := 1) hx hb dX2_gather_0 rfl (lv_at hl 1 rfl) ?_
  have hf9 := Option.bind_eq_some_iff.mp hf; clear hf; obtain ⟨a1, ha1, hf⟩ := hf9
  subst ha1
  replace hl : lv_has ls 5 [(0, .ref this), (1, .ref a1)] := hl
  replace hZ : wd_Z E w R s w H locs cells slots [(some this, 3), (some a1, 5)] := hZ
  have hf9 := wd_b2_e hf; clear hf; obtain ⟨r4, w2, hc3, hf⟩ := hf9
  refine z_callV (ci := 4) (As := []) (rest := []) (c_X4_isPiece l E n w a1 r4 w2 (hZ.k 1 rfl rfl) hc3) mo_X4_isPiece rfl (by decide) rfl tw_906 tw_907 tw_905 hx hb hml hts hown hK ⟨Nat.le_trans (by decide) hR.1, Nat.le_trans (by decide) hR.2⟩ hZ (hZ.k 1 rfl rfl) rfl hl.1 rfl (Nat.le_of_ble_eq_true rfl) rfl dX2_gather_1 ?_; clear hZ; intro H locs cells slots hX hZ
  refine lv_if_ne (tgt := 9) hx hb dX2_gather_4 (by decide) (fun h5 => ?_) (fun h5 => ?_)
  · replace hf := wd_ite_n h5 hf
    refine lv_aload_n (i := 0) hx hb dX2_gather_9 rfl (lv_at hl 0 rfl) ?_
    refine lv_aload_n (i := 1) hx hb dX2_gather_10 rfl (lv_at hl 1 rfl) ?_
    have hf9 := wd_b2_e hf; clear hf; obtain ⟨r8, w6, hc7, hf⟩ := hf9
    refine z_callV (ci := 2) (As := [va_rf (some a1)]) (rest := []) (c_X2_findHeap l E n w2 this (some a1) r8 w6 (hZ.k 0 rfl rfl) (fun q hq => by cases hq; exact (hZ.k 1 rfl rfl)) hc7) mo_X2_findHeap rfl (by decide) rfl tw_911 tw_22 tw_909 hx hb hml hts hown hK ⟨Nat.le_trans (by decide) hR.1, Nat.le_trans (by decide) hR.2⟩ hZ (hZ.k 0 rfl rfl) rfl hl.1 rfl (Nat.le_of_ble_eq_true rfl) rfl dX2_gather_11 ?_; clear hZ; intro H locs cells slots hX hZ
    refine lv_istore_n (i := 2) (lv' := [(2, .int r8), (0, .ref this), (1, .ref a1)]) hx hb dX2_gather_14 rfl hl (by decide) rfl ?_; clear hl; intro ls hl
    refine lv_iload_n (i := 2) hx hb dX2_gather_15 rfl (lv_at hl 0 rfl) ?_
    refine lv_if_ge (tgt := 25) hx hb dX2_gather_16 (by decide) (fun h9 => ?_) (fun h9 => ?_)
    · replace hf := wd_ite_p h9 hf
      exact v_X2_gather_j25 n C hR this (some a1) r8 w6 _ _ _ _ _ ⟨hZ.1, hZ.2.1, hZ.2.2.1, hZ.2.2.2.1, (List.forall_mem_cons.mpr ⟨⟨Nat.succ_ne_zero _, (fun q hq => by cases hq; exact (hZ.k 0 rfl rfl))⟩, (List.forall_mem_cons.mpr ⟨⟨Nat.succ_ne_zero _, (fun q hq => by cases hq; exact (hZ.k 1 rfl rfl))⟩, (fun _ hq => absurd hq List.not_mem_nil)⟩)⟩), hZ.2.2.2.2.2⟩ (lv_sub hl [1, 2, 0] rfl) hf
    · replace hf := wd_ite_n h9 hf
      refine lv_aload_n (i := 0) hx hb dX2_gather_19 rfl (lv_at hl 1 rfl) ?_
      refine lv_aload_n (i := 1) hx hb dX2_gather_20 rfl (lv_at hl 2 rfl) ?_
      have hf9 := wd_b2_e hf; clear hf; obtain ⟨r36, w34, hc35, hf⟩ := hf9
      refine z_callV (ci := 2) (As := [va_rf (some a1)]) (rest := []) (c_X2_beginHeap l E n w6 this (some a1) r36 w34 (hZ.k 0 rfl rfl) (fun q hq => by cases hq; exact (hZ.k 1 rfl rfl)) hc35) mo_X2_beginHeap rfl (by decide) rfl tw_915 tw_23 tw_913 hx hb hml hts hown hK ⟨Nat.le_trans (by decide) hR.1, Nat.le_trans (by decide) hR.2⟩ hZ (hZ.k 0 rfl rfl) rfl hl.1 rfl (Nat.le_of_ble_eq_true rfl) rfl dX2_gather_21 ?_; clear hZ; intro H locs cells slots hX hZ
      refine lv_istore_n (i := 2) (lv' := [(2, .int r36), (0, .ref this), (1, .ref a1)]) hx hb dX2_gather_24 rfl hl (by decide) rfl ?_; clear hl; intro ls hl
      exact v_X2_gather_j25 n C hR this (some a1) r36 w34 _ _ _ _ _ ⟨hZ.1, hZ.2.1, hZ.2.2.1, hZ.2.2.2.1, (List.forall_mem_cons.mpr ⟨⟨Nat.succ_ne_zero _, (fun q hq => by cases hq; exact (hZ.k 0 rfl rfl))⟩, (List.forall_mem_cons.mpr ⟨⟨Nat.succ_ne_zero _, (fun q hq => by cases hq; exact (hZ.k 1 rfl rfl))⟩, (fun _ hq => absurd hq List.not_mem_nil)⟩)⟩), hZ.2.2.2.2.2⟩ (lv_sub hl [1, 2, 0] rfl) hf
  · replace hf := wd_ite_p h5 hf
    refine lv_aload_n (i := 1) hx hb dX2_gather_7 rfl (lv_at hl 1 rfl) ?_
    obtain ⟨rfl, rfl⟩ := Prod.mk.inj (Option.some.inj hf)
    exact z_aret rfl hx hb hr hlocks hZ (fun q hq => by cases hq; exact (hZ.k 1 rfl rfl)) dX2_gather_8

def f_X3_hasTunnelTo_l2 (n : Nat) (rec2 : Nat → Int32 → Int32 → Wd → Option (Int32 × Wd)) (x0 : Nat) (x1 : Int32) (x2 : Int32) (w : Wd) : Option (Int32 × Wd) :=
  if (wd_I w 309 x0) ≤ x2 then
    some ((0 : Int32), w)
  else
    Option.bind (wd_R w 308 x0) fun a2 =>
    wd_gd (x2 < 0 ∨ wd_N w a2 ≤ x2.toNatClampNeg) <|
    if (wd_A w a2 x2.toNatClampNeg) = x1 then
      some ((1 : Int32), w)
    else
      wd_let (x2 + 1) fun v5 =>
      rec2 x0 x1 v5 w
def f_X3_hasTunnelTo (n : Nat) (w : Wd) (this : Nat) (p0 : Int32) : Option (Int32 × Wd) :=
  wd_lp4 (f_X3_hasTunnelTo_l2 n) n this p0 (0 : Int32) w
set_option maxHeartbeats 4000000 in
set_option maxRecDepth 100000 in
theorem v_X3_hasTunnelTo_b2 {p : Program} {l : Launch} {e : Env} {R : Room} {s : State} {m : MethodId} {args : Array Value} {below : List Frame} {meth : Method} {c : Code} {E : wd_E} {w0 : Wd} {r' : Int32} {w' : Wd} (n : Nat) (C : wd_X p s m args meth c cX3_hasTunnelTo RX3 3 (some .boolean) "hasTunnelTo" E) (hR : 0 ≤ R.frames ∧ 0 ≤ R.locals) (rec2 : Nat → Int32 → Int32 → Wd → Option (Int32 × Wd)) (hrec2 : ∀ (x0_ : Nat) (x1_ : Int32) (x2_ : Int32) (w_ : Wd) (H : Heap) (locs : List Loc) (cells slots : Nat) (ls : Array Slot), wd_Z E w0 R s w_ H locs cells slots [(some x0_, 4)] → lv_has ls 3 [(0, .ref x0_), (1, .int x1_), (2, .int x2_)] → rec2 x0_ x1_ x2_ w_ = some (r', w') → W p l e R s m args below meth c H locs cells slots (wd_fin E w0 (some (.int r')) w' True R args s below) (F0 m 2 ls [])) (x0 : Nat) (x1 : Int32) (x2 : Int32) (w : Wd) (H : Heap) (locs : List Loc) (cells slots : Nat) (ls : Array Slot) (hZ : wd_Z E w0 R s w H locs cells slots [(some x0, 4)]) (hl : lv_has ls 3 [(0, .ref x0), (1, .int x1), (2, .int x2)]) (hf : f_X3_hasTunnelTo_l2 n rec2 x0 x1 x2 w = some (r', w')) : W p l e R s m args below meth c H locs cells slots (wd_fin E w0 (some (.int r')) w' True R args s below) (F0 m 2 ls []) := by
  obtain ⟨hx, hb, hr, hml, hts, hown, hlocks, hmn, hK⟩ := id C
  unfold f_X3_hasTunnelTo_l2 at hf
  refine lv_iload_n (i := 2) hx hb dX3_hasTunnelTo_2 rfl (lv_at hl 2 rfl) ?_
  refine lv_aload_n (i := 0) hx hb dX3_hasTunnelTo_3 rfl (lv_at hl 0 rfl) ?_
  refine z_getI fd_309 rfl hx hb hts hown hK hZ (hZ.k 0 rfl rfl) tw_86 dX3_hasTunnelTo_4 ?_
  refine lv_icmp_ge (tgt := 28) hx hb dX3_hasTunnelTo_7 (by decide) (fun h1 => ?_) (fun h1 => ?_)
  · replace hf := wd_ite_p h1 hf
    refine lv_iconst (v := 0) hx hb dX3_hasTunnelTo_28 (by decide) ?_
    obtain ⟨rfl, rfl⟩ := Prod.mk.inj (Option.some.inj hf)
    exact z_zret (by decide) hx hb hr hlocks hZ trivial dX3_hasTunnelTo_29
  · replace hf := wd_ite_n h1 hf
    refine lv_aload_n (i := 0) hx hb dX3_hasTunnelTo_10 rfl (lv_at hl 0 rfl) ?_
    refine z_getR (tk := 20) fd_308 rfl hx hb hts hown hK hZ (hZ.k 0 rfl rfl) tw_85 dX3_hasTunnelTo_11 ?_; clear hZ; intro hZ
    refine lv_iload_n (i := 2) hx hb dX3_hasTunnelTo_14 rfl (lv_at hl 2 rfl) ?_
    have hf9 := Option.bind_eq_some_iff.mp hf; clear hf; obtain ⟨a2, ha2, hf⟩ := hf9
    replace hZ := hZ.add (r := some a2) (k := 21) (Nat.succ_ne_zero _) (fun q hq => by cases hq; exact hZ.k 0 rfl ha2)
    rw [ha2]
    have hf9 := wd_gd_e hf; clear hf; obtain ⟨h3, hf⟩ := hf9
    refine z_iald hx hb hK hZ (hZ.k 0 rfl rfl) h3 dX3_hasTunnelTo_15 ?_
    refine lv_iload_n (i := 1) hx hb dX3_hasTunnelTo_16 rfl (lv_at hl 1 rfl) ?_
    refine lv_icmp_ne (tgt := 22) hx hb dX3_hasTunnelTo_17 (by decide) (fun h4 => ?_) (fun h4 => ?_)
    · replace hf := wd_ite_n h4 hf
      have hf9 := wd_let_e hf; clear hf; obtain ⟨v5, e6, hf⟩ := hf9
      refine lv_iinc (k := 2) (v := v5) (lv' := [(2, .int v5), (0, .ref x0), (1, .int x1)]) hx hb dX3_hasTunnelTo_22 hl rfl (by rw [← e6]; rfl) (by decide) rfl ?_; clear hl; intro ls hl
      refine lv_goto (tgt := 2) hx hb dX3_hasTunnelTo_25 (by decide) ?_
      exact hrec2 x0 x1 v5 w _ _ _ _ _ ⟨hZ.1, hZ.2.1, hZ.2.2.1, hZ.2.2.2.1, (List.forall_mem_cons.mpr ⟨⟨Nat.succ_ne_zero _, (fun q hq => by cases hq; exact (hZ.k 2 rfl rfl))⟩, (fun _ hq => absurd hq List.not_mem_nil)⟩), hZ.2.2.2.2.2⟩ (lv_sub hl [1, 2, 0] rfl) hf
    · replace hf := wd_ite_p h4 hf
      refine lv_iconst (v := 1) hx hb dX3_hasTunnelTo_20 (by decide) ?_
      obtain ⟨rfl, rfl⟩ := Prod.mk.inj (Option.some.inj hf)
      exact z_zret (by decide) hx hb hr hlocks hZ trivial dX3_hasTunnelTo_21

theorem v_X3_hasTunnelTo_l2 {p : Program} {l : Launch} {e : Env} {R : Room} {s : State} {m : MethodId} {args : Array Value} {below : List Frame} {meth : Method} {c : Code} {E : wd_E} {w0 : Wd} {r' : Int32} {w' : Wd} (n : Nat) (C : wd_X p s m args meth c cX3_hasTunnelTo RX3 3 (some .boolean) "hasTunnelTo" E) (hR : 0 ≤ R.frames ∧ 0 ≤ R.locals) : ∀ (k : Nat) (x0 : Nat) (x1 : Int32) (x2 : Int32) (w : Wd) (H : Heap) (locs : List Loc) (cells slots : Nat) (ls : Array Slot), wd_Z E w0 R s w H locs cells slots [(some x0, 4)] → lv_has ls 3 [(0, .ref x0), (1, .int x1), (2, .int x2)] → wd_lp4 (f_X3_hasTunnelTo_l2 n) k x0 x1 x2 w = some (r', w') → W p l e R s m args below meth c H locs cells slots (wd_fin E w0 (some (.int r')) w' True R args s below) (F0 m 2 ls []) := by
  intro k
  induction k with
  | zero => intro _ _ _ _ _ _ _ _ _ _ _ hf; cases hf
  | succ k ih =>
    intro x0 x1 x2 w H locs cells slots ls hZ hl hf
    exact v_X3_hasTunnelTo_b2 n C hR (wd_lp4 (f_X3_hasTunnelTo_l2 n) k) ih x0 x1 x2 w H locs cells slots ls hZ hl hf

set_option maxHeartbeats 4000000 in
set_option maxRecDepth 100000 in
theorem c_X3_hasTunnelTo (l : Launch) (E : wd_E) (n : Nat) (w : Wd) (this : Nat) (p0 : Int32) (r' : Int32) (w' : Wd) (k_this : wd_K w this = 4) (hf : f_X3_hasTunnelTo n w this p0 = some (r', w')) : wd_C l E yX3_hasTunnelTo cX3_hasTunnelTo 3 (some .boolean) 0 0 [.ref this, .int p0] w (some (.int r')) w' True := by
  refine wd_ofW (own := RX3) (nm := "hasTunnelTo") (ks := [(some this, 4)]) (lv := [(0, .ref this), (1, .int p0)]) (by decide) rfl rfl (Nat.le_of_ble_eq_true rfl) rfl (List.forall_mem_cons.mpr ⟨⟨Nat.succ_ne_zero _, fun q hq => by cases hq; exact k_this⟩, (fun _ hq => absurd hq List.not_mem_nil)⟩) ?_
  intro p e s m args below meth c R H locs cells slots ls C hR hZ hl
  obtain ⟨hx, hb, hr, hml, hts, hown, hlocks, hmn, hK⟩ := id C
  unfold f_X3_hasTunnelTo at hf
  refine lv_iconst (v := 0) hx hb dX3_hasTunnelTo_0 (by decide) ?_
  refine lv_istore_n (i := 2) (lv' := [(2, .int (0 : Int32)), (0, .ref this), (1, .int p0)]) hx hb dX3_hasTunnelTo_1 rfl hl (by decide) rfl ?_; clear hl; intro ls hl
  exact v_X3_hasTunnelTo_l2 n C hR n this p0 (0 : Int32) w _ _ _ _ _ ⟨hZ.1, hZ.2.1, hZ.2.2.1, hZ.2.2.2.1, (List.forall_mem_cons.mpr ⟨⟨Nat.succ_ne_zero _, (fun q hq => by cases hq; exact (hZ.k 0 rfl rfl))⟩, (fun _ hq => absurd hq List.not_mem_nil)⟩), hZ.2.2.2.2.2⟩ (lv_sub hl [1, 2, 0] rfl) hf

def f_X2_unwrap (n : Nat) (w : Wd) (this : Nat) (p0 : Option Nat) : Option (Option Nat × Wd) :=
  Option.bind p0 fun a1 =>
  Option.bind (wd_R w 200 this) fun a2 =>
  wd_b2 (f_X3_hasTunnelTo n w a2 (wd_I w 401 a1)) fun r5 w3 =>
  if r5 = 0 then
    wd_let (wd_sI w3 204 this ((wd_I w3 204 this) + (1 : Int32))) fun w7 =>
    some (none, w7)
  else
    some ((wd_R w3 410 a1), w3)
set_option maxHeartbeats 4000000 in
set_option maxRecDepth 100000 in
theorem c_X2_unwrap (l : Launch) (E : wd_E) (n : Nat) (w : Wd) (this : Nat) (p0 : Option Nat) (r' : Option Nat) (w' : Wd) (k_this : wd_K w this = 3) (k_p0 : ∀ q, p0 = some q → wd_K w q = 5) (hf : f_X2_unwrap n w this p0 = some (r', w')) : wd_C l E yX2_unwrap cX2_unwrap 2 (some (.object "SeamarkNet$Packet")) 1 22 [.ref this, va_rf p0] w (some (va_rf r')) w' (∀ q, r' = some q → wd_K w' q = 5) := by
  refine wd_ofW (own := RX2) (nm := "unwrap") (ks := [(some this, 3), (p0, 5)]) (lv := [(0, .ref this), (1, va_rf p0)]) (by decide) rfl rfl (by simp [lg_sl, va_rf_cat, va_cat_r, va_cat_i, va_cat_l, va_cat_d]) (by simp [lv_args, va_rf_cat, va_cat_r, va_cat_i, va_cat_l, va_cat_d]) (List.forall_mem_cons.mpr ⟨⟨Nat.succ_ne_zero _, fun q hq => by cases hq; exact k_this⟩, (List.forall_mem_cons.mpr ⟨⟨Nat.succ_ne_zero _, k_p0⟩, (fun _ hq => absurd hq List.not_mem_nil)⟩)⟩) ?_
  intro p e s m args below meth c R H locs cells slots ls C hR hZ hl
  obtain ⟨hx, hb, hr, hml, hts, hown, hlocks, hmn, hK⟩ := id C
  unfold f_X2_unwrap at hf
  refine lv_aload_n (i := 0) hx hb dX2_unwrap_0 rfl (lv_at hl 0 rfl) ?_
  refine z_getR (tk := 3) fd_200 rfl hx hb hts hown hK hZ (hZ.k 0 rfl rfl) tw_204 dX2_unwrap_1 ?_; clear hZ; intro hZ
  refine z_aload_n (i := 1) hx hb dX2_unwrap_4 rfl (lv_at hl 1 rfl) ?_
  have hf9 := Option.bind_eq_some_iff.mp hf; clear hf; obtain ⟨a1, ha1, hf⟩ := hf9
  subst ha1
  replace hl : lv_has ls 2 [(0, .ref this), (1, .ref a1)] := hl
  replace hZ : wd_Z E w R s w H locs cells slots [((wd_R w 200 this), 4), (some this, 3), (some a1, 5)] := hZ
  refine z_getI fd_401 rfl hx hb hts hown hK hZ (hZ.k 2 rfl rfl) tw_686 dX2_unwrap_5 ?_
  have hf9 := Option.bind_eq_some_iff.mp hf; clear hf; obtain ⟨a2, ha2, hf⟩ := hf9
  replace hZ := hZ.add (r := some a2) (k := 4) (Nat.succ_ne_zero _) (fun q hq => by cases hq; exact hZ.k 0 rfl ha2)
  rw [ha2]
  have hf9 := wd_b2_e hf; clear hf; obtain ⟨r5, w3, hc4, hf⟩ := hf9
  refine z_callV (ci := 3) (As := [.int (wd_I w 401 a1)]) (rest := []) (c_X3_hasTunnelTo l E n w a2 (wd_I w 401 a1) r5 w3 (hZ.k 0 rfl rfl) hc4) mo_X3_hasTunnelTo rfl (by decide) rfl tw_938 tw_939 tw_937 hx hb hml hts hown hK ⟨Nat.le_trans (by decide) hR.1, Nat.le_trans (by decide) hR.2⟩ hZ (hZ.k 0 rfl rfl) rfl hl.1 rfl (Nat.le_of_ble_eq_true rfl) rfl dX2_unwrap_8 ?_; clear hZ; intro H locs cells slots hX hZ
  refine lv_if_eq (tgt := 19) hx hb dX2_unwrap_11 (by decide) (fun h6 => ?_) (fun h6 => ?_)
  · replace hf := wd_ite_p h6 hf
    refine lv_aload_n (i := 0) hx hb dX2_unwrap_19 rfl (lv_at hl 0 rfl) ?_
    refine lv_dup hx hb dX2_unwrap_20 rfl ?_
    refine z_getI fd_204 rfl hx hb hts hown hK hZ (hZ.k 2 rfl rfl) tw_215 dX2_unwrap_21 ?_
    refine lv_iconst (v := 1) hx hb dX2_unwrap_24 (by decide) ?_
    refine lv_iadd hx hb dX2_unwrap_25 ?_
    refine z_putI fd_204 cok_2 rfl rfl rfl rfl rfl hx hb hts hown hK hZ (hZ.k 2 rfl rfl) tw_215 dX2_unwrap_26 ?_; clear hZ; intro H locs hZ
    have hf9 := wd_let_e hf; clear hf; obtain ⟨w7, e8, hf⟩ := hf9
    rw [e8] at hZ
    refine z_null hx hb dX2_unwrap_29 ?_
    obtain ⟨rfl, rfl⟩ := Prod.mk.inj (Option.some.inj hf)
    exact z_aret rfl hx hb hr hlocks hZ (fun q hq => by cases hq) dX2_unwrap_30
  · replace hf := wd_ite_n h6 hf
    refine lv_aload_n (i := 1) hx hb dX2_unwrap_14 rfl (lv_at hl 1 rfl) ?_
    refine z_getR (tk := 4) fd_410 rfl hx hb hts hown hK hZ (hZ.k 3 rfl rfl) tw_718 dX2_unwrap_15 ?_; clear hZ; intro hZ
    obtain ⟨rfl, rfl⟩ := Prod.mk.inj (Option.some.inj hf)
    exact z_aret rfl hx hb hr hlocks hZ (fun q hq => hZ.k 0 rfl hq) dX2_unwrap_18

def f_X2_writeNote (n : Nat) (w : Wd) (this : Nat) (p0 : Option Nat) : Option Wd :=
  wd_let (((wd_I w 203 this) - (wd_I w 203 this) / (10 : Int32) * (10 : Int32)) * (6 : Int32)) fun v1 =>
  Option.bind p0 fun a3 =>
  Option.bind (wd_R w 209 this) fun a4 =>
  wd_gd (v1 < 0 ∨ wd_N w a4 ≤ v1.toNatClampNeg) <|
  wd_let (wd_sA w a4 v1.toNatClampNeg (wd_I w 400 a3)) fun w6 =>
  Option.bind (wd_R w6 209 this) fun a8 =>
  wd_gd ((v1 + (1 : Int32)) < 0 ∨ wd_N w6 a8 ≤ (v1 + (1 : Int32)).toNatClampNeg) <|
  wd_let (wd_sA w6 a8 (v1 + (1 : Int32)).toNatClampNeg (wd_I w6 401 a3)) fun w10 =>
  Option.bind (wd_R w10 209 this) fun a12 =>
  wd_gd ((v1 + (2 : Int32)) < 0 ∨ wd_N w10 a12 ≤ (v1 + (2 : Int32)).toNatClampNeg) <|
  wd_let (wd_sA w10 a12 (v1 + (2 : Int32)).toNatClampNeg (wd_I w10 403 a3)) fun w14 =>
  Option.bind (wd_R w14 209 this) fun a16 =>
  wd_gd ((v1 + (3 : Int32)) < 0 ∨ wd_N w14 a16 ≤ (v1 + (3 : Int32)).toNatClampNeg) <|
  wd_let (wd_sA w14 a16 (v1 + (3 : Int32)).toNatClampNeg (wd_I w14 404 a3)) fun w18 =>
  Option.bind (wd_R w18 209 this) fun a20 =>
  wd_gd ((v1 + (4 : Int32)) < 0 ∨ wd_N w18 a20 ≤ (v1 + (4 : Int32)).toNatClampNeg) <|
  wd_let (wd_sA w18 a20 (v1 + (4 : Int32)).toNatClampNeg (wd_I w18 405 a3)) fun w22 =>
  Option.bind (wd_R w22 209 this) fun a24 =>
  wd_gd ((v1 + (5 : Int32)) < 0 ∨ wd_N w22 a24 ≤ (v1 + (5 : Int32)).toNatClampNeg) <|
  wd_let (wd_sA w22 a24 (v1 + (5 : Int32)).toNatClampNeg (wd_I w22 406 a3)) fun w26 =>
  wd_let (wd_sI w26 203 this ((wd_I w26 203 this) + (1 : Int32))) fun w28 =>
  some w28
set_option maxHeartbeats 4000000 in
set_option maxRecDepth 100000 in
theorem c_X2_writeNote (l : Launch) (E : wd_E) (n : Nat) (w : Wd) (this : Nat) (p0 : Option Nat) (w' : Wd) (k_this : wd_K w this = 3) (k_p0 : ∀ q, p0 = some q → wd_K w q = 5) (hf : f_X2_writeNote n w this p0 = some w') : wd_C l E yX2_writeNote cX2_writeNote 3 none 0 0 [.ref this, va_rf p0] w none w' True := by
  refine wd_ofW (own := RX2) (nm := "writeNote") (ks := [(some this, 3), (p0, 5)]) (lv := [(0, .ref this), (1, va_rf p0)]) (by decide) rfl rfl (by simp [lg_sl, va_rf_cat, va_cat_r, va_cat_i, va_cat_l, va_cat_d]) (by simp [lv_args, va_rf_cat, va_cat_r, va_cat_i, va_cat_l, va_cat_d]) (List.forall_mem_cons.mpr ⟨⟨Nat.succ_ne_zero _, fun q hq => by cases hq; exact k_this⟩, (List.forall_mem_cons.mpr ⟨⟨Nat.succ_ne_zero _, k_p0⟩, (fun _ hq => absurd hq List.not_mem_nil)⟩)⟩) ?_
  intro p e s m args below meth c R H locs cells slots ls C hR hZ hl
  obtain ⟨hx, hb, hr, hml, hts, hown, hlocks, hmn, hK⟩ := id C
  unfold f_X2_writeNote at hf
  refine lv_aload_n (i := 0) hx hb dX2_writeNote_0 rfl (lv_at hl 0 rfl) ?_
  refine z_getI fd_203 rfl hx hb hts hown hK hZ (hZ.k 0 rfl rfl) tw_213 dX2_writeNote_1 ?_
  refine lv_bipush (v := 10) hx hb dX2_writeNote_4 (by decide) ?_
  refine lv_irem hx hb dX2_writeNote_6 (by decide) ?_
  refine lv_bipush (v := 6) hx hb dX2_writeNote_7 (by decide) ?_
  refine lv_imul hx hb dX2_writeNote_9 ?_
  have hf9 := wd_let_e hf; clear hf; obtain ⟨v1, e2, hf⟩ := hf9
  rw [e2]
  refine lv_istore_n (i := 2) (lv' := [(2, .int v1), (0, .ref this), (1, va_rf p0)]) hx hb dX2_writeNote_10 rfl hl (by decide) (by simp [va_rf_cat, va_cat_r, va_cat_i, va_cat_l, va_cat_d]) ?_; clear hl; intro ls hl
  refine lv_aload_n (i := 0) hx hb dX2_writeNote_11 rfl (lv_at hl 1 rfl) ?_
  refine z_getR (tk := 20) fd_209 rfl hx hb hts hown hK hZ (hZ.k 0 rfl rfl) tw_221 dX2_writeNote_12 ?_; clear hZ; intro hZ
  refine lv_iload_n (i := 2) hx hb dX2_writeNote_15 rfl (lv_at hl 0 rfl) ?_
  refine z_aload_n (i := 1) hx hb dX2_writeNote_16 rfl (lv_at hl 2 rfl) ?_
  have hf9 := Option.bind_eq_some_iff.mp hf; clear hf; obtain ⟨a3, ha3, hf⟩ := hf9
  subst ha3
  replace hl : lv_has ls 3 [(2, .int v1), (0, .ref this), (1, .ref a3)] := hl
  replace hZ : wd_Z E w R s w H locs cells slots [((wd_R w 209 this), 21), (some this, 3), (some a3, 5)] := hZ
  refine z_getI fd_400 rfl hx hb hts hown hK hZ (hZ.k 2 rfl rfl) tw_682 dX2_writeNote_17 ?_
  have hf9 := Option.bind_eq_some_iff.mp hf; clear hf; obtain ⟨a4, ha4, hf⟩ := hf9
  replace hZ := hZ.add (r := some a4) (k := 21) (Nat.succ_ne_zero _) (fun q hq => by cases hq; exact hZ.k 0 rfl ha4)
  rw [ha4]
  have hf9 := wd_gd_e hf; clear hf; obtain ⟨h5, hf⟩ := hf9
  refine z_iast hx hb hK hZ (hZ.k 0 rfl rfl) h5 dX2_writeNote_20 ?_; clear hZ; intro H locs hZ
  have hf9 := wd_let_e hf; clear hf; obtain ⟨w6, e7, hf⟩ := hf9
  rw [e7] at hZ
  refine lv_aload_n (i := 0) hx hb dX2_writeNote_21 rfl (lv_at hl 1 rfl) ?_
  refine z_getR (tk := 20) fd_209 rfl hx hb hts hown hK hZ (hZ.k 2 rfl rfl) tw_221 dX2_writeNote_22 ?_; clear hZ; intro hZ
  refine lv_iload_n (i := 2) hx hb dX2_writeNote_25 rfl (lv_at hl 0 rfl) ?_
  refine lv_iconst (v := 1) hx hb dX2_writeNote_26 (by decide) ?_
  refine lv_iadd hx hb dX2_writeNote_27 ?_
  refine lv_aload_n (i := 1) hx hb dX2_writeNote_28 rfl (lv_at hl 2 rfl) ?_
  refine z_getI fd_401 rfl hx hb hts hown hK hZ (hZ.k 4 rfl rfl) tw_686 dX2_writeNote_29 ?_
  have hf9 := Option.bind_eq_some_iff.mp hf; clear hf; obtain ⟨a8, ha8, hf⟩ := hf9
  replace hZ := hZ.add (r := some a8) (k := 21) (Nat.succ_ne_zero _) (fun q hq => by cases hq; exact hZ.k 0 rfl ha8)
  rw [ha8]
  have hf9 := wd_gd_e hf; clear hf; obtain ⟨h9, hf⟩ := hf9
  refine z_iast hx hb hK hZ (hZ.k 0 rfl rfl) h9 dX2_writeNote_32 ?_; clear hZ; intro H locs hZ
  have hf9 := wd_let_e hf; clear hf; obtain ⟨w10, e11, hf⟩ := hf9
  rw [e11] at hZ
  refine lv_aload_n (i := 0) hx hb dX2_writeNote_33 rfl (lv_at hl 1 rfl) ?_
  refine z_getR (tk := 20) fd_209 rfl hx hb hts hown hK hZ (hZ.k 4 rfl rfl) tw_221 dX2_writeNote_34 ?_; clear hZ; intro hZ
  refine lv_iload_n (i := 2) hx hb dX2_writeNote_37 rfl (lv_at hl 0 rfl) ?_
  refine lv_iconst (v := 2) hx hb dX2_writeNote_38 (by decide) ?_
  refine lv_iadd hx hb dX2_writeNote_39 ?_
  refine lv_aload_n (i := 1) hx hb dX2_writeNote_40 rfl (lv_at hl 2 rfl) ?_
  refine z_getI fd_403 rfl hx hb hts hown hK hZ (hZ.k 6 rfl rfl) tw_693 dX2_writeNote_41 ?_
  have hf9 := Option.bind_eq_some_iff.mp hf; clear hf; obtain ⟨a12, ha12, hf⟩ := hf9
  replace hZ := hZ.add (r := some a12) (k := 21) (Nat.succ_ne_zero _) (fun q hq => by cases hq; exact hZ.k 0 rfl ha12)
  rw [ha12]
  have hf9 := wd_gd_e hf; clear hf; obtain ⟨h13, hf⟩ := hf9
  refine z_iast hx hb hK hZ (hZ.k 0 rfl rfl) h13 dX2_writeNote_44 ?_; clear hZ; intro H locs hZ
  have hf9 := wd_let_e hf; clear hf; obtain ⟨w14, e15, hf⟩ := hf9
  rw [e15] at hZ
  refine lv_aload_n (i := 0) hx hb dX2_writeNote_45 rfl (lv_at hl 1 rfl) ?_
  refine z_getR (tk := 20) fd_209 rfl hx hb hts hown hK hZ (hZ.k 6 rfl rfl) tw_221 dX2_writeNote_46 ?_; clear hZ; intro hZ
  refine lv_iload_n (i := 2) hx hb dX2_writeNote_49 rfl (lv_at hl 0 rfl) ?_
  refine lv_iconst (v := 3) hx hb dX2_writeNote_50 (by decide) ?_
  refine lv_iadd hx hb dX2_writeNote_51 ?_
  refine lv_aload_n (i := 1) hx hb dX2_writeNote_52 rfl (lv_at hl 2 rfl) ?_
  refine z_getI fd_404 rfl hx hb hts hown hK hZ (hZ.k 8 rfl rfl) tw_696 dX2_writeNote_53 ?_
  have hf9 := Option.bind_eq_some_iff.mp hf; clear hf; obtain ⟨a16, ha16, hf⟩ := hf9
  replace hZ := hZ.add (r := some a16) (k := 21) (Nat.succ_ne_zero _) (fun q hq => by cases hq; exact hZ.k 0 rfl ha16)
  rw [ha16]
  have hf9 := wd_gd_e hf; clear hf; obtain ⟨h17, hf⟩ := hf9
  refine z_iast hx hb hK hZ (hZ.k 0 rfl rfl) h17 dX2_writeNote_56 ?_; clear hZ; intro H locs hZ
  have hf9 := wd_let_e hf; clear hf; obtain ⟨w18, e19, hf⟩ := hf9
  rw [e19] at hZ
  refine lv_aload_n (i := 0) hx hb dX2_writeNote_57 rfl (lv_at hl 1 rfl) ?_
  refine z_getR (tk := 20) fd_209 rfl hx hb hts hown hK hZ (hZ.k 8 rfl rfl) tw_221 dX2_writeNote_58 ?_; clear hZ; intro hZ
  refine lv_iload_n (i := 2) hx hb dX2_writeNote_61 rfl (lv_at hl 0 rfl) ?_
  refine lv_iconst (v := 4) hx hb dX2_writeNote_62 (by decide) ?_
  refine lv_iadd hx hb dX2_writeNote_63 ?_
  refine lv_aload_n (i := 1) hx hb dX2_writeNote_64 rfl (lv_at hl 2 rfl) ?_
  refine z_getI fd_405 rfl hx hb hts hown hK hZ (hZ.k 10 rfl rfl) tw_701 dX2_writeNote_65 ?_
  have hf9 := Option.bind_eq_some_iff.mp hf; clear hf; obtain ⟨a20, ha20, hf⟩ := hf9
  replace hZ := hZ.add (r := some a20) (k := 21) (Nat.succ_ne_zero _) (fun q hq => by cases hq; exact hZ.k 0 rfl ha20)
  rw [ha20]
  have hf9 := wd_gd_e hf; clear hf; obtain ⟨h21, hf⟩ := hf9
  refine z_iast hx hb hK hZ (hZ.k 0 rfl rfl) h21 dX2_writeNote_68 ?_; clear hZ; intro H locs hZ
  have hf9 := wd_let_e hf; clear hf; obtain ⟨w22, e23, hf⟩ := hf9
  rw [e23] at hZ
  refine lv_aload_n (i := 0) hx hb dX2_writeNote_69 rfl (lv_at hl 1 rfl) ?_
  refine z_getR (tk := 20) fd_209 rfl hx hb hts hown hK hZ (hZ.k 10 rfl rfl) tw_221 dX2_writeNote_70 ?_; clear hZ; intro hZ
  refine lv_iload_n (i := 2) hx hb dX2_writeNote_73 rfl (lv_at hl 0 rfl) ?_
  refine lv_iconst (v := 5) hx hb dX2_writeNote_74 (by decide) ?_
  refine lv_iadd hx hb dX2_writeNote_75 ?_
  refine lv_aload_n (i := 1) hx hb dX2_writeNote_76 rfl (lv_at hl 2 rfl) ?_
  refine z_getI fd_406 rfl hx hb hts hown hK hZ (hZ.k 12 rfl rfl) tw_704 dX2_writeNote_77 ?_
  have hf9 := Option.bind_eq_some_iff.mp hf; clear hf; obtain ⟨a24, ha24, hf⟩ := hf9
  replace hZ := hZ.add (r := some a24) (k := 21) (Nat.succ_ne_zero _) (fun q hq => by cases hq; exact hZ.k 0 rfl ha24)
  rw [ha24]
  have hf9 := wd_gd_e hf; clear hf; obtain ⟨h25, hf⟩ := hf9
  refine z_iast hx hb hK hZ (hZ.k 0 rfl rfl) h25 dX2_writeNote_80 ?_; clear hZ; intro H locs hZ
  have hf9 := wd_let_e hf; clear hf; obtain ⟨w26, e27, hf⟩ := hf9
  rw [e27] at hZ
  refine lv_aload_n (i := 0) hx hb dX2_writeNote_81 rfl (lv_at hl 1 rfl) ?_
  refine lv_dup hx hb dX2_writeNote_82 rfl ?_
  refine z_getI fd_203 rfl hx hb hts hown hK hZ (hZ.k 12 rfl rfl) tw_213 dX2_writeNote_83 ?_
  refine lv_iconst (v := 1) hx hb dX2_writeNote_86 (by decide) ?_
  refine lv_iadd hx hb dX2_writeNote_87 ?_
  refine z_putI fd_203 cok_2 rfl rfl rfl rfl rfl hx hb hts hown hK hZ (hZ.k 12 rfl rfl) tw_213 dX2_writeNote_88 ?_; clear hZ; intro H locs hZ
  have hf9 := wd_let_e hf; clear hf; obtain ⟨w28, e29, hf⟩ := hf9
  rw [e29] at hZ
  obtain rfl := Option.some.inj hf
  exact z_vret hx hb hr hlocks hZ trivial dX2_writeNote_91

def f_X2_isTold_j22 (n : Nat) (w : Wd) : Option (Int32 × Wd) :=
  some ((0 : Int32), w)
def f_X2_isTold (n : Nat) (w : Wd) (this : Nat) (p0 : Int32) : Option (Int32 × Wd) :=
  if p0 < 0 then
    f_X2_isTold_j22 n w
  else
    if (10 : Int32) ≤ p0 then
      f_X2_isTold_j22 n w
    else
      if (wd_I w 203 this) ≤ p0 then
        f_X2_isTold_j22 n w
      else
        some ((1 : Int32), w)
set_option maxHeartbeats 4000000 in
set_option maxRecDepth 100000 in
theorem v_X2_isTold_j22 {p : Program} {l : Launch} {e : Env} {R : Room} {s : State} {m : MethodId} {args : Array Value} {below : List Frame} {meth : Method} {c : Code} {E : wd_E} {w0 : Wd} {r' : Int32} {w' : Wd} (n : Nat) (C : wd_X p s m args meth c cX2_isTold RX2 2 (some .boolean) "isTold" E) (hR : 0 ≤ R.frames ∧ 0 ≤ R.locals) (w : Wd) (H : Heap) (locs : List Loc) (cells slots : Nat) (ls : Array Slot) (hZ : wd_Z E w0 R s w H locs cells slots []) (hl : lv_has ls 2 []) (hf : f_X2_isTold_j22 n w = some (r', w')) : W p l e R s m args below meth c H locs cells slots (wd_fin E w0 (some (.int r')) w' True R args s below) (F0 m 22 ls []) := by
  obtain ⟨hx, hb, hr, hml, hts, hown, hlocks, hmn, hK⟩ := id C
  unfold f_X2_isTold_j22 at hf
  refine lv_iconst (v := 0) hx hb dX2_isTold_22 (by decide) ?_
  obtain ⟨rfl, rfl⟩ := Prod.mk.inj (Option.some.inj hf)
  exact z_zret (by decide) hx hb hr hlocks hZ trivial dX2_isTold_23

set_option maxHeartbeats 4000000 in
set_option maxRecDepth 100000 in
theorem c_X2_isTold (l : Launch) (E : wd_E) (n : Nat) (w : Wd) (this : Nat) (p0 : Int32) (r' : Int32) (w' : Wd) (k_this : wd_K w this = 3) (hf : f_X2_isTold n w this p0 = some (r', w')) : wd_C l E yX2_isTold cX2_isTold 2 (some .boolean) 0 0 [.ref this, .int p0] w (some (.int r')) w' True := by
  refine wd_ofW (own := RX2) (nm := "isTold") (ks := [(some this, 3)]) (lv := [(0, .ref this), (1, .int p0)]) (by decide) rfl rfl (Nat.le_of_ble_eq_true rfl) rfl (List.forall_mem_cons.mpr ⟨⟨Nat.succ_ne_zero _, fun q hq => by cases hq; exact k_this⟩, (fun _ hq => absurd hq List.not_mem_nil)⟩) ?_
  intro p e s m args below meth c R H locs cells slots ls C hR hZ hl
  obtain ⟨hx, hb, hr, hml, hts, hown, hlocks, hmn, hK⟩ := id C
  unfold f_X2_isTold at hf
  refine lv_iload_n (i := 1) hx hb dX2_isTold_0 rfl (lv_at hl 1 rfl) ?_
  refine lv_if_lt (tgt := 22) hx hb dX2_isTold_1 (by decide) (fun h1 => ?_) (fun h1 => ?_)
  · replace hf := wd_ite_p h1 hf
    exact v_X2_isTold_j22 n C hR w _ _ _ _ _ ⟨hZ.1, hZ.2.1, hZ.2.2.1, hZ.2.2.2.1, (fun _ hq => absurd hq List.not_mem_nil), hZ.2.2.2.2.2⟩ (lv_sub hl [] rfl) hf
  · replace hf := wd_ite_n h1 hf
    refine lv_iload_n (i := 1) hx hb dX2_isTold_4 rfl (lv_at hl 1 rfl) ?_
    refine lv_bipush (v := 10) hx hb dX2_isTold_5 (by decide) ?_
    refine lv_icmp_ge (tgt := 22) hx hb dX2_isTold_7 (by decide) (fun h2 => ?_) (fun h2 => ?_)
    · replace hf := wd_ite_p h2 hf
      exact v_X2_isTold_j22 n C hR w _ _ _ _ _ ⟨hZ.1, hZ.2.1, hZ.2.2.1, hZ.2.2.2.1, (fun _ hq => absurd hq List.not_mem_nil), hZ.2.2.2.2.2⟩ (lv_sub hl [] rfl) hf
    · replace hf := wd_ite_n h2 hf
      refine lv_iload_n (i := 1) hx hb dX2_isTold_10 rfl (lv_at hl 1 rfl) ?_
      refine lv_aload_n (i := 0) hx hb dX2_isTold_11 rfl (lv_at hl 0 rfl) ?_
      refine z_getI fd_203 rfl hx hb hts hown hK hZ (hZ.k 0 rfl rfl) tw_213 dX2_isTold_12 ?_
      refine lv_icmp_ge (tgt := 22) hx hb dX2_isTold_15 (by decide) (fun h3 => ?_) (fun h3 => ?_)
      · replace hf := wd_ite_p h3 hf
        exact v_X2_isTold_j22 n C hR w _ _ _ _ _ ⟨hZ.1, hZ.2.1, hZ.2.2.1, hZ.2.2.2.1, (fun _ hq => absurd hq List.not_mem_nil), hZ.2.2.2.2.2⟩ (lv_sub hl [] rfl) hf
      · replace hf := wd_ite_n h3 hf
        refine lv_iconst (v := 1) hx hb dX2_isTold_18 (by decide) ?_
        refine lv_goto (tgt := 23) hx hb dX2_isTold_19 (by decide) ?_
        obtain ⟨rfl, rfl⟩ := Prod.mk.inj (Option.some.inj hf)
        exact z_zret (by decide) hx hb hr hlocks hZ trivial dX2_isTold_23

def f_X2_notePart_j18 (n : Nat) (w : Wd) : Option (Int32 × Wd) :=
  some ((-1 : Int32), w)
def f_X2_notePart (n : Nat) (w : Wd) (this : Nat) (p0 : Int32) (p1 : Int32) : Option (Int32 × Wd) :=
  wd_b2 (f_X2_isTold n w this p0) fun r3 w1 =>
  if r3 = 0 then
    f_X2_notePart_j18 n w1
  else
    if p1 < 0 then
      f_X2_notePart_j18 n w1
    else
      if p1 < (6 : Int32) then
        Option.bind (wd_R w1 209 this) fun a7 =>
        wd_gd (((((((wd_I w1 203 this) - (1 : Int32)) - p0) - (((wd_I w1 203 this) - (1 : Int32)) - p0) / (10 : Int32) * (10 : Int32)) * (6 : Int32)) + p1) < 0 ∨ wd_N w1 a7 ≤ ((((((wd_I w1 203 this) - (1 : Int32)) - p0) - (((wd_I w1 203 this) - (1 : Int32)) - p0) / (10 : Int32) * (10 : Int32)) * (6 : Int32)) + p1).toNatClampNeg) <|
        some ((wd_A w1 a7 ((((((wd_I w1 203 this) - (1 : Int32)) - p0) - (((wd_I w1 203 this) - (1 : Int32)) - p0) / (10 : Int32) * (10 : Int32)) * (6 : Int32)) + p1).toNatClampNeg), w1)
      else
        f_X2_notePart_j18 n w1
set_option maxHeartbeats 4000000 in
set_option maxRecDepth 100000 in
theorem v_X2_notePart_j18 {p : Program} {l : Launch} {e : Env} {R : Room} {s : State} {m : MethodId} {args : Array Value} {below : List Frame} {meth : Method} {c : Code} {E : wd_E} {w0 : Wd} {r' : Int32} {w' : Wd} (n : Nat) (C : wd_X p s m args meth c cX2_notePart RX2 3 (some .int) "notePart" E) (hR : 1 ≤ R.frames ∧ 21 ≤ R.locals) (w : Wd) (H : Heap) (locs : List Loc) (cells slots : Nat) (ls : Array Slot) (hZ : wd_Z E w0 R s w H locs cells slots []) (hl : lv_has ls 3 []) (hf : f_X2_notePart_j18 n w = some (r', w')) : W p l e R s m args below meth c H locs cells slots (wd_fin E w0 (some (.int r')) w' True R args s below) (F0 m 18 ls []) := by
  obtain ⟨hx, hb, hr, hml, hts, hown, hlocks, hmn, hK⟩ := id C
  unfold f_X2_notePart_j18 at hf
  refine lv_iconst (v := -1) hx hb dX2_notePart_18 (by decide) ?_
  obtain ⟨rfl, rfl⟩ := Prod.mk.inj (Option.some.inj hf)
  exact z_iret hx hb hr hlocks hZ trivial dX2_notePart_19

set_option maxHeartbeats 4000000 in
set_option maxRecDepth 100000 in
theorem c_X2_notePart (l : Launch) (E : wd_E) (n : Nat) (w : Wd) (this : Nat) (p0 : Int32) (p1 : Int32) (r' : Int32) (w' : Wd) (k_this : wd_K w this = 3) (hf : f_X2_notePart n w this p0 p1 = some (r', w')) : wd_C l E yX2_notePart cX2_notePart 3 (some .int) 1 21 [.ref this, .int p0, .int p1] w (some (.int r')) w' True := by
  refine wd_ofW (own := RX2) (nm := "notePart") (ks := [(some this, 3)]) (lv := [(0, .ref this), (1, .int p0), (2, .int p1)]) (by decide) rfl rfl (Nat.le_of_ble_eq_true rfl) rfl (List.forall_mem_cons.mpr ⟨⟨Nat.succ_ne_zero _, fun q hq => by cases hq; exact k_this⟩, (fun _ hq => absurd hq List.not_mem_nil)⟩) ?_
  intro p e s m args below meth c R H locs cells slots ls C hR hZ hl
  obtain ⟨hx, hb, hr, hml, hts, hown, hlocks, hmn, hK⟩ := id C
  unfold f_X2_notePart at hf
  refine lv_aload_n (i := 0) hx hb dX2_notePart_0 rfl (lv_at hl 0 rfl) ?_
  refine lv_iload_n (i := 1) hx hb dX2_notePart_1 rfl (lv_at hl 1 rfl) ?_
  have hf9 := wd_b2_e hf; clear hf; obtain ⟨r3, w1, hc2, hf⟩ := hf9
  refine z_callV (ci := 2) (As := [.int p0]) (rest := []) (c_X2_isTold l E n w this p0 r3 w1 (hZ.k 0 rfl rfl) hc2) mo_X2_isTold rfl (by decide) rfl tw_475 tw_476 tw_482 hx hb hml hts hown hK ⟨Nat.le_trans (by decide) hR.1, Nat.le_trans (by decide) hR.2⟩ hZ (hZ.k 0 rfl rfl) rfl hl.1 rfl (Nat.le_of_ble_eq_true rfl) rfl dX2_notePart_2 ?_; clear hZ; intro H locs cells slots hX hZ
  refine lv_if_eq (tgt := 18) hx hb dX2_notePart_5 (by decide) (fun h4 => ?_) (fun h4 => ?_)
  · replace hf := wd_ite_p h4 hf
    exact v_X2_notePart_j18 n C hR w1 _ _ _ _ _ ⟨hZ.1, hZ.2.1, hZ.2.2.1, hZ.2.2.2.1, (fun _ hq => absurd hq List.not_mem_nil), hZ.2.2.2.2.2⟩ (lv_sub hl [] rfl) hf
  · replace hf := wd_ite_n h4 hf
    refine lv_iload_n (i := 2) hx hb dX2_notePart_8 rfl (lv_at hl 2 rfl) ?_
    refine lv_if_lt (tgt := 18) hx hb dX2_notePart_9 (by decide) (fun h5 => ?_) (fun h5 => ?_)
    · replace hf := wd_ite_p h5 hf
      exact v_X2_notePart_j18 n C hR w1 _ _ _ _ _ ⟨hZ.1, hZ.2.1, hZ.2.2.1, hZ.2.2.2.1, (fun _ hq => absurd hq List.not_mem_nil), hZ.2.2.2.2.2⟩ (lv_sub hl [] rfl) hf
    · replace hf := wd_ite_n h5 hf
      refine lv_iload_n (i := 2) hx hb dX2_notePart_12 rfl (lv_at hl 2 rfl) ?_
      refine lv_bipush (v := 6) hx hb dX2_notePart_13 (by decide) ?_
      refine lv_icmp_lt (tgt := 20) hx hb dX2_notePart_15 (by decide) (fun h6 => ?_) (fun h6 => ?_)
      · replace hf := wd_ite_p h6 hf
        refine lv_aload_n (i := 0) hx hb dX2_notePart_20 rfl (lv_at hl 0 rfl) ?_
        refine z_getR (tk := 20) fd_209 rfl hx hb hts hown hK hZ (hZ.k 0 rfl rfl) tw_221 dX2_notePart_21 ?_; clear hZ; intro hZ
        refine lv_aload_n (i := 0) hx hb dX2_notePart_24 rfl (lv_at hl 0 rfl) ?_
        refine z_getI fd_203 rfl hx hb hts hown hK hZ (hZ.k 1 rfl rfl) tw_213 dX2_notePart_25 ?_
        refine lv_iconst (v := 1) hx hb dX2_notePart_28 (by decide) ?_
        refine lv_isub hx hb dX2_notePart_29 ?_
        refine lv_iload_n (i := 1) hx hb dX2_notePart_30 rfl (lv_at hl 1 rfl) ?_
        refine lv_isub hx hb dX2_notePart_31 ?_
        refine lv_bipush (v := 10) hx hb dX2_notePart_32 (by decide) ?_
        refine lv_irem hx hb dX2_notePart_34 (by decide) ?_
        refine lv_bipush (v := 6) hx hb dX2_notePart_35 (by decide) ?_
        refine lv_imul hx hb dX2_notePart_37 ?_
        refine lv_iload_n (i := 2) hx hb dX2_notePart_38 rfl (lv_at hl 2 rfl) ?_
        refine lv_iadd hx hb dX2_notePart_39 ?_
        have hf9 := Option.bind_eq_some_iff.mp hf; clear hf; obtain ⟨a7, ha7, hf⟩ := hf9
        replace hZ := hZ.add (r := some a7) (k := 21) (Nat.succ_ne_zero _) (fun q hq => by cases hq; exact hZ.k 0 rfl ha7)
        rw [ha7]
        have hf9 := wd_gd_e hf; clear hf; obtain ⟨h8, hf⟩ := hf9
        refine z_iald hx hb hK hZ (hZ.k 0 rfl rfl) h8 dX2_notePart_40 ?_
        obtain ⟨rfl, rfl⟩ := Prod.mk.inj (Option.some.inj hf)
        exact z_iret hx hb hr hlocks hZ trivial dX2_notePart_41
      · replace hf := wd_ite_n h6 hf
        exact v_X2_notePart_j18 n C hR w1 _ _ _ _ _ ⟨hZ.1, hZ.2.1, hZ.2.2.1, hZ.2.2.2.1, (fun _ hq => absurd hq List.not_mem_nil), hZ.2.2.2.2.2⟩ (lv_sub hl [] rfl) hf

