/-! ===== meanings and contracts, laid by wip/p33/gen ===== -/
def f_X9_bear (n : Nat) (w : Wd) (this : Nat) (p0 : Int32) (p1 : Int32) (p2 : Int32) (p3 : Int32) : Option (Option Nat × Wd) :=
  Option.bind (wd_R w 905 this) fun a1 =>
  wd_b2 (f_X6_take n w a1) fun r4 w2 =>
  Option.bind r4 fun a5 =>
  wd_let (wd_sI w2 400 a5 p0) fun w6 =>
  wd_let (wd_sI w6 401 a5 p1) fun w8 =>
  wd_let (wd_sI w8 402 a5 p2) fun w10 =>
  wd_let (wd_sI w10 403 a5 p3) fun w12 =>
  wd_let (wd_sI w12 404 a5 (32 : Int32)) fun w14 =>
  wd_let (wd_sI w14 405 a5 (wd_I w14 901 this)) fun w16 =>
  wd_let (wd_sI w16 406 a5 (0 : Int32)) fun w18 =>
  wd_let (wd_sI w18 407 a5 (0 : Int32)) fun w20 =>
  wd_let (wd_sI w20 408 a5 (0 : Int32)) fun w22 =>
  wd_let (wd_sI w22 409 a5 (0 : Int32)) fun w24 =>
  wd_let (wd_sR w24 410 a5 none) fun w26 =>
  wd_let (wd_sI w26 901 this ((wd_I w26 901 this) + (1 : Int32))) fun w28 =>
  some ((some a5), w28)
set_option maxHeartbeats 4000000 in
set_option maxRecDepth 100000 in
theorem c_X9_bear (l : Launch) (E : wd_E) (n : Nat) (w : Wd) (this : Nat) (p0 : Int32) (p1 : Int32) (p2 : Int32) (p3 : Int32) (r' : Option Nat) (w' : Wd) (k_this : wd_K w this = 10) (hf : f_X9_bear n w this p0 p1 p2 p3 = some (r', w')) : wd_C l E yX9_bear cX9_bear 6 (some (.object "SeamarkNet$Packet")) 3 65 [.ref this, .int p0, .int p1, .int p2, .int p3] w (some (va_rf r')) w' (∀ q, r' = some q → wd_K w' q = 5) := by
  refine wd_ofW (own := RX9) (nm := "bear") (ks := [(some this, 10)]) (lv := [(0, .ref this), (1, .int p0), (2, .int p1), (3, .int p2), (4, .int p3)]) (by decide) rfl rfl (Nat.le_of_ble_eq_true rfl) rfl (List.forall_mem_cons.mpr ⟨⟨by decide, fun q hq => by cases hq; exact k_this⟩, (fun _ hq => absurd hq List.not_mem_nil)⟩) ?_
  intro p e s m args below meth c R H ls C hR hZ hl
  obtain ⟨hx, hb, hr, hml, hts, hown, hlocks, hmn, hK⟩ := id C
  unfold f_X9_bear at hf
  refine lv_aload_n hx hb dX9_bear_0 rfl (lv_at hl 0 rfl) ?_
  refine z_getR (tk := 6) fd_905 rfl hx hb hts hown hK hZ (hZ.k 0 rfl rfl) tw_252 dX9_bear_1 (fun hZ => ?_)
  obtain ⟨a1, ha1, hf⟩ := Option.bind_eq_some_iff.mp hf
  have hZ := hZ.add (r := some a1) (k := 7) (by decide) (fun q hq => by cases hq; exact hZ.k 0 rfl ha1)
  rw [ha1]
  obtain ⟨r4, w2, hc3, hf⟩ := wd_b2_e hf
  refine z_callV (ci := 6) (As := []) (rest := []) (c_X6_take l E n w a1 r4 w2 (hZ.k 0 rfl rfl) hc3) mo_X6_take rfl (by decide) rfl tw_670 tw_671 tw_669 hx hb hml hts hown hK ⟨Nat.le_trans (by decide) hR.1, Nat.le_trans (by decide) hR.2⟩ hZ (hZ.k 0 rfl rfl) rfl hl.1 rfl (Nat.le_of_ble_eq_true rfl) rfl dX9_bear_4 (fun H locs cells slots hX hZ => ?_)
  have hZ := hZ.add (by decide) hX
  refine z_astore (lv' := [(5, va_rf r4), (0, .ref this), (1, .int p0), (2, .int p1), (3, .int p2), (4, .int p3)]) hx hb dX9_bear_7 hl (by decide) rfl (fun ls hl => ?_)
  refine z_aload hx hb dX9_bear_9 (lv_at hl 0 rfl) ?_
  refine lv_iload_n hx hb dX9_bear_11 rfl (lv_at hl 2 rfl) ?_
  obtain ⟨a5, ha5, hf⟩ := Option.bind_eq_some_iff.mp hf
  subst ha5
  have hl : lv_has ls 6 [(5, .ref a5), (0, .ref this), (1, .int p0), (2, .int p1), (3, .int p2), (4, .int p3)] := hl
  have hZ : wd_Z E w R s w2 H locs cells slots [(some a5, 5), (some a1, 7), ((wd_R w 905 this), 7), (some this, 10)] := hZ
  refine z_putI fd_400 cok_4 rfl rfl rfl rfl rfl hx hb hts hown hK hZ (hZ.k 0 rfl rfl) tw_681 dX9_bear_12 (fun H locs hZ => ?_)
  obtain ⟨w6, e7, hf⟩ := wd_let_e hf
  rw [e7] at hZ
  refine lv_aload hx hb dX9_bear_15 (lv_at hl 0 rfl) ?_
  refine lv_iload_n hx hb dX9_bear_17 rfl (lv_at hl 3 rfl) ?_
  refine z_putI fd_401 cok_4 rfl rfl rfl rfl rfl hx hb hts hown hK hZ (hZ.k 0 rfl rfl) tw_685 dX9_bear_18 (fun H locs hZ => ?_)
  obtain ⟨w8, e9, hf⟩ := wd_let_e hf
  rw [e9] at hZ
  refine lv_aload hx hb dX9_bear_21 (lv_at hl 0 rfl) ?_
  refine lv_iload_n hx hb dX9_bear_23 rfl (lv_at hl 4 rfl) ?_
  refine z_putI fd_402 cok_4 rfl rfl rfl rfl rfl hx hb hts hown hK hZ (hZ.k 0 rfl rfl) tw_688 dX9_bear_24 (fun H locs hZ => ?_)
  obtain ⟨w10, e11, hf⟩ := wd_let_e hf
  rw [e11] at hZ
  refine lv_aload hx hb dX9_bear_27 (lv_at hl 0 rfl) ?_
  refine lv_iload hx hb dX9_bear_29 (lv_at hl 5 rfl) ?_
  refine z_putI fd_403 cok_4 rfl rfl rfl rfl rfl hx hb hts hown hK hZ (hZ.k 0 rfl rfl) tw_692 dX9_bear_31 (fun H locs hZ => ?_)
  obtain ⟨w12, e13, hf⟩ := wd_let_e hf
  rw [e13] at hZ
  refine lv_aload hx hb dX9_bear_34 (lv_at hl 0 rfl) ?_
  refine lv_bipush (v := 32) hx hb dX9_bear_36 (by decide) ?_
  refine z_putI fd_404 cok_4 rfl rfl rfl rfl rfl hx hb hts hown hK hZ (hZ.k 0 rfl rfl) tw_695 dX9_bear_38 (fun H locs hZ => ?_)
  obtain ⟨w14, e15, hf⟩ := wd_let_e hf
  rw [e15] at hZ
  refine lv_aload hx hb dX9_bear_41 (lv_at hl 0 rfl) ?_
  refine lv_aload_n hx hb dX9_bear_43 rfl (lv_at hl 1 rfl) ?_
  refine z_getI fd_901 rfl hx hb hts hown hK hZ (hZ.k 3 rfl rfl) tw_245 dX9_bear_44 ?_
  refine z_putI fd_405 cok_4 rfl rfl rfl rfl rfl hx hb hts hown hK hZ (hZ.k 0 rfl rfl) tw_700 dX9_bear_47 (fun H locs hZ => ?_)
  obtain ⟨w16, e17, hf⟩ := wd_let_e hf
  rw [e17] at hZ
  refine lv_aload hx hb dX9_bear_50 (lv_at hl 0 rfl) ?_
  refine lv_iconst (v := 0) hx hb dX9_bear_52 (by decide) ?_
  refine z_putI fd_406 cok_4 rfl rfl rfl rfl rfl hx hb hts hown hK hZ (hZ.k 0 rfl rfl) tw_703 dX9_bear_53 (fun H locs hZ => ?_)
  obtain ⟨w18, e19, hf⟩ := wd_let_e hf
  rw [e19] at hZ
  refine lv_aload hx hb dX9_bear_56 (lv_at hl 0 rfl) ?_
  refine lv_iconst (v := 0) hx hb dX9_bear_58 (by decide) ?_
  refine z_putI fd_407 cok_4 rfl rfl rfl rfl rfl hx hb hts hown hK hZ (hZ.k 0 rfl rfl) tw_708 dX9_bear_59 (fun H locs hZ => ?_)
  obtain ⟨w20, e21, hf⟩ := wd_let_e hf
  rw [e21] at hZ
  refine lv_aload hx hb dX9_bear_62 (lv_at hl 0 rfl) ?_
  refine lv_iconst (v := 0) hx hb dX9_bear_64 (by decide) ?_
  refine z_putI fd_408 cok_4 rfl rfl rfl (by decide) (by decide) hx hb hts hown hK hZ (hZ.k 0 rfl rfl) tw_711 dX9_bear_65 (fun H locs hZ => ?_)
  obtain ⟨w22, e23, hf⟩ := wd_let_e hf
  rw [e23] at hZ
  refine lv_aload hx hb dX9_bear_68 (lv_at hl 0 rfl) ?_
  refine lv_iconst (v := 0) hx hb dX9_bear_70 (by decide) ?_
  refine z_putI fd_409 cok_4 rfl rfl rfl (by decide) (by decide) hx hb hts hown hK hZ (hZ.k 0 rfl rfl) tw_714 dX9_bear_71 (fun H locs hZ => ?_)
  obtain ⟨w24, e25, hf⟩ := wd_let_e hf
  rw [e25] at hZ
  refine lv_aload hx hb dX9_bear_74 (lv_at hl 0 rfl) ?_
  refine z_null hx hb dX9_bear_76 ?_
  refine z_putR (r := none) rfl fd_410 cok_4 (tk := 4) rfl (fun q hq => by cases hq) rfl rfl (wd_obO _) hx hb hts hown hK hZ (hZ.k 0 rfl rfl) tw_717 dX9_bear_77 (fun H locs hZ => ?_)
  obtain ⟨w26, e27, hf⟩ := wd_let_e hf
  rw [e27] at hZ
  refine lv_aload_n hx hb dX9_bear_80 rfl (lv_at hl 1 rfl) ?_
  refine lv_dup hx hb dX9_bear_81 rfl ?_
  refine z_getI fd_901 rfl hx hb hts hown hK hZ (hZ.k 3 rfl rfl) tw_245 dX9_bear_82 ?_
  refine lv_iconst (v := 1) hx hb dX9_bear_85 (by decide) ?_
  refine lv_iadd hx hb dX9_bear_86 ?_
  refine z_putI fd_901 cok_9 rfl rfl rfl rfl rfl hx hb hts hown hK hZ (hZ.k 3 rfl rfl) tw_245 dX9_bear_87 (fun H locs hZ => ?_)
  obtain ⟨w28, e29, hf⟩ := wd_let_e hf
  rw [e29] at hZ
  refine lv_aload hx hb dX9_bear_90 (lv_at hl 0 rfl) ?_
  obtain ⟨rfl, rfl⟩ := Prod.mk.inj (Option.some.inj hf)
  exact z_aret rfl hx hb hr hlocks hZ (fun q hq => by cases hq; exact (hZ.k 0 rfl rfl)) dX9_bear_92

def f_X9_accept (n : Nat) (w : Wd) (this : Nat) (p0 : Option Nat) (p1 : Option Nat) : Option (Option Nat × Wd) :=
  Option.bind p1 fun a1 =>
  if (wd_I w 400 a1) = (1 : Int32) then
    wd_b2 (f_X9_bear n w this (2 : Int32) (wd_I w 402 a1) (wd_I w 401 a1) (wd_I w 403 a1)) fun r5 w3 =>
    Option.bind r5 fun a6 =>
    wd_let (wd_sI w3 406 a6 (wd_I w3 405 a1)) fun w7 =>
    some ((some a6), w7)
  else
    Option.bind p0 fun a9 =>
    Option.bind (f_X2_writeNote n w a9 (some a1)) fun w10 =>
    some (none, w10)
set_option maxHeartbeats 4000000 in
set_option maxRecDepth 100000 in
theorem c_X9_accept (l : Launch) (E : wd_E) (n : Nat) (w : Wd) (this : Nat) (p0 : Option Nat) (p1 : Option Nat) (r' : Option Nat) (w' : Wd) (k_this : wd_K w this = 10) (k_p0 : ∀ q, p0 = some q → wd_K w q = 3) (k_p1 : ∀ q, p1 = some q → wd_K w q = 5) (hf : f_X9_accept n w this p0 p1 = some (r', w')) : wd_C l E yX9_accept cX9_accept 4 (some (.object "SeamarkNet$Packet")) 4 90 [.ref this, va_rf p0, va_rf p1] w (some (va_rf r')) w' (∀ q, r' = some q → wd_K w' q = 5) := by
  refine wd_ofW (own := RX9) (nm := "accept") (ks := [(some this, 10), (p0, 3), (p1, 5)]) (lv := [(0, .ref this), (1, va_rf p0), (2, va_rf p1)]) (by decide) rfl rfl (by simp [lg_sl, va_rf_cat, Value.category]) (by simp [lv_args, va_rf_cat, Value.category]) (List.forall_mem_cons.mpr ⟨⟨by decide, fun q hq => by cases hq; exact k_this⟩, (List.forall_mem_cons.mpr ⟨⟨by decide, k_p0⟩, (List.forall_mem_cons.mpr ⟨⟨by decide, k_p1⟩, (fun _ hq => absurd hq List.not_mem_nil)⟩)⟩)⟩) ?_
  intro p e s m args below meth c R H ls C hR hZ hl
  obtain ⟨hx, hb, hr, hml, hts, hown, hlocks, hmn, hK⟩ := id C
  unfold f_X9_accept at hf
  refine z_aload_n hx hb dX9_accept_0 rfl (lv_at hl 2 rfl) ?_
  obtain ⟨a1, ha1, hf⟩ := Option.bind_eq_some_iff.mp hf
  subst ha1
  have hl : lv_has ls 4 [(0, .ref this), (1, va_rf p0), (2, .ref a1)] := hl
  have hZ : wd_Z E w R s w H locs cells slots [(some this, 10), (p0, 3), (some a1, 5)] := hZ
  refine z_getI fd_400 rfl hx hb hts hown hK hZ (hZ.k 2 rfl rfl) tw_681 dX9_accept_1 ?_
  refine lv_iconst (v := 1) hx hb dX9_accept_4 (by decide) ?_
  refine lv_icmp_eq (tgt := 15) hx hb dX9_accept_5 (by decide) (fun h2 => ?_) (fun h2 => ?_)
  · have hf := wd_ite_p h2 hf
    refine lv_aload_n hx hb dX9_accept_15 rfl (lv_at hl 0 rfl) ?_
    refine lv_iconst (v := 2) hx hb dX9_accept_16 (by decide) ?_
    refine lv_aload_n hx hb dX9_accept_17 rfl (lv_at hl 2 rfl) ?_
    refine z_getI fd_402 rfl hx hb hts hown hK hZ (hZ.k 2 rfl rfl) tw_688 dX9_accept_18 ?_
    refine lv_aload_n hx hb dX9_accept_21 rfl (lv_at hl 2 rfl) ?_
    refine z_getI fd_401 rfl hx hb hts hown hK hZ (hZ.k 2 rfl rfl) tw_685 dX9_accept_22 ?_
    refine lv_aload_n hx hb dX9_accept_25 rfl (lv_at hl 2 rfl) ?_
    refine z_getI fd_403 rfl hx hb hts hown hK hZ (hZ.k 2 rfl rfl) tw_692 dX9_accept_26 ?_
    obtain ⟨r5, w3, hc4, hf⟩ := wd_b2_e hf
    refine z_callV (ci := 9) (As := [.int (2 : Int32), .int (wd_I w 402 a1), .int (wd_I w 401 a1), .int (wd_I w 403 a1)]) (rest := []) (c_X9_bear l E n w this (2 : Int32) (wd_I w 402 a1) (wd_I w 401 a1) (wd_I w 403 a1) r5 w3 (hZ.k 0 rfl rfl) hc4) mo_X9_bear rfl (by decide) rfl tw_667 tw_10 tw_665 hx hb hml hts hown hK ⟨Nat.le_trans (by decide) hR.1, Nat.le_trans (by decide) hR.2⟩ hZ (hZ.k 0 rfl rfl) rfl hl.1 rfl (Nat.le_of_ble_eq_true rfl) rfl dX9_accept_29 (fun H locs cells slots hX hZ => ?_)
    have hZ := hZ.add (by decide) hX
    refine z_astore_n (lv' := [(3, va_rf r5), (0, .ref this), (1, va_rf p0), (2, .ref a1)]) hx hb dX9_accept_32 rfl hl (by decide) rfl (fun ls hl => ?_)
    refine z_aload_n hx hb dX9_accept_33 rfl (lv_at hl 0 rfl) ?_
    refine lv_aload_n hx hb dX9_accept_34 rfl (lv_at hl 3 rfl) ?_
    refine z_getI fd_405 rfl hx hb hts hown hK hZ (hZ.k 3 rfl rfl) tw_700 dX9_accept_35 ?_
    obtain ⟨a6, ha6, hf⟩ := Option.bind_eq_some_iff.mp hf
    subst ha6
    have hl : lv_has ls 4 [(3, .ref a6), (0, .ref this), (1, va_rf p0), (2, .ref a1)] := hl
    have hZ : wd_Z E w R s w3 H locs cells slots [(some a6, 5), (some this, 10), (p0, 3), (some a1, 5)] := hZ
    refine z_putI fd_406 cok_4 rfl rfl rfl rfl rfl hx hb hts hown hK hZ (hZ.k 0 rfl rfl) tw_703 dX9_accept_38 (fun H locs hZ => ?_)
    obtain ⟨w7, e8, hf⟩ := wd_let_e hf
    rw [e8] at hZ
    refine lv_aload_n hx hb dX9_accept_41 rfl (lv_at hl 0 rfl) ?_
    obtain ⟨rfl, rfl⟩ := Prod.mk.inj (Option.some.inj hf)
    exact z_aret rfl hx hb hr hlocks hZ (fun q hq => by cases hq; exact (hZ.k 0 rfl rfl)) dX9_accept_42
  · have hf := wd_ite_n h2 hf
    refine z_aload_n hx hb dX9_accept_8 rfl (lv_at hl 1 rfl) ?_
    refine lv_aload_n hx hb dX9_accept_9 rfl (lv_at hl 2 rfl) ?_
    obtain ⟨a9, ha9, hf⟩ := Option.bind_eq_some_iff.mp hf
    subst ha9
    have hl : lv_has ls 4 [(0, .ref this), (1, .ref a9), (2, .ref a1)] := hl
    have hZ : wd_Z E w R s w H locs cells slots [(some this, 10), (some a9, 3), (some a1, 5)] := hZ
    obtain ⟨w10, hc11, hf⟩ := Option.bind_eq_some_iff.mp hf
    refine z_callV (ci := 2) (As := [va_rf (some a1)]) (rest := []) (c_X2_writeNote l E n w a9 (some a1) w10 (hZ.k 1 rfl rfl) (fun q hq => by cases hq; exact (hZ.k 2 rfl rfl)) hc11) mo_X2_writeNote rfl (by decide) rfl tw_767 tw_768 tw_766 hx hb hml hts hown hK ⟨Nat.le_trans (by decide) hR.1, Nat.le_trans (by decide) hR.2⟩ hZ (hZ.k 1 rfl rfl) rfl hl.1 rfl (Nat.le_of_ble_eq_true rfl) rfl dX9_accept_10 (fun H locs cells slots hX hZ => ?_)
    refine z_null hx hb dX9_accept_13 ?_
    obtain ⟨rfl, rfl⟩ := Prod.mk.inj (Option.some.inj hf)
    exact z_aret rfl hx hb hr hlocks hZ (fun q hq => by cases hq) dX9_accept_14

def f_X9_canWrap_j37 (n : Nat) (w : Wd) : Option (Int32 × Wd) :=
  some ((0 : Int32), w)
def f_X9_canWrap (n : Nat) (w : Wd) (p0 : Option Nat) (p1 : Option Nat) : Option (Int32 × Wd) :=
  Option.bind p1 fun a1 =>
  Option.bind p0 fun a2 =>
  wd_b2 (f_X3_hopTo n w a2 (wd_I w 402 a1)) fun r5 w3 =>
  wd_b2 (f_X3_farOf n w3 a2 r5) fun r8 w6 =>
  wd_b2 (f_X3_owns n w6 a2 r8) fun r11 w9 =>
  if r11 = 0 then
    wd_b2 (f_X3_portTo n w9 a2 r8) fun r15 w13 =>
    wd_b2 (f_X3_port n w13 a2 r15) fun r18 w16 =>
    wd_on r18 (
      f_X9_canWrap_j37 n w16)
      (fun a19 =>
      some ((1 : Int32), w16))
  else
    f_X9_canWrap_j37 n w9
set_option maxHeartbeats 4000000 in
set_option maxRecDepth 100000 in
theorem v_X9_canWrap_j37 {p : Program} {l : Launch} {e : Env} {R : Room} {s : State} {m : MethodId} {args : Array Value} {below : List Frame} {meth : Method} {c : Code} {E : wd_E} {w0 : Wd} {r' : Int32} {w' : Wd} (n : Nat) (C : wd_X p s m args meth c cX9_canWrap RX9 3 (some .boolean) "canWrap" E) (hR : 1 ≤ R.frames ∧ 23 ≤ R.locals) (w : Wd) (H : Heap) (locs : List Loc) (cells slots : Nat) (ls : Array Slot) (hZ : wd_Z E w0 R s w H locs cells slots []) (hl : lv_has ls 3 []) (hf : f_X9_canWrap_j37 n w = some (r', w')) : W p l e R s m args below meth c H locs cells slots (wd_fin E w0 (some (.int r')) w' True R args s below) (F0 m 37 ls []) := by
  obtain ⟨hx, hb, hr, hml, hts, hown, hlocks, hmn, hK⟩ := id C
  unfold f_X9_canWrap_j37 at hf
  refine lv_iconst (v := 0) hx hb dX9_canWrap_37 (by decide) ?_
  obtain ⟨rfl, rfl⟩ := Prod.mk.inj (Option.some.inj hf)
  exact z_zret (by decide) hx hb hr hlocks hZ trivial dX9_canWrap_38

set_option maxHeartbeats 4000000 in
set_option maxRecDepth 100000 in
theorem c_X9_canWrap (l : Launch) (E : wd_E) (n : Nat) (w : Wd) (p0 : Option Nat) (p1 : Option Nat) (r' : Int32) (w' : Wd) (k_p0 : ∀ q, p0 = some q → wd_K w q = 4) (k_p1 : ∀ q, p1 = some q → wd_K w q = 5) (hf : f_X9_canWrap n w p0 p1 = some (r', w')) : wd_C l E yX9_canWrap cX9_canWrap 3 (some .boolean) 1 23 [va_rf p0, va_rf p1] w (some (.int r')) w' True := by
  refine wd_ofW (own := RX9) (nm := "canWrap") (ks := [(p0, 4), (p1, 5)]) (lv := [(0, va_rf p0), (1, va_rf p1)]) (by decide) rfl rfl (by simp [lg_sl, va_rf_cat, Value.category]) (by simp [lv_args, va_rf_cat, Value.category]) (List.forall_mem_cons.mpr ⟨⟨by decide, k_p0⟩, (List.forall_mem_cons.mpr ⟨⟨by decide, k_p1⟩, (fun _ hq => absurd hq List.not_mem_nil)⟩)⟩) ?_
  intro p e s m args below meth c R H ls C hR hZ hl
  obtain ⟨hx, hb, hr, hml, hts, hown, hlocks, hmn, hK⟩ := id C
  unfold f_X9_canWrap at hf
  refine z_aload_n hx hb dX9_canWrap_0 rfl (lv_at hl 0 rfl) ?_
  refine z_aload_n hx hb dX9_canWrap_1 rfl (lv_at hl 0 rfl) ?_
  refine z_aload_n hx hb dX9_canWrap_2 rfl (lv_at hl 1 rfl) ?_
  obtain ⟨a1, ha1, hf⟩ := Option.bind_eq_some_iff.mp hf
  subst ha1
  have hl : lv_has ls 3 [(0, va_rf p0), (1, .ref a1)] := hl
  have hZ : wd_Z E w R s w H locs cells slots [(p0, 4), (some a1, 5)] := hZ
  refine z_getI fd_402 rfl hx hb hts hown hK hZ (hZ.k 1 rfl rfl) tw_688 dX9_canWrap_3 ?_
  obtain ⟨a2, ha2, hf⟩ := Option.bind_eq_some_iff.mp hf
  subst ha2
  have hl : lv_has ls 3 [(0, .ref a2), (1, .ref a1)] := hl
  have hZ : wd_Z E w R s w H locs cells slots [(some a2, 4), (some a1, 5)] := hZ
  obtain ⟨r5, w3, hc4, hf⟩ := wd_b2_e hf
  refine z_callV (ci := 3) (As := [.int (wd_I w 402 a1)]) (rest := [.ref a2]) (c_X3_hopTo l E n w a2 (wd_I w 402 a1) r5 w3 (hZ.k 0 rfl rfl) hc4) mo_X3_hopTo rfl (by decide) rfl tw_657 tw_658 tw_656 hx hb hml hts hown hK ⟨Nat.le_trans (by decide) hR.1, Nat.le_trans (by decide) hR.2⟩ hZ (hZ.k 0 rfl rfl) rfl hl.1 rfl (Nat.le_of_ble_eq_true rfl) rfl dX9_canWrap_6 (fun H locs cells slots hX hZ => ?_)
  obtain ⟨r8, w6, hc7, hf⟩ := wd_b2_e hf
  refine z_callV (ci := 3) (As := [.int r5]) (rest := []) (c_X3_farOf l E n w3 a2 r5 r8 w6 (hZ.k 0 rfl rfl) hc7) mo_X3_farOf rfl (by decide) rfl tw_661 tw_662 tw_660 hx hb hml hts hown hK ⟨Nat.le_trans (by decide) hR.1, Nat.le_trans (by decide) hR.2⟩ hZ (hZ.k 0 rfl rfl) rfl hl.1 rfl (Nat.le_of_ble_eq_true rfl) rfl dX9_canWrap_9 (fun H locs cells slots hX hZ => ?_)
  refine lv_istore_n (lv' := [(2, .int r8), (0, .ref a2), (1, .ref a1)]) hx hb dX9_canWrap_12 rfl hl (by decide) rfl (fun ls hl => ?_)
  refine lv_aload_n hx hb dX9_canWrap_13 rfl (lv_at hl 1 rfl) ?_
  refine lv_iload_n hx hb dX9_canWrap_14 rfl (lv_at hl 0 rfl) ?_
  obtain ⟨r11, w9, hc10, hf⟩ := wd_b2_e hf
  refine z_callV (ci := 3) (As := [.int r8]) (rest := []) (c_X3_owns l E n w6 a2 r8 r11 w9 (hZ.k 0 rfl rfl) hc10) mo_X3_owns rfl (by decide) rfl tw_649 tw_650 tw_648 hx hb hml hts hown hK ⟨Nat.le_trans (by decide) hR.1, Nat.le_trans (by decide) hR.2⟩ hZ (hZ.k 0 rfl rfl) rfl hl.1 rfl (Nat.le_of_ble_eq_true rfl) rfl dX9_canWrap_15 (fun H locs cells slots hX hZ => ?_)
  refine lv_if_ne (tgt := 37) hx hb dX9_canWrap_18 (by decide) (fun h12 => ?_) (fun h12 => ?_)
  · have hf := wd_ite_n h12 hf
    exact v_X9_canWrap_j37 n C hR w9 _ _ _ _ _ ⟨hZ.1, hZ.2.1, hZ.2.2.1, hZ.2.2.2.1, (fun _ hq => absurd hq List.not_mem_nil), hZ.2.2.2.2.2⟩ (lv_sub hl [] rfl) hf
  · have hf := wd_ite_p h12 hf
    refine lv_aload_n hx hb dX9_canWrap_21 rfl (lv_at hl 1 rfl) ?_
    refine lv_aload_n hx hb dX9_canWrap_22 rfl (lv_at hl 1 rfl) ?_
    refine lv_iload_n hx hb dX9_canWrap_23 rfl (lv_at hl 0 rfl) ?_
    obtain ⟨r15, w13, hc14, hf⟩ := wd_b2_e hf
    refine z_callV (ci := 3) (As := [.int r8]) (rest := [.ref a2]) (c_X3_portTo l E n w9 a2 r8 r15 w13 (hZ.k 0 rfl rfl) hc14) mo_X3_portTo rfl (by decide) rfl tw_653 tw_654 tw_652 hx hb hml hts hown hK ⟨Nat.le_trans (by decide) hR.1, Nat.le_trans (by decide) hR.2⟩ hZ (hZ.k 0 rfl rfl) rfl hl.1 rfl (Nat.le_of_ble_eq_true rfl) rfl dX9_canWrap_24 (fun H locs cells slots hX hZ => ?_)
    obtain ⟨r18, w16, hc17, hf⟩ := wd_b2_e hf
    refine z_callV (ci := 3) (As := [.int r15]) (rest := []) (c_X3_port l E n w13 a2 r15 r18 w16 (hZ.k 0 rfl rfl) hc17) mo_X3_port rfl (by decide) rfl tw_488 tw_489 tw_664 hx hb hml hts hown hK ⟨Nat.le_trans (by decide) hR.1, Nat.le_trans (by decide) hR.2⟩ hZ (hZ.k 0 rfl rfl) rfl hl.1 rfl (Nat.le_of_ble_eq_true rfl) rfl dX9_canWrap_27 (fun H locs cells slots hX hZ => ?_)
    have hZ := hZ.add (by decide) hX
    refine z_ifnull (tgt := 37) hx hb dX9_canWrap_30 (by decide) (fun hn => ?_) (fun a19 ha19 => ?_)
    · have hf := wd_on_n hn hf
      subst hn
      have hl : lv_has ls 3 [(2, .int r8), (0, .ref a2), (1, .ref a1)] := hl
      have hZ : wd_Z E w R s w16 H locs cells slots [(none, 8), (some a2, 4), (some a1, 5)] := hZ
      exact v_X9_canWrap_j37 n C hR w16 _ _ _ _ _ ⟨hZ.1, hZ.2.1, hZ.2.2.1, hZ.2.2.2.1, (fun _ hq => absurd hq List.not_mem_nil), hZ.2.2.2.2.2⟩ (lv_sub hl [] rfl) hf
    · have hf := wd_on_s ha19 hf
      subst ha19
      have hl : lv_has ls 3 [(2, .int r8), (0, .ref a2), (1, .ref a1)] := hl
      have hZ : wd_Z E w R s w16 H locs cells slots [(some a19, 8), (some a2, 4), (some a1, 5)] := hZ
      refine lv_iconst (v := 1) hx hb dX9_canWrap_33 (by decide) ?_
      refine lv_goto (tgt := 38) hx hb dX9_canWrap_34 (by decide) ?_
      obtain ⟨rfl, rfl⟩ := Prod.mk.inj (Option.some.inj hf)
      exact z_zret (by decide) hx hb hr hlocks hZ trivial dX9_canWrap_38

def f_X9_wrap (n : Nat) (w : Wd) (this : Nat) (p0 : Option Nat) (p1 : Option Nat) : Option (Option Nat × Wd) :=
  Option.bind p1 fun a1 =>
  Option.bind p0 fun a2 =>
  wd_b2 (f_X3_hopTo n w a2 (wd_I w 402 a1)) fun r5 w3 =>
  wd_b2 (f_X3_farOf n w3 a2 r5) fun r8 w6 =>
  wd_b2 (f_X9_sourceFor n w6 (some a2) r8) fun r11 w9 =>
  wd_b2 (f_X9_bear n w9 this (6 : Int32) r11 r8 ((wd_I w9 403 a1) + (4 : Int32))) fun r14 w12 =>
  Option.bind r14 fun a15 =>
  wd_let (wd_sR w12 410 a15 (some a1)) fun w16 =>
  some ((some a15), w16)
set_option maxHeartbeats 4000000 in
set_option maxRecDepth 100000 in
theorem c_X9_wrap (l : Launch) (E : wd_E) (n : Nat) (w : Wd) (this : Nat) (p0 : Option Nat) (p1 : Option Nat) (r' : Option Nat) (w' : Wd) (k_this : wd_K w this = 10) (k_p0 : ∀ q, p0 = some q → wd_K w q = 4) (k_p1 : ∀ q, p1 = some q → wd_K w q = 5) (hf : f_X9_wrap n w this p0 p1 = some (r', w')) : wd_C l E yX9_wrap cX9_wrap 5 (some (.object "SeamarkNet$Packet")) 4 90 [.ref this, va_rf p0, va_rf p1] w (some (va_rf r')) w' (∀ q, r' = some q → wd_K w' q = 5) := by
  refine wd_ofW (own := RX9) (nm := "wrap") (ks := [(some this, 10), (p0, 4), (p1, 5)]) (lv := [(0, .ref this), (1, va_rf p0), (2, va_rf p1)]) (by decide) rfl rfl (by simp [lg_sl, va_rf_cat, Value.category]) (by simp [lv_args, va_rf_cat, Value.category]) (List.forall_mem_cons.mpr ⟨⟨by decide, fun q hq => by cases hq; exact k_this⟩, (List.forall_mem_cons.mpr ⟨⟨by decide, k_p0⟩, (List.forall_mem_cons.mpr ⟨⟨by decide, k_p1⟩, (fun _ hq => absurd hq List.not_mem_nil)⟩)⟩)⟩) ?_
  intro p e s m args below meth c R H ls C hR hZ hl
  obtain ⟨hx, hb, hr, hml, hts, hown, hlocks, hmn, hK⟩ := id C
  unfold f_X9_wrap at hf
  refine z_aload_n hx hb dX9_wrap_0 rfl (lv_at hl 1 rfl) ?_
  refine z_aload_n hx hb dX9_wrap_1 rfl (lv_at hl 1 rfl) ?_
  refine z_aload_n hx hb dX9_wrap_2 rfl (lv_at hl 2 rfl) ?_
  obtain ⟨a1, ha1, hf⟩ := Option.bind_eq_some_iff.mp hf
  subst ha1
  have hl : lv_has ls 5 [(0, .ref this), (1, va_rf p0), (2, .ref a1)] := hl
  have hZ : wd_Z E w R s w H locs cells slots [(some this, 10), (p0, 4), (some a1, 5)] := hZ
  refine z_getI fd_402 rfl hx hb hts hown hK hZ (hZ.k 2 rfl rfl) tw_688 dX9_wrap_3 ?_
  obtain ⟨a2, ha2, hf⟩ := Option.bind_eq_some_iff.mp hf
  subst ha2
  have hl : lv_has ls 5 [(0, .ref this), (1, .ref a2), (2, .ref a1)] := hl
  have hZ : wd_Z E w R s w H locs cells slots [(some this, 10), (some a2, 4), (some a1, 5)] := hZ
  obtain ⟨r5, w3, hc4, hf⟩ := wd_b2_e hf
  refine z_callV (ci := 3) (As := [.int (wd_I w 402 a1)]) (rest := [.ref a2]) (c_X3_hopTo l E n w a2 (wd_I w 402 a1) r5 w3 (hZ.k 1 rfl rfl) hc4) mo_X3_hopTo rfl (by decide) rfl tw_657 tw_658 tw_656 hx hb hml hts hown hK ⟨Nat.le_trans (by decide) hR.1, Nat.le_trans (by decide) hR.2⟩ hZ (hZ.k 1 rfl rfl) rfl hl.1 rfl (Nat.le_of_ble_eq_true rfl) rfl dX9_wrap_6 (fun H locs cells slots hX hZ => ?_)
  obtain ⟨r8, w6, hc7, hf⟩ := wd_b2_e hf
  refine z_callV (ci := 3) (As := [.int r5]) (rest := []) (c_X3_farOf l E n w3 a2 r5 r8 w6 (hZ.k 1 rfl rfl) hc7) mo_X3_farOf rfl (by decide) rfl tw_661 tw_662 tw_660 hx hb hml hts hown hK ⟨Nat.le_trans (by decide) hR.1, Nat.le_trans (by decide) hR.2⟩ hZ (hZ.k 1 rfl rfl) rfl hl.1 rfl (Nat.le_of_ble_eq_true rfl) rfl dX9_wrap_9 (fun H locs cells slots hX hZ => ?_)
  refine lv_istore_n (lv' := [(3, .int r8), (0, .ref this), (1, .ref a2), (2, .ref a1)]) hx hb dX9_wrap_12 rfl hl (by decide) rfl (fun ls hl => ?_)
  refine lv_aload_n hx hb dX9_wrap_13 rfl (lv_at hl 1 rfl) ?_
  refine lv_bipush (v := 6) hx hb dX9_wrap_14 (by decide) ?_
  refine lv_aload_n hx hb dX9_wrap_16 rfl (lv_at hl 2 rfl) ?_
  refine lv_iload_n hx hb dX9_wrap_17 rfl (lv_at hl 0 rfl) ?_
  obtain ⟨r11, w9, hc10, hf⟩ := wd_b2_e hf
  refine z_callS (As := [va_rf (some a2), .int r8]) (rest := [.int (6 : Int32), .ref this]) (c_X9_sourceFor l E n w6 (some a2) r8 r11 w9 (fun q hq => by cases hq; exact (hZ.k 1 rfl rfl)) hc10) mo_X9_sourceFor tw_646 tw_645 hx hb hml hts hown hK ⟨Nat.le_trans (by decide) hR.1, Nat.le_trans (by decide) hR.2⟩ hZ rfl hl.1 rfl (Nat.le_of_ble_eq_true rfl) rfl dX9_wrap_18 (fun H locs cells slots hX hZ => ?_)
  refine lv_iload_n hx hb dX9_wrap_21 rfl (lv_at hl 0 rfl) ?_
  refine lv_aload_n hx hb dX9_wrap_22 rfl (lv_at hl 3 rfl) ?_
  refine z_getI fd_403 rfl hx hb hts hown hK hZ (hZ.k 2 rfl rfl) tw_692 dX9_wrap_23 ?_
  refine lv_iconst (v := 4) hx hb dX9_wrap_26 (by decide) ?_
  refine lv_iadd hx hb dX9_wrap_27 ?_
  obtain ⟨r14, w12, hc13, hf⟩ := wd_b2_e hf
  refine z_callV (ci := 9) (As := [.int (6 : Int32), .int r11, .int r8, .int ((wd_I w9 403 a1) + (4 : Int32))]) (rest := []) (c_X9_bear l E n w9 this (6 : Int32) r11 r8 ((wd_I w9 403 a1) + (4 : Int32)) r14 w12 (hZ.k 0 rfl rfl) hc13) mo_X9_bear rfl (by decide) rfl tw_667 tw_10 tw_665 hx hb hml hts hown hK ⟨Nat.le_trans (by decide) hR.1, Nat.le_trans (by decide) hR.2⟩ hZ (hZ.k 0 rfl rfl) rfl hl.1 rfl (Nat.le_of_ble_eq_true rfl) rfl dX9_wrap_28 (fun H locs cells slots hX hZ => ?_)
  have hZ := hZ.add (by decide) hX
  refine z_astore (lv' := [(4, va_rf r14), (3, .int r8), (0, .ref this), (1, .ref a2), (2, .ref a1)]) hx hb dX9_wrap_31 hl (by decide) rfl (fun ls hl => ?_)
  refine z_aload hx hb dX9_wrap_33 (lv_at hl 0 rfl) ?_
  refine lv_aload_n hx hb dX9_wrap_35 rfl (lv_at hl 4 rfl) ?_
  obtain ⟨a15, ha15, hf⟩ := Option.bind_eq_some_iff.mp hf
  subst ha15
  have hl : lv_has ls 5 [(4, .ref a15), (3, .int r8), (0, .ref this), (1, .ref a2), (2, .ref a1)] := hl
  have hZ : wd_Z E w R s w12 H locs cells slots [(some a15, 5), (some this, 10), (some a2, 4), (some a1, 5)] := hZ
  refine z_putR (r := (some a1)) rfl fd_410 cok_4 (tk := 4) rfl (fun q hq => by cases hq; exact (hZ.k 3 rfl rfl)) rfl rfl (wd_obO _) hx hb hts hown hK hZ (hZ.k 0 rfl rfl) tw_717 dX9_wrap_36 (fun H locs hZ => ?_)
  obtain ⟨w16, e17, hf⟩ := wd_let_e hf
  rw [e17] at hZ
  refine lv_aload hx hb dX9_wrap_39 (lv_at hl 0 rfl) ?_
  obtain ⟨rfl, rfl⟩ := Prod.mk.inj (Option.some.inj hf)
  exact z_aret rfl hx hb hr hlocks hZ (fun q hq => by cases hq; exact (hZ.k 0 rfl rfl)) dX9_wrap_41

def f_X9_complain_j24 (n : Nat) (w : Wd) : Option (Option Nat × Wd) :=
  some (none, w)
def f_X9_complain (n : Nat) (w : Wd) (this : Nat) (p0 : Option Nat) (p1 : Option Nat) (p2 : Int32) (p3 : Int32) : Option (Option Nat × Wd) :=
  Option.bind p0 fun a1 =>
  wd_let (wd_sI w 204 a1 ((wd_I w 204 a1) + (1 : Int32))) fun w2 =>
  Option.bind p1 fun a4 =>
  wd_b2 (f_X4_isComplaint n w2 a4) fun r7 w5 =>
  if r7 = 0 then
    if (wd_I w5 407 a4) = 0 then
      wd_b2 (f_X9_sourceFor n w5 (wd_R w5 200 a1) (wd_I w5 401 a4)) fun r12 w10 =>
      if 0 ≤ r12 then
        wd_b2 (f_X9_bear n w10 this p2 r12 (wd_I w10 401 a4) (0 : Int32)) fun r16 w14 =>
        Option.bind r16 fun a17 =>
        wd_let (wd_sI w14 408 a17 (1 : Int32)) fun w18 =>
        wd_let (wd_sI w18 406 a17 p3) fun w20 =>
        some ((some a17), w20)
      else
        some (none, w10)
    else
      f_X9_complain_j24 n w5
  else
    f_X9_complain_j24 n w5
set_option maxHeartbeats 4000000 in
set_option maxRecDepth 100000 in
theorem v_X9_complain_j24 {p : Program} {l : Launch} {e : Env} {R : Room} {s : State} {m : MethodId} {args : Array Value} {below : List Frame} {meth : Method} {c : Code} {E : wd_E} {w0 : Wd} {r' : Option Nat} {w' : Wd} (n : Nat) (C : wd_X p s m args meth c cX9_complain RX9 7 (some (.object "SeamarkNet$Packet")) "complain" E) (hR : 4 ≤ R.frames ∧ 90 ≤ R.locals) (w : Wd) (H : Heap) (locs : List Loc) (cells slots : Nat) (ls : Array Slot) (hZ : wd_Z E w0 R s w H locs cells slots []) (hl : lv_has ls 7 []) (hf : f_X9_complain_j24 n w = some (r', w')) : W p l e R s m args below meth c H locs cells slots (wd_fin E w0 (some (va_rf r')) w' (∀ q, r' = some q → wd_K w' q = 5) R args s below) (F0 m 24 ls []) := by
  obtain ⟨hx, hb, hr, hml, hts, hown, hlocks, hmn, hK⟩ := id C
  unfold f_X9_complain_j24 at hf
  refine z_null hx hb dX9_complain_24 ?_
  obtain ⟨rfl, rfl⟩ := Prod.mk.inj (Option.some.inj hf)
  exact z_aret rfl hx hb hr hlocks hZ (fun q hq => by cases hq) dX9_complain_25

set_option maxHeartbeats 4000000 in
set_option maxRecDepth 100000 in
theorem c_X9_complain (l : Launch) (E : wd_E) (n : Nat) (w : Wd) (this : Nat) (p0 : Option Nat) (p1 : Option Nat) (p2 : Int32) (p3 : Int32) (r' : Option Nat) (w' : Wd) (k_this : wd_K w this = 10) (k_p0 : ∀ q, p0 = some q → wd_K w q = 3) (k_p1 : ∀ q, p1 = some q → wd_K w q = 5) (hf : f_X9_complain n w this p0 p1 p2 p3 = some (r', w')) : wd_C l E yX9_complain cX9_complain 7 (some (.object "SeamarkNet$Packet")) 4 90 [.ref this, va_rf p0, va_rf p1, .int p2, .int p3] w (some (va_rf r')) w' (∀ q, r' = some q → wd_K w' q = 5) := by
  refine wd_ofW (own := RX9) (nm := "complain") (ks := [(some this, 10), (p0, 3), (p1, 5)]) (lv := [(0, .ref this), (1, va_rf p0), (2, va_rf p1), (3, .int p2), (4, .int p3)]) (by decide) rfl rfl (by simp [lg_sl, va_rf_cat, Value.category]) (by simp [lv_args, va_rf_cat, Value.category]) (List.forall_mem_cons.mpr ⟨⟨by decide, fun q hq => by cases hq; exact k_this⟩, (List.forall_mem_cons.mpr ⟨⟨by decide, k_p0⟩, (List.forall_mem_cons.mpr ⟨⟨by decide, k_p1⟩, (fun _ hq => absurd hq List.not_mem_nil)⟩)⟩)⟩) ?_
  intro p e s m args below meth c R H ls C hR hZ hl
  obtain ⟨hx, hb, hr, hml, hts, hown, hlocks, hmn, hK⟩ := id C
  unfold f_X9_complain at hf
  refine z_aload_n hx hb dX9_complain_0 rfl (lv_at hl 1 rfl) ?_
  refine lv_dup hx hb dX9_complain_1 (va_rf_cat _) ?_
  obtain ⟨a1, ha1, hf⟩ := Option.bind_eq_some_iff.mp hf
  subst ha1
  have hl : lv_has ls 7 [(0, .ref this), (1, .ref a1), (2, va_rf p1), (3, .int p2), (4, .int p3)] := hl
  have hZ : wd_Z E w R s w H locs cells slots [(some this, 10), (some a1, 3), (p1, 5)] := hZ
  refine z_getI fd_204 rfl hx hb hts hown hK hZ (hZ.k 1 rfl rfl) tw_216 dX9_complain_2 ?_
  refine lv_iconst (v := 1) hx hb dX9_complain_5 (by decide) ?_
  refine lv_iadd hx hb dX9_complain_6 ?_
  refine z_putI fd_204 cok_2 rfl rfl rfl rfl rfl hx hb hts hown hK hZ (hZ.k 1 rfl rfl) tw_216 dX9_complain_7 (fun H locs hZ => ?_)
  obtain ⟨w2, e3, hf⟩ := wd_let_e hf
  rw [e3] at hZ
  refine z_aload_n hx hb dX9_complain_10 rfl (lv_at hl 2 rfl) ?_
  obtain ⟨a4, ha4, hf⟩ := Option.bind_eq_some_iff.mp hf
  subst ha4
  have hl : lv_has ls 7 [(0, .ref this), (1, .ref a1), (2, .ref a4), (3, .int p2), (4, .int p3)] := hl
  have hZ : wd_Z E w R s w2 H locs cells slots [(some this, 10), (some a1, 3), (some a4, 5)] := hZ
  obtain ⟨r7, w5, hc6, hf⟩ := wd_b2_e hf
  refine z_callV (ci := 4) (As := []) (rest := []) (c_X4_isComplaint l E n w2 a4 r7 w5 (hZ.k 2 rfl rfl) hc6) mo_X4_isComplaint rfl (by decide) rfl tw_782 tw_783 tw_781 hx hb hml hts hown hK ⟨Nat.le_trans (by decide) hR.1, Nat.le_trans (by decide) hR.2⟩ hZ (hZ.k 2 rfl rfl) rfl hl.1 rfl (Nat.le_of_ble_eq_true rfl) rfl dX9_complain_11 (fun H locs cells slots hX hZ => ?_)
  refine lv_if_ne (tgt := 24) hx hb dX9_complain_14 (by decide) (fun h8 => ?_) (fun h8 => ?_)
  · have hf := wd_ite_n h8 hf
    exact v_X9_complain_j24 n C hR w5 _ _ _ _ _ ⟨hZ.1, hZ.2.1, hZ.2.2.1, hZ.2.2.2.1, (fun _ hq => absurd hq List.not_mem_nil), hZ.2.2.2.2.2⟩ (lv_sub hl [] rfl) hf
  · have hf := wd_ite_p h8 hf
    refine lv_aload_n hx hb dX9_complain_17 rfl (lv_at hl 2 rfl) ?_
    refine z_getI fd_407 rfl hx hb hts hown hK hZ (hZ.k 2 rfl rfl) tw_708 dX9_complain_18 ?_
    refine lv_if_eq (tgt := 26) hx hb dX9_complain_21 (by decide) (fun h9 => ?_) (fun h9 => ?_)
    · have hf := wd_ite_p h9 hf
      refine lv_aload_n hx hb dX9_complain_26 rfl (lv_at hl 1 rfl) ?_
      refine z_getR (tk := 3) fd_200 rfl hx hb hts hown hK hZ (hZ.k 1 rfl rfl) tw_206 dX9_complain_27 (fun hZ => ?_)
      refine lv_aload_n hx hb dX9_complain_30 rfl (lv_at hl 2 rfl) ?_
      refine z_getI fd_401 rfl hx hb hts hown hK hZ (hZ.k 3 rfl rfl) tw_685 dX9_complain_31 ?_
      obtain ⟨r12, w10, hc11, hf⟩ := wd_b2_e hf
      refine z_callS (As := [va_rf (wd_R w5 200 a1), .int (wd_I w5 401 a4)]) (rest := []) (c_X9_sourceFor l E n w5 (wd_R w5 200 a1) (wd_I w5 401 a4) r12 w10 (fun q hq => hZ.k 0 rfl hq) hc11) mo_X9_sourceFor tw_646 tw_645 hx hb hml hts hown hK ⟨Nat.le_trans (by decide) hR.1, Nat.le_trans (by decide) hR.2⟩ hZ rfl hl.1 rfl (Nat.le_of_ble_eq_true rfl) rfl dX9_complain_34 (fun H locs cells slots hX hZ => ?_)
      refine lv_istore (lv' := [(5, .int r12), (0, .ref this), (1, .ref a1), (2, .ref a4), (3, .int p2), (4, .int p3)]) hx hb dX9_complain_37 hl (by decide) rfl (fun ls hl => ?_)
      refine lv_iload hx hb dX9_complain_39 (lv_at hl 0 rfl) ?_
      refine lv_if_ge (tgt := 46) hx hb dX9_complain_41 (by decide) (fun h13 => ?_) (fun h13 => ?_)
      · have hf := wd_ite_p h13 hf
        refine lv_aload_n hx hb dX9_complain_46 rfl (lv_at hl 1 rfl) ?_
        refine lv_iload_n hx hb dX9_complain_47 rfl (lv_at hl 4 rfl) ?_
        refine lv_iload hx hb dX9_complain_48 (lv_at hl 0 rfl) ?_
        refine lv_aload_n hx hb dX9_complain_50 rfl (lv_at hl 3 rfl) ?_
        refine z_getI fd_401 rfl hx hb hts hown hK hZ (hZ.k 3 rfl rfl) tw_685 dX9_complain_51 ?_
        refine lv_iconst (v := 0) hx hb dX9_complain_54 (by decide) ?_
        obtain ⟨r16, w14, hc15, hf⟩ := wd_b2_e hf
        refine z_callV (ci := 9) (As := [.int p2, .int r12, .int (wd_I w10 401 a4), .int (0 : Int32)]) (rest := []) (c_X9_bear l E n w10 this p2 r12 (wd_I w10 401 a4) (0 : Int32) r16 w14 (hZ.k 1 rfl rfl) hc15) mo_X9_bear rfl (by decide) rfl tw_667 tw_10 tw_665 hx hb hml hts hown hK ⟨Nat.le_trans (by decide) hR.1, Nat.le_trans (by decide) hR.2⟩ hZ (hZ.k 1 rfl rfl) rfl hl.1 rfl (Nat.le_of_ble_eq_true rfl) rfl dX9_complain_55 (fun H locs cells slots hX hZ => ?_)
        have hZ := hZ.add (by decide) hX
        refine z_astore (lv' := [(6, va_rf r16), (5, .int r12), (0, .ref this), (1, .ref a1), (2, .ref a4), (3, .int p2), (4, .int p3)]) hx hb dX9_complain_58 hl (by decide) rfl (fun ls hl => ?_)
        refine z_aload hx hb dX9_complain_60 (lv_at hl 0 rfl) ?_
        refine lv_iconst (v := 1) hx hb dX9_complain_62 (by decide) ?_
        obtain ⟨a17, ha17, hf⟩ := Option.bind_eq_some_iff.mp hf
        subst ha17
        have hl : lv_has ls 7 [(6, .ref a17), (5, .int r12), (0, .ref this), (1, .ref a1), (2, .ref a4), (3, .int p2), (4, .int p3)] := hl
        have hZ : wd_Z E w R s w14 H locs cells slots [(some a17, 5), ((wd_R w5 200 a1), 4), (some this, 10), (some a1, 3), (some a4, 5)] := hZ
        refine z_putI fd_408 cok_4 rfl rfl rfl (by decide) (by decide) hx hb hts hown hK hZ (hZ.k 0 rfl rfl) tw_711 dX9_complain_63 (fun H locs hZ => ?_)
        obtain ⟨w18, e19, hf⟩ := wd_let_e hf
        rw [e19] at hZ
        refine lv_aload hx hb dX9_complain_66 (lv_at hl 0 rfl) ?_
        refine lv_iload hx hb dX9_complain_68 (lv_at hl 6 rfl) ?_
        refine z_putI fd_406 cok_4 rfl rfl rfl rfl rfl hx hb hts hown hK hZ (hZ.k 0 rfl rfl) tw_703 dX9_complain_70 (fun H locs hZ => ?_)
        obtain ⟨w20, e21, hf⟩ := wd_let_e hf
        rw [e21] at hZ
        refine lv_aload hx hb dX9_complain_73 (lv_at hl 0 rfl) ?_
        obtain ⟨rfl, rfl⟩ := Prod.mk.inj (Option.some.inj hf)
        exact z_aret rfl hx hb hr hlocks hZ (fun q hq => by cases hq; exact (hZ.k 0 rfl rfl)) dX9_complain_75
      · have hf := wd_ite_n h13 hf
        refine z_null hx hb dX9_complain_44 ?_
        obtain ⟨rfl, rfl⟩ := Prod.mk.inj (Option.some.inj hf)
        exact z_aret rfl hx hb hr hlocks hZ (fun q hq => by cases hq) dX9_complain_45
    · have hf := wd_ite_n h9 hf
      exact v_X9_complain_j24 n C hR w5 _ _ _ _ _ ⟨hZ.1, hZ.2.1, hZ.2.2.1, hZ.2.2.2.1, (fun _ hq => absurd hq List.not_mem_nil), hZ.2.2.2.2.2⟩ (lv_sub hl [] rfl) hf

def f_X9_goToHop (n : Nat) (w : Wd) (this : Nat) (p0 : Option Nat) (p1 : Option Nat) (p2 : Option Nat) : Option Wd :=
  Option.bind p0 fun a1 =>
  Option.bind p2 fun a2 =>
  Option.bind (wd_R w 200 a1) fun a3 =>
  wd_b2 (f_X3_hopTo n w a3 (wd_I w 402 a2)) fun r6 w4 =>
  wd_b2 (f_X2_knownMark n w4 a1 r6) fun r9 w7 =>
  if r9 < 0 then
    wd_let (wd_sI w7 411 a2 r6) fun w11 =>
    wd_let (wd_sR w11 412 a2 p1) fun w13 =>
    Option.bind (f_X2_putToWait n w13 a1 (some a2)) fun w15 =>
    wd_b2 (f_X2_countWaitingFor n w15 a1 r6) fun r19 w17 =>
    if r19 = (1 : Int32) then
      Option.bind (wd_R w17 900 this) fun a21 =>
      Option.bind (f_X8_add n w17 a21 (1 : Int32) p1 (-1 : Int32) r6 none) fun w22 =>
      some w22
    else
      some w17
  else
    Option.bind (wd_R w7 900 this) fun a24 =>
    Option.bind (f_X8_add n w7 a24 (0 : Int32) p1 r9 (-1 : Int32) (some a2)) fun w25 =>
    some w25
set_option maxHeartbeats 4000000 in
set_option maxRecDepth 100000 in
theorem c_X9_goToHop (l : Launch) (E : wd_E) (n : Nat) (w : Wd) (this : Nat) (p0 : Option Nat) (p1 : Option Nat) (p2 : Option Nat) (w' : Wd) (k_this : wd_K w this = 10) (k_p0 : ∀ q, p0 = some q → wd_K w q = 3) (k_p1 : ∀ q, p1 = some q → wd_K w q = 8) (k_p2 : ∀ q, p2 = some q → wd_K w q = 5) (hf : f_X9_goToHop n w this p0 p1 p2 = some w') : wd_C l E yX9_goToHop cX9_goToHop 6 none 3 70 [.ref this, va_rf p0, va_rf p1, va_rf p2] w none w' True := by
  refine wd_ofW (own := RX9) (nm := "goToHop") (ks := [(some this, 10), (p0, 3), (p1, 8), (p2, 5)]) (lv := [(0, .ref this), (1, va_rf p0), (2, va_rf p1), (3, va_rf p2)]) (by decide) rfl rfl (by simp [lg_sl, va_rf_cat, Value.category]) (by simp [lv_args, va_rf_cat, Value.category]) (List.forall_mem_cons.mpr ⟨⟨by decide, fun q hq => by cases hq; exact k_this⟩, (List.forall_mem_cons.mpr ⟨⟨by decide, k_p0⟩, (List.forall_mem_cons.mpr ⟨⟨by decide, k_p1⟩, (List.forall_mem_cons.mpr ⟨⟨by decide, k_p2⟩, (fun _ hq => absurd hq List.not_mem_nil)⟩)⟩)⟩)⟩) ?_
  intro p e s m args below meth c R H ls C hR hZ hl
  obtain ⟨hx, hb, hr, hml, hts, hown, hlocks, hmn, hK⟩ := id C
  unfold f_X9_goToHop at hf
  refine z_aload_n hx hb dX9_goToHop_0 rfl (lv_at hl 1 rfl) ?_
  obtain ⟨a1, ha1, hf⟩ := Option.bind_eq_some_iff.mp hf
  subst ha1
  have hl : lv_has ls 6 [(0, .ref this), (1, .ref a1), (2, va_rf p1), (3, va_rf p2)] := hl
  have hZ : wd_Z E w R s w H locs cells slots [(some this, 10), (some a1, 3), (p1, 8), (p2, 5)] := hZ
  refine z_getR (tk := 3) fd_200 rfl hx hb hts hown hK hZ (hZ.k 1 rfl rfl) tw_206 dX9_goToHop_1 (fun hZ => ?_)
  refine z_aload_n hx hb dX9_goToHop_4 rfl (lv_at hl 3 rfl) ?_
  obtain ⟨a2, ha2, hf⟩ := Option.bind_eq_some_iff.mp hf
  subst ha2
  have hl : lv_has ls 6 [(0, .ref this), (1, .ref a1), (2, va_rf p1), (3, .ref a2)] := hl
  have hZ : wd_Z E w R s w H locs cells slots [((wd_R w 200 a1), 4), (some this, 10), (some a1, 3), (p1, 8), (some a2, 5)] := hZ
  refine z_getI fd_402 rfl hx hb hts hown hK hZ (hZ.k 4 rfl rfl) tw_688 dX9_goToHop_5 ?_
  obtain ⟨a3, ha3, hf⟩ := Option.bind_eq_some_iff.mp hf
  have hZ := hZ.add (r := some a3) (k := 4) (by decide) (fun q hq => by cases hq; exact hZ.k 0 rfl ha3)
  rw [ha3]
  obtain ⟨r6, w4, hc5, hf⟩ := wd_b2_e hf
  refine z_callV (ci := 3) (As := [.int (wd_I w 402 a2)]) (rest := []) (c_X3_hopTo l E n w a3 (wd_I w 402 a2) r6 w4 (hZ.k 0 rfl rfl) hc5) mo_X3_hopTo rfl (by decide) rfl tw_657 tw_658 tw_656 hx hb hml hts hown hK ⟨Nat.le_trans (by decide) hR.1, Nat.le_trans (by decide) hR.2⟩ hZ (hZ.k 0 rfl rfl) rfl hl.1 rfl (Nat.le_of_ble_eq_true rfl) rfl dX9_goToHop_8 (fun H locs cells slots hX hZ => ?_)
  refine lv_istore (lv' := [(4, .int r6), (0, .ref this), (1, .ref a1), (2, va_rf p1), (3, .ref a2)]) hx hb dX9_goToHop_11 hl (by decide) rfl (fun ls hl => ?_)
  refine lv_aload_n hx hb dX9_goToHop_13 rfl (lv_at hl 2 rfl) ?_
  refine lv_iload hx hb dX9_goToHop_14 (lv_at hl 0 rfl) ?_
  obtain ⟨r9, w7, hc8, hf⟩ := wd_b2_e hf
  refine z_callV (ci := 2) (As := [.int r6]) (rest := []) (c_X2_knownMark l E n w4 a1 r6 r9 w7 (hZ.k 3 rfl rfl) hc8) mo_X2_knownMark rfl (by decide) rfl tw_492 tw_493 tw_797 hx hb hml hts hown hK ⟨Nat.le_trans (by decide) hR.1, Nat.le_trans (by decide) hR.2⟩ hZ (hZ.k 3 rfl rfl) rfl hl.1 rfl (Nat.le_of_ble_eq_true rfl) rfl dX9_goToHop_16 (fun H locs cells slots hX hZ => ?_)
  refine lv_istore (lv' := [(5, .int r9), (4, .int r6), (0, .ref this), (1, .ref a1), (2, va_rf p1), (3, .ref a2)]) hx hb dX9_goToHop_19 hl (by decide) rfl (fun ls hl => ?_)
  refine lv_iload hx hb dX9_goToHop_21 (lv_at hl 0 rfl) ?_
  refine lv_if_lt (tgt := 40) hx hb dX9_goToHop_23 (by decide) (fun h10 => ?_) (fun h10 => ?_)
  · have hf := wd_ite_p h10 hf
    refine lv_aload_n hx hb dX9_goToHop_40 rfl (lv_at hl 5 rfl) ?_
    refine lv_iload hx hb dX9_goToHop_41 (lv_at hl 1 rfl) ?_
    refine z_putI fd_411 cok_4 rfl rfl rfl rfl rfl hx hb hts hown hK hZ (hZ.k 5 rfl rfl) tw_720 dX9_goToHop_43 (fun H locs hZ => ?_)
    obtain ⟨w11, e12, hf⟩ := wd_let_e hf
    rw [e12] at hZ
    refine lv_aload_n hx hb dX9_goToHop_46 rfl (lv_at hl 5 rfl) ?_
    refine z_aload_n hx hb dX9_goToHop_47 rfl (lv_at hl 4 rfl) ?_
    refine z_putR (r := p1) rfl fd_412 cok_4 (tk := 7) rfl (fun q hq => hZ.k 4 rfl hq) rfl rfl (wd_obO _) hx hb hts hown hK hZ (hZ.k 5 rfl rfl) tw_721 dX9_goToHop_48 (fun H locs hZ => ?_)
    obtain ⟨w13, e14, hf⟩ := wd_let_e hf
    rw [e14] at hZ
    refine lv_aload_n hx hb dX9_goToHop_51 rfl (lv_at hl 3 rfl) ?_
    refine lv_aload_n hx hb dX9_goToHop_52 rfl (lv_at hl 5 rfl) ?_
    obtain ⟨w15, hc16, hf⟩ := Option.bind_eq_some_iff.mp hf
    refine z_callV (ci := 2) (As := [va_rf (some a2)]) (rest := []) (c_X2_putToWait l E n w13 a1 (some a2) w15 (hZ.k 3 rfl rfl) (fun q hq => by cases hq; exact (hZ.k 5 rfl rfl)) hc16) mo_X2_putToWait rfl (by decide) rfl tw_843 tw_844 tw_842 hx hb hml hts hown hK ⟨Nat.le_trans (by decide) hR.1, Nat.le_trans (by decide) hR.2⟩ hZ (hZ.k 3 rfl rfl) rfl hl.1 rfl (Nat.le_of_ble_eq_true rfl) rfl dX9_goToHop_53 (fun H locs cells slots hX hZ => ?_)
    refine lv_aload_n hx hb dX9_goToHop_56 rfl (lv_at hl 3 rfl) ?_
    refine lv_iload hx hb dX9_goToHop_57 (lv_at hl 1 rfl) ?_
    obtain ⟨r19, w17, hc18, hf⟩ := wd_b2_e hf
    refine z_callV (ci := 2) (As := [.int r6]) (rest := []) (c_X2_countWaitingFor l E n w15 a1 r6 r19 w17 (hZ.k 3 rfl rfl) hc18) mo_X2_countWaitingFor rfl (by decide) rfl tw_851 tw_852 tw_850 hx hb hml hts hown hK ⟨Nat.le_trans (by decide) hR.1, Nat.le_trans (by decide) hR.2⟩ hZ (hZ.k 3 rfl rfl) rfl hl.1 rfl (Nat.le_of_ble_eq_true rfl) rfl dX9_goToHop_59 (fun H locs cells slots hX hZ => ?_)
    refine lv_iconst (v := 1) hx hb dX9_goToHop_62 (by decide) ?_
    refine lv_icmp_ne (tgt := 79) hx hb dX9_goToHop_63 (by decide) (fun h20 => ?_) (fun h20 => ?_)
    · have hf := wd_ite_n h20 hf
      obtain rfl := Option.some.inj hf
      exact z_vret hx hb hr hlocks hZ trivial dX9_goToHop_79
    · have hf := wd_ite_p h20 hf
      refine lv_aload_n hx hb dX9_goToHop_66 rfl (lv_at hl 2 rfl) ?_
      refine z_getR (tk := 8) fd_900 rfl hx hb hts hown hK hZ (hZ.k 2 rfl rfl) tw_243 dX9_goToHop_67 (fun hZ => ?_)
      refine lv_iconst (v := 1) hx hb dX9_goToHop_70 (by decide) ?_
      refine z_aload_n hx hb dX9_goToHop_71 rfl (lv_at hl 4 rfl) ?_
      refine lv_iconst (v := -1) hx hb dX9_goToHop_72 (by decide) ?_
      refine lv_iload hx hb dX9_goToHop_73 (lv_at hl 1 rfl) ?_
      refine z_null hx hb dX9_goToHop_75 ?_
      obtain ⟨a21, ha21, hf⟩ := Option.bind_eq_some_iff.mp hf
      have hZ := hZ.add (r := some a21) (k := 9) (by decide) (fun q hq => by cases hq; exact hZ.k 0 rfl ha21)
      rw [ha21]
      obtain ⟨w22, hc23, hf⟩ := Option.bind_eq_some_iff.mp hf
      refine z_callV (ci := 8) (As := [.int (1 : Int32), va_rf p1, .int (-1 : Int32), .int r6, va_rf none]) (rest := []) (c_X8_add l E n w17 a21 (1 : Int32) p1 (-1 : Int32) r6 none w22 (hZ.k 0 rfl rfl) (fun q hq => hZ.k 6 rfl hq) (fun q hq => by cases hq) hc23) mo_X8_add rfl (by decide) rfl tw_799 tw_800 tw_798 hx hb hml hts hown hK ⟨Nat.le_trans (by decide) hR.1, Nat.le_trans (by decide) hR.2⟩ hZ (hZ.k 0 rfl rfl) rfl hl.1 rfl (Nat.le_of_ble_eq_true rfl) rfl dX9_goToHop_76 (fun H locs cells slots hX hZ => ?_)
      obtain rfl := Option.some.inj hf
      exact z_vret hx hb hr hlocks hZ trivial dX9_goToHop_79
  · have hf := wd_ite_n h10 hf
    refine lv_aload_n hx hb dX9_goToHop_26 rfl (lv_at hl 2 rfl) ?_
    refine z_getR (tk := 8) fd_900 rfl hx hb hts hown hK hZ (hZ.k 2 rfl rfl) tw_243 dX9_goToHop_27 (fun hZ => ?_)
    refine lv_iconst (v := 0) hx hb dX9_goToHop_30 (by decide) ?_
    refine z_aload_n hx hb dX9_goToHop_31 rfl (lv_at hl 4 rfl) ?_
    refine lv_iload hx hb dX9_goToHop_32 (lv_at hl 0 rfl) ?_
    refine lv_iconst (v := -1) hx hb dX9_goToHop_34 (by decide) ?_
    refine lv_aload_n hx hb dX9_goToHop_35 rfl (lv_at hl 5 rfl) ?_
    obtain ⟨a24, ha24, hf⟩ := Option.bind_eq_some_iff.mp hf
    have hZ := hZ.add (r := some a24) (k := 9) (by decide) (fun q hq => by cases hq; exact hZ.k 0 rfl ha24)
    rw [ha24]
    obtain ⟨w25, hc26, hf⟩ := Option.bind_eq_some_iff.mp hf
    refine z_callV (ci := 8) (As := [.int (0 : Int32), va_rf p1, .int r9, .int (-1 : Int32), va_rf (some a2)]) (rest := []) (c_X8_add l E n w7 a24 (0 : Int32) p1 r9 (-1 : Int32) (some a2) w25 (hZ.k 0 rfl rfl) (fun q hq => hZ.k 6 rfl hq) (fun q hq => by cases hq; exact (hZ.k 7 rfl rfl)) hc26) mo_X8_add rfl (by decide) rfl tw_799 tw_800 tw_798 hx hb hml hts hown hK ⟨Nat.le_trans (by decide) hR.1, Nat.le_trans (by decide) hR.2⟩ hZ (hZ.k 0 rfl rfl) rfl hl.1 rfl (Nat.le_of_ble_eq_true rfl) rfl dX9_goToHop_36 (fun H locs cells slots hX hZ => ?_)
    obtain rfl := Option.some.inj hf
    exact z_vret hx hb hr hlocks hZ trivial dX9_goToHop_39

def f_X9_goByPort_j40 (n : Nat) (x0 : Nat) (x1 : Option Nat) (x2 : Option Nat) (x3 : Option Nat) (w : Wd) : Option Wd :=
  Option.bind (f_X9_goToHop n w x0 x1 x2 x3) fun w10 =>
  some w10
def f_X9_goByPort_l51 (n : Nat) (rec51 : Nat → Option Nat → Option Nat → Option Nat → Int32 → Int32 → Wd → Option Wd) (x0 : Nat) (x1 : Option Nat) (x2 : Option Nat) (x3 : Option Nat) (x5 : Int32) (x6 : Int32) (w : Wd) : Option Wd :=
  Option.bind x3 fun a13 =>
  if (wd_I w 403 a13) ≤ x6 then
    some w
  else
    Option.bind (wd_R w 905 x0) fun a15 =>
    wd_b2 (f_X6_take n w a15) fun r18 w16 =>
    Option.bind r18 fun a19 =>
    Option.bind (f_X4_cutFrom n w16 a19 (some a13) x6 x5) fun w20 =>
    Option.bind (f_X9_goToHop n w20 x0 x1 x2 (some a19)) fun w22 =>
    wd_let (x6 + x5) fun v24 =>
    rec51 x0 x1 x2 (some a13) x5 v24 w22
def f_X9_goByPort (n : Nat) (w : Wd) (this : Nat) (p0 : Option Nat) (p1 : Option Nat) (p2 : Option Nat) : Option Wd :=
  Option.bind p1 fun a1 =>
  Option.bind (wd_R w 904 this) fun a2 =>
  wd_b2 (f_X5_widthOf n w a2 (wd_I w 701 a1)) fun r5 w3 =>
  wd_let (((r5 - (4 : Int32)) / (4 : Int32)) * (4 : Int32)) fun v6 =>
  Option.bind p2 fun a8 =>
  if ((wd_I w3 403 a8) + (4 : Int32)) ≤ r5 then
    f_X9_goByPort_j40 n this p0 (some a1) (some a8) w3
  else
    if (1 : Int32) ≤ v6 then
      wd_lp7 (f_X9_goByPort_l51 n) n this p0 (some a1) (some a8) v6 (0 : Int32) w3
    else
      f_X9_goByPort_j40 n this p0 (some a1) (some a8) w3
set_option maxHeartbeats 4000000 in
set_option maxRecDepth 100000 in
theorem v_X9_goByPort_j40 {p : Program} {l : Launch} {e : Env} {R : Room} {s : State} {m : MethodId} {args : Array Value} {below : List Frame} {meth : Method} {c : Code} {E : wd_E} {w0 : Wd} {w' : Wd} (n : Nat) (C : wd_X p s m args meth c cX9_goByPort RX9 8 none "goByPort" E) (hR : 4 ≤ R.frames ∧ 95 ≤ R.locals) (x0 : Nat) (x1 : Option Nat) (x2 : Option Nat) (x3 : Option Nat) (w : Wd) (H : Heap) (locs : List Loc) (cells slots : Nat) (ls : Array Slot) (hZ : wd_Z E w0 R s w H locs cells slots [(some x0, 10), (x1, 3), (x2, 8), (x3, 5)]) (hl : lv_has ls 8 [(0, .ref x0), (1, va_rf x1), (2, va_rf x2), (3, va_rf x3)]) (hf : f_X9_goByPort_j40 n x0 x1 x2 x3 w = some w') : W p l e R s m args below meth c H locs cells slots (wd_fin E w0 none w' True R args s below) (F0 m 40 ls []) := by
  obtain ⟨hx, hb, hr, hml, hts, hown, hlocks, hmn, hK⟩ := id C
  unfold f_X9_goByPort_j40 at hf
  refine lv_aload_n hx hb dX9_goByPort_40 rfl (lv_at hl 0 rfl) ?_
  refine z_aload_n hx hb dX9_goByPort_41 rfl (lv_at hl 1 rfl) ?_
  refine z_aload_n hx hb dX9_goByPort_42 rfl (lv_at hl 2 rfl) ?_
  refine z_aload_n hx hb dX9_goByPort_43 rfl (lv_at hl 3 rfl) ?_
  obtain ⟨w10, hc11, hf⟩ := Option.bind_eq_some_iff.mp hf
  refine z_callV (ci := 9) (As := [va_rf x1, va_rf x2, va_rf x3]) (rest := []) (c_X9_goToHop l E n w x0 x1 x2 x3 w10 (hZ.k 0 rfl rfl) (fun q hq => hZ.k 1 rfl hq) (fun q hq => hZ.k 2 rfl hq) (fun q hq => hZ.k 3 rfl hq) hc11) mo_X9_goToHop rfl (by decide) rfl tw_795 tw_16 tw_793 hx hb hml hts hown hK ⟨Nat.le_trans (by decide) hR.1, Nat.le_trans (by decide) hR.2⟩ hZ (hZ.k 0 rfl rfl) rfl hl.1 rfl (Nat.le_of_ble_eq_true rfl) rfl dX9_goByPort_44 (fun H locs cells slots hX hZ => ?_)
  obtain rfl := Option.some.inj hf
  exact z_vret hx hb hr hlocks hZ trivial dX9_goByPort_47

set_option maxHeartbeats 4000000 in
set_option maxRecDepth 100000 in
theorem v_X9_goByPort_b51 {p : Program} {l : Launch} {e : Env} {R : Room} {s : State} {m : MethodId} {args : Array Value} {below : List Frame} {meth : Method} {c : Code} {E : wd_E} {w0 : Wd} {w' : Wd} (n : Nat) (C : wd_X p s m args meth c cX9_goByPort RX9 8 none "goByPort" E) (hR : 4 ≤ R.frames ∧ 95 ≤ R.locals) (rec51 : Nat → Option Nat → Option Nat → Option Nat → Int32 → Int32 → Wd → Option Wd) (hrec51 : ∀ (x0_ : Nat) (x1_ : Option Nat) (x2_ : Option Nat) (x3_ : Option Nat) (x5_ : Int32) (x6_ : Int32) (w_ : Wd) (H : Heap) (locs : List Loc) (cells slots : Nat) (ls : Array Slot), wd_Z E w0 R s w_ H locs cells slots [(some x0_, 10), (x1_, 3), (x2_, 8), (x3_, 5)] → lv_has ls 8 [(0, .ref x0_), (1, va_rf x1_), (2, va_rf x2_), (3, va_rf x3_), (5, .int x5_), (6, .int x6_)] → rec51 x0_ x1_ x2_ x3_ x5_ x6_ w_ = some w' → W p l e R s m args below meth c H locs cells slots (wd_fin E w0 none w' True R args s below) (F0 m 51 ls [])) (x0 : Nat) (x1 : Option Nat) (x2 : Option Nat) (x3 : Option Nat) (x5 : Int32) (x6 : Int32) (w : Wd) (H : Heap) (locs : List Loc) (cells slots : Nat) (ls : Array Slot) (hZ : wd_Z E w0 R s w H locs cells slots [(some x0, 10), (x1, 3), (x2, 8), (x3, 5)]) (hl : lv_has ls 8 [(0, .ref x0), (1, va_rf x1), (2, va_rf x2), (3, va_rf x3), (5, .int x5), (6, .int x6)]) (hf : f_X9_goByPort_l51 n rec51 x0 x1 x2 x3 x5 x6 w = some w') : W p l e R s m args below meth c H locs cells slots (wd_fin E w0 none w' True R args s below) (F0 m 51 ls []) := by
  obtain ⟨hx, hb, hr, hml, hts, hown, hlocks, hmn, hK⟩ := id C
  unfold f_X9_goByPort_l51 at hf
  refine lv_iload hx hb dX9_goByPort_51 (lv_at hl 5 rfl) ?_
  refine z_aload_n hx hb dX9_goByPort_53 rfl (lv_at hl 3 rfl) ?_
  obtain ⟨a13, ha13, hf⟩ := Option.bind_eq_some_iff.mp hf
  subst ha13
  have hl : lv_has ls 8 [(0, .ref x0), (1, va_rf x1), (2, va_rf x2), (3, .ref a13), (5, .int x5), (6, .int x6)] := hl
  have hZ : wd_Z E w0 R s w H locs cells slots [(some x0, 10), (x1, 3), (x2, 8), (some a13, 5)] := hZ
  refine z_getI fd_403 rfl hx hb hts hown hK hZ (hZ.k 3 rfl rfl) tw_692 dX9_goByPort_54 ?_
  refine lv_icmp_ge (tgt := 97) hx hb dX9_goByPort_57 (by decide) (fun h14 => ?_) (fun h14 => ?_)
  · have hf := wd_ite_p h14 hf
    obtain rfl := Option.some.inj hf
    exact z_vret hx hb hr hlocks hZ trivial dX9_goByPort_97
  · have hf := wd_ite_n h14 hf
    refine lv_aload_n hx hb dX9_goByPort_60 rfl (lv_at hl 0 rfl) ?_
    refine z_getR (tk := 6) fd_905 rfl hx hb hts hown hK hZ (hZ.k 0 rfl rfl) tw_252 dX9_goByPort_61 (fun hZ => ?_)
    obtain ⟨a15, ha15, hf⟩ := Option.bind_eq_some_iff.mp hf
    have hZ := hZ.add (r := some a15) (k := 7) (by decide) (fun q hq => by cases hq; exact hZ.k 0 rfl ha15)
    rw [ha15]
    obtain ⟨r18, w16, hc17, hf⟩ := wd_b2_e hf
    refine z_callV (ci := 6) (As := []) (rest := []) (c_X6_take l E n w a15 r18 w16 (hZ.k 0 rfl rfl) hc17) mo_X6_take rfl (by decide) rfl tw_670 tw_671 tw_669 hx hb hml hts hown hK ⟨Nat.le_trans (by decide) hR.1, Nat.le_trans (by decide) hR.2⟩ hZ (hZ.k 0 rfl rfl) rfl hl.1 rfl (Nat.le_of_ble_eq_true rfl) rfl dX9_goByPort_64 (fun H locs cells slots hX hZ => ?_)
    have hZ := hZ.add (by decide) hX
    refine z_astore (lv' := [(7, va_rf r18), (0, .ref x0), (1, va_rf x1), (2, va_rf x2), (3, .ref a13), (5, .int x5), (6, .int x6)]) hx hb dX9_goByPort_67 hl (by decide) rfl (fun ls hl => ?_)
    refine z_aload hx hb dX9_goByPort_69 (lv_at hl 0 rfl) ?_
    refine lv_aload_n hx hb dX9_goByPort_71 rfl (lv_at hl 4 rfl) ?_
    refine lv_iload hx hb dX9_goByPort_72 (lv_at hl 6 rfl) ?_
    refine lv_iload hx hb dX9_goByPort_74 (lv_at hl 5 rfl) ?_
    obtain ⟨a19, ha19, hf⟩ := Option.bind_eq_some_iff.mp hf
    subst ha19
    have hl : lv_has ls 8 [(7, .ref a19), (0, .ref x0), (1, va_rf x1), (2, va_rf x2), (3, .ref a13), (5, .int x5), (6, .int x6)] := hl
    have hZ : wd_Z E w0 R s w16 H locs cells slots [(some a19, 5), (some a15, 7), ((wd_R w 905 x0), 7), (some x0, 10), (x1, 3), (x2, 8), (some a13, 5)] := hZ
    obtain ⟨w20, hc21, hf⟩ := Option.bind_eq_some_iff.mp hf
    refine z_callV (ci := 4) (As := [va_rf (some a13), .int x6, .int x5]) (rest := []) (c_X4_cutFrom l E n w16 a19 (some a13) x6 x5 w20 (hZ.k 0 rfl rfl) (fun q hq => by cases hq; exact (hZ.k 6 rfl rfl)) hc21) mo_X4_cutFrom rfl (by decide) rfl tw_855 tw_856 tw_854 hx hb hml hts hown hK ⟨Nat.le_trans (by decide) hR.1, Nat.le_trans (by decide) hR.2⟩ hZ (hZ.k 0 rfl rfl) rfl hl.1 rfl (Nat.le_of_ble_eq_true rfl) rfl dX9_goByPort_76 (fun H locs cells slots hX hZ => ?_)
    refine lv_aload_n hx hb dX9_goByPort_79 rfl (lv_at hl 1 rfl) ?_
    refine z_aload_n hx hb dX9_goByPort_80 rfl (lv_at hl 2 rfl) ?_
    refine z_aload_n hx hb dX9_goByPort_81 rfl (lv_at hl 3 rfl) ?_
    refine lv_aload hx hb dX9_goByPort_82 (lv_at hl 0 rfl) ?_
    obtain ⟨w22, hc23, hf⟩ := Option.bind_eq_some_iff.mp hf
    refine z_callV (ci := 9) (As := [va_rf x1, va_rf x2, va_rf (some a19)]) (rest := []) (c_X9_goToHop l E n w20 x0 x1 x2 (some a19) w22 (hZ.k 3 rfl rfl) (fun q hq => hZ.k 4 rfl hq) (fun q hq => hZ.k 5 rfl hq) (fun q hq => by cases hq; exact (hZ.k 0 rfl rfl)) hc23) mo_X9_goToHop rfl (by decide) rfl tw_795 tw_16 tw_793 hx hb hml hts hown hK ⟨Nat.le_trans (by decide) hR.1, Nat.le_trans (by decide) hR.2⟩ hZ (hZ.k 3 rfl rfl) rfl hl.1 rfl (Nat.le_of_ble_eq_true rfl) rfl dX9_goByPort_84 (fun H locs cells slots hX hZ => ?_)
    refine lv_iload hx hb dX9_goByPort_87 (lv_at hl 6 rfl) ?_
    refine lv_iload hx hb dX9_goByPort_89 (lv_at hl 5 rfl) ?_
    refine lv_iadd hx hb dX9_goByPort_91 ?_
    obtain ⟨v24, e25, hf⟩ := wd_let_e hf
    rw [e25]
    refine lv_istore (lv' := [(6, .int v24), (7, .ref a19), (0, .ref x0), (1, va_rf x1), (2, va_rf x2), (3, .ref a13), (5, .int x5)]) hx hb dX9_goByPort_92 hl (by decide) rfl (fun ls hl => ?_)
    refine lv_goto (tgt := 51) hx hb dX9_goByPort_94 (by decide) ?_
    exact hrec51 x0 x1 x2 (some a13) x5 v24 w22 _ _ _ _ _ ⟨hZ.1, hZ.2.1, hZ.2.2.1, hZ.2.2.2.1, (List.forall_mem_cons.mpr ⟨⟨by decide, (fun q hq => by cases hq; exact (hZ.k 3 rfl rfl))⟩, (List.forall_mem_cons.mpr ⟨⟨by decide, (fun q hq => hZ.k 4 rfl hq)⟩, (List.forall_mem_cons.mpr ⟨⟨by decide, (fun q hq => hZ.k 5 rfl hq)⟩, (List.forall_mem_cons.mpr ⟨⟨by decide, (fun q hq => by cases hq; exact (hZ.k 6 rfl rfl))⟩, (fun _ hq => absurd hq List.not_mem_nil)⟩)⟩)⟩)⟩), hZ.2.2.2.2.2⟩ (lv_sub hl [2, 3, 4, 5, 6, 0] rfl) hf

theorem v_X9_goByPort_l51 {p : Program} {l : Launch} {e : Env} {R : Room} {s : State} {m : MethodId} {args : Array Value} {below : List Frame} {meth : Method} {c : Code} {E : wd_E} {w0 : Wd} {w' : Wd} (n : Nat) (C : wd_X p s m args meth c cX9_goByPort RX9 8 none "goByPort" E) (hR : 4 ≤ R.frames ∧ 95 ≤ R.locals) : ∀ (k : Nat) (x0 : Nat) (x1 : Option Nat) (x2 : Option Nat) (x3 : Option Nat) (x5 : Int32) (x6 : Int32) (w : Wd) (H : Heap) (locs : List Loc) (cells slots : Nat) (ls : Array Slot), wd_Z E w0 R s w H locs cells slots [(some x0, 10), (x1, 3), (x2, 8), (x3, 5)] → lv_has ls 8 [(0, .ref x0), (1, va_rf x1), (2, va_rf x2), (3, va_rf x3), (5, .int x5), (6, .int x6)] → wd_lp7 (f_X9_goByPort_l51 n) k x0 x1 x2 x3 x5 x6 w = some w' → W p l e R s m args below meth c H locs cells slots (wd_fin E w0 none w' True R args s below) (F0 m 51 ls []) := by
  intro k
  induction k with
  | zero => intro _ _ _ _ _ _ _ _ _ _ _ _ _ _ hf; cases hf
  | succ k ih =>
    intro x0 x1 x2 x3 x5 x6 w H locs cells slots ls hZ hl hf
    exact v_X9_goByPort_b51 n C hR (wd_lp7 (f_X9_goByPort_l51 n) k) ih x0 x1 x2 x3 x5 x6 w H locs cells slots ls hZ hl hf

set_option maxHeartbeats 4000000 in
set_option maxRecDepth 100000 in
theorem c_X9_goByPort (l : Launch) (E : wd_E) (n : Nat) (w : Wd) (this : Nat) (p0 : Option Nat) (p1 : Option Nat) (p2 : Option Nat) (w' : Wd) (k_this : wd_K w this = 10) (k_p0 : ∀ q, p0 = some q → wd_K w q = 3) (k_p1 : ∀ q, p1 = some q → wd_K w q = 8) (k_p2 : ∀ q, p2 = some q → wd_K w q = 5) (hf : f_X9_goByPort n w this p0 p1 p2 = some w') : wd_C l E yX9_goByPort cX9_goByPort 8 none 4 95 [.ref this, va_rf p0, va_rf p1, va_rf p2] w none w' True := by
  refine wd_ofW (own := RX9) (nm := "goByPort") (ks := [(some this, 10), (p0, 3), (p1, 8), (p2, 5)]) (lv := [(0, .ref this), (1, va_rf p0), (2, va_rf p1), (3, va_rf p2)]) (by decide) rfl rfl (by simp [lg_sl, va_rf_cat, Value.category]) (by simp [lv_args, va_rf_cat, Value.category]) (List.forall_mem_cons.mpr ⟨⟨by decide, fun q hq => by cases hq; exact k_this⟩, (List.forall_mem_cons.mpr ⟨⟨by decide, k_p0⟩, (List.forall_mem_cons.mpr ⟨⟨by decide, k_p1⟩, (List.forall_mem_cons.mpr ⟨⟨by decide, k_p2⟩, (fun _ hq => absurd hq List.not_mem_nil)⟩)⟩)⟩)⟩) ?_
  intro p e s m args below meth c R H ls C hR hZ hl
  obtain ⟨hx, hb, hr, hml, hts, hown, hlocks, hmn, hK⟩ := id C
  unfold f_X9_goByPort at hf
  refine lv_aload_n hx hb dX9_goByPort_0 rfl (lv_at hl 0 rfl) ?_
  refine z_getR (tk := 5) fd_904 rfl hx hb hts hown hK hZ (hZ.k 0 rfl rfl) tw_251 dX9_goByPort_1 (fun hZ => ?_)
  refine z_aload_n hx hb dX9_goByPort_4 rfl (lv_at hl 2 rfl) ?_
  obtain ⟨a1, ha1, hf⟩ := Option.bind_eq_some_iff.mp hf
  subst ha1
  have hl : lv_has ls 8 [(0, .ref this), (1, va_rf p0), (2, .ref a1), (3, va_rf p2)] := hl
  have hZ : wd_Z E w R s w H locs cells slots [((wd_R w 904 this), 6), (some this, 10), (p0, 3), (some a1, 8), (p2, 5)] := hZ
  refine z_getI fd_701 rfl hx hb hts hown hK hZ (hZ.k 3 rfl rfl) tw_565 dX9_goByPort_5 ?_
  obtain ⟨a2, ha2, hf⟩ := Option.bind_eq_some_iff.mp hf
  have hZ := hZ.add (r := some a2) (k := 6) (by decide) (fun q hq => by cases hq; exact hZ.k 0 rfl ha2)
  rw [ha2]
  obtain ⟨r5, w3, hc4, hf⟩ := wd_b2_e hf
  refine z_callV (ci := 5) (As := [.int (wd_I w 701 a1)]) (rest := []) (c_X5_widthOf l E n w a2 (wd_I w 701 a1) r5 w3 (hZ.k 0 rfl rfl) hc4) mo_X5_widthOf rfl (by decide) rfl tw_786 tw_787 tw_785 hx hb hml hts hown hK ⟨Nat.le_trans (by decide) hR.1, Nat.le_trans (by decide) hR.2⟩ hZ (hZ.k 0 rfl rfl) rfl hl.1 rfl (Nat.le_of_ble_eq_true rfl) rfl dX9_goByPort_8 (fun H locs cells slots hX hZ => ?_)
  refine lv_istore (lv' := [(4, .int r5), (0, .ref this), (1, va_rf p0), (2, .ref a1), (3, va_rf p2)]) hx hb dX9_goByPort_11 hl (by decide) (by simp [va_rf_cat, Value.category]) (fun ls hl => ?_)
  refine lv_iload hx hb dX9_goByPort_13 (lv_at hl 0 rfl) ?_
  refine lv_iconst (v := 4) hx hb dX9_goByPort_15 (by decide) ?_
  refine lv_isub hx hb dX9_goByPort_16 ?_
  refine lv_iconst (v := 4) hx hb dX9_goByPort_17 (by decide) ?_
  refine lv_idiv hx hb dX9_goByPort_18 (by decide) ?_
  refine lv_iconst (v := 4) hx hb dX9_goByPort_19 (by decide) ?_
  refine lv_imul hx hb dX9_goByPort_20 ?_
  obtain ⟨v6, e7, hf⟩ := wd_let_e hf
  rw [e7]
  refine lv_istore (lv' := [(5, .int v6), (4, .int r5), (0, .ref this), (1, va_rf p0), (2, .ref a1), (3, va_rf p2)]) hx hb dX9_goByPort_21 hl (by decide) rfl (fun ls hl => ?_)
  refine z_aload_n hx hb dX9_goByPort_23 rfl (lv_at hl 5 rfl) ?_
  obtain ⟨a8, ha8, hf⟩ := Option.bind_eq_some_iff.mp hf
  subst ha8
  have hl : lv_has ls 8 [(5, .int v6), (4, .int r5), (0, .ref this), (1, va_rf p0), (2, .ref a1), (3, .ref a8)] := hl
  have hZ : wd_Z E w R s w3 H locs cells slots [(some a2, 6), ((wd_R w 904 this), 6), (some this, 10), (p0, 3), (some a1, 8), (some a8, 5)] := hZ
  refine z_getI fd_403 rfl hx hb hts hown hK hZ (hZ.k 5 rfl rfl) tw_692 dX9_goByPort_24 ?_
  refine lv_iconst (v := 4) hx hb dX9_goByPort_27 (by decide) ?_
  refine lv_iadd hx hb dX9_goByPort_28 ?_
  refine lv_iload hx hb dX9_goByPort_29 (lv_at hl 1 rfl) ?_
  refine lv_icmp_le (tgt := 40) hx hb dX9_goByPort_31 (by decide) (fun h9 => ?_) (fun h9 => ?_)
  · have hf := wd_ite_p h9 hf
    exact v_X9_goByPort_j40 n C hR this p0 (some a1) (some a8) w3 _ _ _ _ _ ⟨hZ.1, hZ.2.1, hZ.2.2.1, hZ.2.2.2.1, (List.forall_mem_cons.mpr ⟨⟨by decide, (fun q hq => by cases hq; exact (hZ.k 2 rfl rfl))⟩, (List.forall_mem_cons.mpr ⟨⟨by decide, (fun q hq => hZ.k 3 rfl hq)⟩, (List.forall_mem_cons.mpr ⟨⟨by decide, (fun q hq => by cases hq; exact (hZ.k 4 rfl rfl))⟩, (List.forall_mem_cons.mpr ⟨⟨by decide, (fun q hq => by cases hq; exact (hZ.k 5 rfl rfl))⟩, (fun _ hq => absurd hq List.not_mem_nil)⟩)⟩)⟩)⟩), hZ.2.2.2.2.2⟩ (lv_sub hl [2, 3, 4, 5] rfl) hf
  · have hf := wd_ite_n h9 hf
    refine lv_iload hx hb dX9_goByPort_34 (lv_at hl 0 rfl) ?_
    refine lv_iconst (v := 1) hx hb dX9_goByPort_36 (by decide) ?_
    refine lv_icmp_ge (tgt := 48) hx hb dX9_goByPort_37 (by decide) (fun h12 => ?_) (fun h12 => ?_)
    · have hf := wd_ite_p h12 hf
      refine lv_iconst (v := 0) hx hb dX9_goByPort_48 (by decide) ?_
      refine lv_istore (lv' := [(6, .int (0 : Int32)), (5, .int v6), (4, .int r5), (0, .ref this), (1, va_rf p0), (2, .ref a1), (3, .ref a8)]) hx hb dX9_goByPort_49 hl (by decide) rfl (fun ls hl => ?_)
      exact v_X9_goByPort_l51 n C hR n this p0 (some a1) (some a8) v6 (0 : Int32) w3 _ _ _ _ _ ⟨hZ.1, hZ.2.1, hZ.2.2.1, hZ.2.2.2.1, (List.forall_mem_cons.mpr ⟨⟨by decide, (fun q hq => by cases hq; exact (hZ.k 2 rfl rfl))⟩, (List.forall_mem_cons.mpr ⟨⟨by decide, (fun q hq => hZ.k 3 rfl hq)⟩, (List.forall_mem_cons.mpr ⟨⟨by decide, (fun q hq => by cases hq; exact (hZ.k 4 rfl rfl))⟩, (List.forall_mem_cons.mpr ⟨⟨by decide, (fun q hq => by cases hq; exact (hZ.k 5 rfl rfl))⟩, (fun _ hq => absurd hq List.not_mem_nil)⟩)⟩)⟩)⟩), hZ.2.2.2.2.2⟩ (lv_sub hl [3, 4, 5, 6, 1, 0] rfl) hf
    · have hf := wd_ite_n h12 hf
      exact v_X9_goByPort_j40 n C hR this p0 (some a1) (some a8) w3 _ _ _ _ _ ⟨hZ.1, hZ.2.1, hZ.2.2.1, hZ.2.2.2.1, (List.forall_mem_cons.mpr ⟨⟨by decide, (fun q hq => by cases hq; exact (hZ.k 2 rfl rfl))⟩, (List.forall_mem_cons.mpr ⟨⟨by decide, (fun q hq => hZ.k 3 rfl hq)⟩, (List.forall_mem_cons.mpr ⟨⟨by decide, (fun q hq => by cases hq; exact (hZ.k 4 rfl rfl))⟩, (List.forall_mem_cons.mpr ⟨⟨by decide, (fun q hq => by cases hq; exact (hZ.k 5 rfl rfl))⟩, (fun _ hq => absurd hq List.not_mem_nil)⟩)⟩)⟩)⟩), hZ.2.2.2.2.2⟩ (lv_sub hl [2, 3, 4, 5] rfl) hf

def f_X9_goOut_j180 (n : Nat) (rec11 : Nat → Option Nat → Option Nat → Option Nat → Int32 → Wd → Option Wd) (x0 : Nat) (x1 : Option Nat) (x3 : Option Nat) (x4 : Option Nat) (x5 : Int32) (w : Wd) : Option Wd :=
  wd_let (x5 + 1) fun v23 =>
  rec11 x0 x1 x3 x4 v23 w
def f_X9_goOut_j168 (n : Nat) (rec11 : Nat → Option Nat → Option Nat → Option Nat → Int32 → Wd → Option Wd) (x0 : Nat) (x1 : Option Nat) (x3 : Option Nat) (x4 : Option Nat) (x5 : Int32) (x7 : Option Nat) (w : Wd) : Option Wd :=
  Option.bind (f_X9_goByPort n w x0 x1 x7 x4) fun w21 =>
  f_X9_goOut_j180 n rec11 x0 x1 x3 none x5 w21
def f_X9_goOut_j94 (n : Nat) (rec11 : Nat → Option Nat → Option Nat → Option Nat → Int32 → Wd → Option Wd) (x0 : Nat) (x1 : Option Nat) (x3 : Option Nat) (x4 : Option Nat) (x5 : Int32) (x7 : Option Nat) (w : Wd) : Option Wd :=
  wd_on x7 (
    wd_b2 (f_X9_complain n w x0 x1 x4 (4 : Int32) (0 : Int32)) fun r39 w37 =>
    f_X9_goOut_j180 n rec11 x0 x1 x3 r39 x5 w37)
    (fun a18 =>
    Option.bind x4 fun a19 =>
    if (wd_I w 408 a19) = 0 then
      f_X9_goOut_j168 n rec11 x0 x1 x3 (some a19) x5 (some a18) w
    else
      Option.bind (wd_R w 904 x0) fun a25 =>
      wd_b2 (f_X5_widthOf n w a25 (wd_I w 701 a18)) fun r28 w26 =>
      if ((wd_I w 403 a19) + (4 : Int32)) ≤ r28 then
        f_X9_goOut_j168 n rec11 x0 x1 x3 (some a19) x5 (some a18) w26
      else
        Option.bind (wd_R w26 904 x0) fun a30 =>
        wd_b2 (f_X5_widthOf n w26 a30 (wd_I w26 701 a18)) fun r33 w31 =>
        wd_b2 (f_X9_complain n w31 x0 x1 (some a19) (5 : Int32) r33) fun r36 w34 =>
        f_X9_goOut_j180 n rec11 x0 x1 x3 r36 x5 w34)
def f_X9_goOut_l11 (n : Nat) (rec11 : Nat → Option Nat → Option Nat → Option Nat → Int32 → Wd → Option Wd) (x0 : Nat) (x1 : Option Nat) (x3 : Option Nat) (x4 : Option Nat) (x5 : Int32) (w : Wd) : Option Wd :=
  wd_on x4 (
    some w)
    (fun a4 =>
    if (1000000 : Int32) ≤ x5 then
      some w
    else
      Option.bind x3 fun a6 =>
      wd_b2 (f_X3_portTo n w a6 (wd_I w 402 a4)) fun r9 w7 =>
      wd_b2 (f_X3_port n w7 a6 r9) fun r12 w10 =>
      wd_b2 (f_X3_owns n w10 a6 (wd_I w10 402 a4)) fun r15 w13 =>
      if r15 = 0 then
        if r9 = (-2 : Int32) then
          wd_b2 (f_X9_canWrap n w13 (some a6) (some a4)) fun r42 w40 =>
          if r42 = 0 then
            f_X9_goOut_j94 n rec11 x0 x1 (some a6) (some a4) x5 r12 w40
          else
            wd_b2 (f_X9_wrap n w40 x0 (some a6) (some a4)) fun r46 w44 =>
            f_X9_goOut_j180 n rec11 x0 x1 (some a6) r46 x5 w44
        else
          f_X9_goOut_j94 n rec11 x0 x1 (some a6) (some a4) x5 r12 w13
      else
        wd_b2 (f_X9_accept n w13 x0 x1 (some a4)) fun r49 w47 =>
        f_X9_goOut_j180 n rec11 x0 x1 (some a6) r49 x5 w47)
def f_X9_goOut (n : Nat) (w : Wd) (this : Nat) (p0 : Option Nat) (p1 : Option Nat) : Option Wd :=
  Option.bind p0 fun a1 =>
  wd_let (wd_R w 200 a1) fun v2 =>
  wd_lp6 (f_X9_goOut_l11 n) n this (some a1) v2 p1 (0 : Int32) w
set_option maxHeartbeats 4000000 in
set_option maxRecDepth 100000 in
theorem v_X9_goOut_j180 {p : Program} {l : Launch} {e : Env} {R : Room} {s : State} {m : MethodId} {args : Array Value} {below : List Frame} {meth : Method} {c : Code} {E : wd_E} {w0 : Wd} {w' : Wd} (n : Nat) (C : wd_X p s m args meth c cX9_goOut RX9 8 none "goOut" E) (hR : 5 ≤ R.frames ∧ 122 ≤ R.locals) (rec11 : Nat → Option Nat → Option Nat → Option Nat → Int32 → Wd → Option Wd) (hrec11 : ∀ (x0_ : Nat) (x1_ : Option Nat) (x3_ : Option Nat) (x4_ : Option Nat) (x5_ : Int32) (w_ : Wd) (H : Heap) (locs : List Loc) (cells slots : Nat) (ls : Array Slot), wd_Z E w0 R s w_ H locs cells slots [(some x0_, 10), (x1_, 3), (x3_, 4), (x4_, 5)] → lv_has ls 8 [(0, .ref x0_), (1, va_rf x1_), (3, va_rf x3_), (4, va_rf x4_), (5, .int x5_)] → rec11 x0_ x1_ x3_ x4_ x5_ w_ = some w' → W p l e R s m args below meth c H locs cells slots (wd_fin E w0 none w' True R args s below) (F0 m 11 ls [])) (x0 : Nat) (x1 : Option Nat) (x3 : Option Nat) (x4 : Option Nat) (x5 : Int32) (w : Wd) (H : Heap) (locs : List Loc) (cells slots : Nat) (ls : Array Slot) (hZ : wd_Z E w0 R s w H locs cells slots [(some x0, 10), (x1, 3), (x3, 4), (x4, 5)]) (hl : lv_has ls 8 [(0, .ref x0), (1, va_rf x1), (3, va_rf x3), (4, va_rf x4), (5, .int x5)]) (hf : f_X9_goOut_j180 n rec11 x0 x1 x3 x4 x5 w = some w') : W p l e R s m args below meth c H locs cells slots (wd_fin E w0 none w' True R args s below) (F0 m 180 ls []) := by
  obtain ⟨hx, hb, hr, hml, hts, hown, hlocks, hmn, hK⟩ := id C
  unfold f_X9_goOut_j180 at hf
  obtain ⟨v23, e24, hf⟩ := wd_let_e hf
  refine lv_iinc (k := 4) (v := v23) (lv' := [(5, .int v23), (0, .ref x0), (1, va_rf x1), (3, va_rf x3), (4, va_rf x4)]) hx hb dX9_goOut_180 hl rfl (by rw [← e24]; rfl) (by decide) (by simp [va_rf_cat, Value.category]) (fun ls hl => ?_)
  refine lv_goto (tgt := 11) hx hb dX9_goOut_183 (by decide) ?_
  exact hrec11 x0 x1 x3 x4 v23 w _ _ _ _ _ ⟨hZ.1, hZ.2.1, hZ.2.2.1, hZ.2.2.2.1, (List.forall_mem_cons.mpr ⟨⟨by decide, (fun q hq => by cases hq; exact (hZ.k 0 rfl rfl))⟩, (List.forall_mem_cons.mpr ⟨⟨by decide, (fun q hq => hZ.k 1 rfl hq)⟩, (List.forall_mem_cons.mpr ⟨⟨by decide, (fun q hq => hZ.k 2 rfl hq)⟩, (List.forall_mem_cons.mpr ⟨⟨by decide, (fun q hq => hZ.k 3 rfl hq)⟩, (fun _ hq => absurd hq List.not_mem_nil)⟩)⟩)⟩)⟩), hZ.2.2.2.2.2⟩ (lv_sub hl [1, 2, 3, 4, 0] rfl) hf

set_option maxHeartbeats 4000000 in
set_option maxRecDepth 100000 in
theorem v_X9_goOut_j168 {p : Program} {l : Launch} {e : Env} {R : Room} {s : State} {m : MethodId} {args : Array Value} {below : List Frame} {meth : Method} {c : Code} {E : wd_E} {w0 : Wd} {w' : Wd} (n : Nat) (C : wd_X p s m args meth c cX9_goOut RX9 8 none "goOut" E) (hR : 5 ≤ R.frames ∧ 122 ≤ R.locals) (rec11 : Nat → Option Nat → Option Nat → Option Nat → Int32 → Wd → Option Wd) (hrec11 : ∀ (x0_ : Nat) (x1_ : Option Nat) (x3_ : Option Nat) (x4_ : Option Nat) (x5_ : Int32) (w_ : Wd) (H : Heap) (locs : List Loc) (cells slots : Nat) (ls : Array Slot), wd_Z E w0 R s w_ H locs cells slots [(some x0_, 10), (x1_, 3), (x3_, 4), (x4_, 5)] → lv_has ls 8 [(0, .ref x0_), (1, va_rf x1_), (3, va_rf x3_), (4, va_rf x4_), (5, .int x5_)] → rec11 x0_ x1_ x3_ x4_ x5_ w_ = some w' → W p l e R s m args below meth c H locs cells slots (wd_fin E w0 none w' True R args s below) (F0 m 11 ls [])) (x0 : Nat) (x1 : Option Nat) (x3 : Option Nat) (x4 : Option Nat) (x5 : Int32) (x7 : Option Nat) (w : Wd) (H : Heap) (locs : List Loc) (cells slots : Nat) (ls : Array Slot) (hZ : wd_Z E w0 R s w H locs cells slots [(some x0, 10), (x1, 3), (x3, 4), (x4, 5), (x7, 8)]) (hl : lv_has ls 8 [(0, .ref x0), (1, va_rf x1), (3, va_rf x3), (4, va_rf x4), (5, .int x5), (7, va_rf x7)]) (hf : f_X9_goOut_j168 n rec11 x0 x1 x3 x4 x5 x7 w = some w') : W p l e R s m args below meth c H locs cells slots (wd_fin E w0 none w' True R args s below) (F0 m 168 ls []) := by
  obtain ⟨hx, hb, hr, hml, hts, hown, hlocks, hmn, hK⟩ := id C
  unfold f_X9_goOut_j168 at hf
  refine lv_aload_n hx hb dX9_goOut_168 rfl (lv_at hl 0 rfl) ?_
  refine z_aload_n hx hb dX9_goOut_169 rfl (lv_at hl 1 rfl) ?_
  refine z_aload hx hb dX9_goOut_170 (lv_at hl 5 rfl) ?_
  refine z_aload hx hb dX9_goOut_172 (lv_at hl 3 rfl) ?_
  obtain ⟨w21, hc22, hf⟩ := Option.bind_eq_some_iff.mp hf
  refine z_callV (ci := 9) (As := [va_rf x1, va_rf x7, va_rf x4]) (rest := []) (c_X9_goByPort l E n w x0 x1 x7 x4 w21 (hZ.k 0 rfl rfl) (fun q hq => hZ.k 1 rfl hq) (fun q hq => hZ.k 4 rfl hq) (fun q hq => hZ.k 3 rfl hq) hc22) mo_X9_goByPort rfl (by decide) rfl tw_791 tw_15 tw_789 hx hb hml hts hown hK ⟨Nat.le_trans (by decide) hR.1, Nat.le_trans (by decide) hR.2⟩ hZ (hZ.k 0 rfl rfl) rfl hl.1 rfl (Nat.le_of_ble_eq_true rfl) rfl dX9_goOut_174 (fun H locs cells slots hX hZ => ?_)
  refine z_null hx hb dX9_goOut_177 ?_
  refine z_astore (lv' := [(4, va_rf none), (0, .ref x0), (1, va_rf x1), (3, va_rf x3), (5, .int x5), (7, va_rf x7)]) hx hb dX9_goOut_178 hl (by decide) (by simp [va_rf_cat, Value.category]) (fun ls hl => ?_)
  exact v_X9_goOut_j180 n C hR rec11 hrec11 x0 x1 x3 none x5 w21 _ _ _ _ _ ⟨hZ.1, hZ.2.1, hZ.2.2.1, hZ.2.2.2.1, (List.forall_mem_cons.mpr ⟨⟨by decide, (fun q hq => by cases hq; exact (hZ.k 0 rfl rfl))⟩, (List.forall_mem_cons.mpr ⟨⟨by decide, (fun q hq => hZ.k 1 rfl hq)⟩, (List.forall_mem_cons.mpr ⟨⟨by decide, (fun q hq => hZ.k 2 rfl hq)⟩, (List.forall_mem_cons.mpr ⟨⟨by decide, (fun q hq => by cases hq)⟩, (fun _ hq => absurd hq List.not_mem_nil)⟩)⟩)⟩)⟩), hZ.2.2.2.2.2⟩ (lv_sub hl [1, 2, 3, 0, 4] rfl) hf

set_option maxHeartbeats 4000000 in
set_option maxRecDepth 100000 in
theorem v_X9_goOut_j94 {p : Program} {l : Launch} {e : Env} {R : Room} {s : State} {m : MethodId} {args : Array Value} {below : List Frame} {meth : Method} {c : Code} {E : wd_E} {w0 : Wd} {w' : Wd} (n : Nat) (C : wd_X p s m args meth c cX9_goOut RX9 8 none "goOut" E) (hR : 5 ≤ R.frames ∧ 122 ≤ R.locals) (rec11 : Nat → Option Nat → Option Nat → Option Nat → Int32 → Wd → Option Wd) (hrec11 : ∀ (x0_ : Nat) (x1_ : Option Nat) (x3_ : Option Nat) (x4_ : Option Nat) (x5_ : Int32) (w_ : Wd) (H : Heap) (locs : List Loc) (cells slots : Nat) (ls : Array Slot), wd_Z E w0 R s w_ H locs cells slots [(some x0_, 10), (x1_, 3), (x3_, 4), (x4_, 5)] → lv_has ls 8 [(0, .ref x0_), (1, va_rf x1_), (3, va_rf x3_), (4, va_rf x4_), (5, .int x5_)] → rec11 x0_ x1_ x3_ x4_ x5_ w_ = some w' → W p l e R s m args below meth c H locs cells slots (wd_fin E w0 none w' True R args s below) (F0 m 11 ls [])) (x0 : Nat) (x1 : Option Nat) (x3 : Option Nat) (x4 : Option Nat) (x5 : Int32) (x7 : Option Nat) (w : Wd) (H : Heap) (locs : List Loc) (cells slots : Nat) (ls : Array Slot) (hZ : wd_Z E w0 R s w H locs cells slots [(some x0, 10), (x1, 3), (x3, 4), (x4, 5), (x7, 8)]) (hl : lv_has ls 8 [(0, .ref x0), (1, va_rf x1), (3, va_rf x3), (4, va_rf x4), (5, .int x5), (7, va_rf x7)]) (hf : f_X9_goOut_j94 n rec11 x0 x1 x3 x4 x5 x7 w = some w') : W p l e R s m args below meth c H locs cells slots (wd_fin E w0 none w' True R args s below) (F0 m 94 ls []) := by
  obtain ⟨hx, hb, hr, hml, hts, hown, hlocks, hmn, hK⟩ := id C
  unfold f_X9_goOut_j94 at hf
  refine z_aload hx hb dX9_goOut_94 (lv_at hl 5 rfl) ?_
  refine z_ifnonnull (tgt := 113) hx hb dX9_goOut_96 (by decide) (fun a18 ha18 => ?_) (fun hn => ?_)
  · have hf := wd_on_s ha18 hf
    subst ha18
    have hl : lv_has ls 8 [(0, .ref x0), (1, va_rf x1), (3, va_rf x3), (4, va_rf x4), (5, .int x5), (7, .ref a18)] := hl
    have hZ : wd_Z E w0 R s w H locs cells slots [(some x0, 10), (x1, 3), (x3, 4), (x4, 5), (some a18, 8)] := hZ
    refine z_aload hx hb dX9_goOut_113 (lv_at hl 3 rfl) ?_
    obtain ⟨a19, ha19, hf⟩ := Option.bind_eq_some_iff.mp hf
    subst ha19
    have hl : lv_has ls 8 [(0, .ref x0), (1, va_rf x1), (3, va_rf x3), (4, .ref a19), (5, .int x5), (7, .ref a18)] := hl
    have hZ : wd_Z E w0 R s w H locs cells slots [(some x0, 10), (x1, 3), (x3, 4), (some a19, 5), (some a18, 8)] := hZ
    refine z_getI fd_408 rfl hx hb hts hown hK hZ (hZ.k 3 rfl rfl) tw_711 dX9_goOut_115 ?_
    refine lv_if_eq (tgt := 168) hx hb dX9_goOut_118 (by decide) (fun h20 => ?_) (fun h20 => ?_)
    · have hf := wd_ite_p h20 hf
      exact v_X9_goOut_j168 n C hR rec11 hrec11 x0 x1 x3 (some a19) x5 (some a18) w _ _ _ _ _ ⟨hZ.1, hZ.2.1, hZ.2.2.1, hZ.2.2.2.1, (List.forall_mem_cons.mpr ⟨⟨by decide, (fun q hq => by cases hq; exact (hZ.k 0 rfl rfl))⟩, (List.forall_mem_cons.mpr ⟨⟨by decide, (fun q hq => hZ.k 1 rfl hq)⟩, (List.forall_mem_cons.mpr ⟨⟨by decide, (fun q hq => hZ.k 2 rfl hq)⟩, (List.forall_mem_cons.mpr ⟨⟨by decide, (fun q hq => by cases hq; exact (hZ.k 3 rfl rfl))⟩, (List.forall_mem_cons.mpr ⟨⟨by decide, (fun q hq => by cases hq; exact (hZ.k 4 rfl rfl))⟩, (fun _ hq => absurd hq List.not_mem_nil)⟩)⟩)⟩)⟩)⟩), hZ.2.2.2.2.2⟩ (lv_sub hl [0, 1, 2, 3, 4, 5] rfl) hf
    · have hf := wd_ite_n h20 hf
      refine lv_aload hx hb dX9_goOut_121 (lv_at hl 3 rfl) ?_
      refine z_getI fd_403 rfl hx hb hts hown hK hZ (hZ.k 3 rfl rfl) tw_692 dX9_goOut_123 ?_
      refine lv_iconst (v := 4) hx hb dX9_goOut_126 (by decide) ?_
      refine lv_iadd hx hb dX9_goOut_127 ?_
      refine lv_aload_n hx hb dX9_goOut_128 rfl (lv_at hl 0 rfl) ?_
      refine z_getR (tk := 5) fd_904 rfl hx hb hts hown hK hZ (hZ.k 0 rfl rfl) tw_251 dX9_goOut_129 (fun hZ => ?_)
      refine lv_aload hx hb dX9_goOut_132 (lv_at hl 5 rfl) ?_
      refine z_getI fd_701 rfl hx hb hts hown hK hZ (hZ.k 5 rfl rfl) tw_565 dX9_goOut_134 ?_
      obtain ⟨a25, ha25, hf⟩ := Option.bind_eq_some_iff.mp hf
      have hZ := hZ.add (r := some a25) (k := 6) (by decide) (fun q hq => by cases hq; exact hZ.k 0 rfl ha25)
      rw [ha25]
      obtain ⟨r28, w26, hc27, hf⟩ := wd_b2_e hf
      refine z_callV (ci := 5) (As := [.int (wd_I w 701 a18)]) (rest := [.int ((wd_I w 403 a19) + (4 : Int32))]) (c_X5_widthOf l E n w a25 (wd_I w 701 a18) r28 w26 (hZ.k 0 rfl rfl) hc27) mo_X5_widthOf rfl (by decide) rfl tw_786 tw_787 tw_785 hx hb hml hts hown hK ⟨Nat.le_trans (by decide) hR.1, Nat.le_trans (by decide) hR.2⟩ hZ (hZ.k 0 rfl rfl) rfl hl.1 rfl (Nat.le_of_ble_eq_true rfl) rfl dX9_goOut_137 (fun H locs cells slots hX hZ => ?_)
      refine lv_icmp_le (tgt := 168) hx hb dX9_goOut_140 (by decide) (fun h29 => ?_) (fun h29 => ?_)
      · have hf := wd_ite_p h29 hf
        exact v_X9_goOut_j168 n C hR rec11 hrec11 x0 x1 x3 (some a19) x5 (some a18) w26 _ _ _ _ _ ⟨hZ.1, hZ.2.1, hZ.2.2.1, hZ.2.2.2.1, (List.forall_mem_cons.mpr ⟨⟨by decide, (fun q hq => by cases hq; exact (hZ.k 2 rfl rfl))⟩, (List.forall_mem_cons.mpr ⟨⟨by decide, (fun q hq => hZ.k 3 rfl hq)⟩, (List.forall_mem_cons.mpr ⟨⟨by decide, (fun q hq => hZ.k 4 rfl hq)⟩, (List.forall_mem_cons.mpr ⟨⟨by decide, (fun q hq => by cases hq; exact (hZ.k 5 rfl rfl))⟩, (List.forall_mem_cons.mpr ⟨⟨by decide, (fun q hq => by cases hq; exact (hZ.k 6 rfl rfl))⟩, (fun _ hq => absurd hq List.not_mem_nil)⟩)⟩)⟩)⟩)⟩), hZ.2.2.2.2.2⟩ (lv_sub hl [0, 1, 2, 3, 4, 5] rfl) hf
      · have hf := wd_ite_n h29 hf
        refine lv_aload_n hx hb dX9_goOut_143 rfl (lv_at hl 0 rfl) ?_
        refine z_aload_n hx hb dX9_goOut_144 rfl (lv_at hl 1 rfl) ?_
        refine lv_aload hx hb dX9_goOut_145 (lv_at hl 3 rfl) ?_
        refine lv_iconst (v := 5) hx hb dX9_goOut_147 (by decide) ?_
        refine lv_aload_n hx hb dX9_goOut_148 rfl (lv_at hl 0 rfl) ?_
        refine z_getR (tk := 5) fd_904 rfl hx hb hts hown hK hZ (hZ.k 2 rfl rfl) tw_251 dX9_goOut_149 (fun hZ => ?_)
        refine lv_aload hx hb dX9_goOut_152 (lv_at hl 5 rfl) ?_
        refine z_getI fd_701 rfl hx hb hts hown hK hZ (hZ.k 7 rfl rfl) tw_565 dX9_goOut_154 ?_
        obtain ⟨a30, ha30, hf⟩ := Option.bind_eq_some_iff.mp hf
        have hZ := hZ.add (r := some a30) (k := 6) (by decide) (fun q hq => by cases hq; exact hZ.k 0 rfl ha30)
        rw [ha30]
        obtain ⟨r33, w31, hc32, hf⟩ := wd_b2_e hf
        refine z_callV (ci := 5) (As := [.int (wd_I w26 701 a18)]) (rest := [.int (5 : Int32), .ref a19, va_rf x1, .ref x0]) (c_X5_widthOf l E n w26 a30 (wd_I w26 701 a18) r33 w31 (hZ.k 0 rfl rfl) hc32) mo_X5_widthOf rfl (by decide) rfl tw_786 tw_787 tw_785 hx hb hml hts hown hK ⟨Nat.le_trans (by decide) hR.1, Nat.le_trans (by decide) hR.2⟩ hZ (hZ.k 0 rfl rfl) rfl hl.1 rfl (by simp [va_rf_cat, Value.category]) rfl dX9_goOut_157 (fun H locs cells slots hX hZ => ?_)
        obtain ⟨r36, w34, hc35, hf⟩ := wd_b2_e hf
        refine z_callV (ci := 9) (As := [va_rf x1, va_rf (some a19), .int (5 : Int32), .int r33]) (rest := []) (c_X9_complain l E n w31 x0 x1 (some a19) (5 : Int32) r33 r36 w34 (hZ.k 4 rfl rfl) (fun q hq => hZ.k 5 rfl hq) (fun q hq => by cases hq; exact (hZ.k 7 rfl rfl)) hc35) mo_X9_complain rfl (by decide) rfl tw_779 tw_14 tw_777 hx hb hml hts hown hK ⟨Nat.le_trans (by decide) hR.1, Nat.le_trans (by decide) hR.2⟩ hZ (hZ.k 4 rfl rfl) rfl hl.1 rfl (Nat.le_of_ble_eq_true rfl) rfl dX9_goOut_160 (fun H locs cells slots hX hZ => ?_)
        have hZ := hZ.add (by decide) hX
        refine z_astore (lv' := [(4, va_rf r36), (0, .ref x0), (1, va_rf x1), (3, va_rf x3), (5, .int x5), (7, .ref a18)]) hx hb dX9_goOut_163 hl (by decide) (by simp [va_rf_cat, Value.category]) (fun ls hl => ?_)
        refine lv_goto (tgt := 180) hx hb dX9_goOut_165 (by decide) ?_
        exact v_X9_goOut_j180 n C hR rec11 hrec11 x0 x1 x3 r36 x5 w34 _ _ _ _ _ ⟨hZ.1, hZ.2.1, hZ.2.2.1, hZ.2.2.2.1, (List.forall_mem_cons.mpr ⟨⟨by decide, (fun q hq => by cases hq; exact (hZ.k 5 rfl rfl))⟩, (List.forall_mem_cons.mpr ⟨⟨by decide, (fun q hq => hZ.k 6 rfl hq)⟩, (List.forall_mem_cons.mpr ⟨⟨by decide, (fun q hq => hZ.k 7 rfl hq)⟩, (List.forall_mem_cons.mpr ⟨⟨by decide, (fun q hq => hZ.k 0 rfl hq)⟩, (fun _ hq => absurd hq List.not_mem_nil)⟩)⟩)⟩)⟩), hZ.2.2.2.2.2⟩ (lv_sub hl [1, 2, 3, 0, 4] rfl) hf
  · have hf := wd_on_n hn hf
    subst hn
    have hl : lv_has ls 8 [(0, .ref x0), (1, va_rf x1), (3, va_rf x3), (4, va_rf x4), (5, .int x5), (7, va_rf none)] := hl
    have hZ : wd_Z E w0 R s w H locs cells slots [(some x0, 10), (x1, 3), (x3, 4), (x4, 5), (none, 8)] := hZ
    refine lv_aload_n hx hb dX9_goOut_99 rfl (lv_at hl 0 rfl) ?_
    refine z_aload_n hx hb dX9_goOut_100 rfl (lv_at hl 1 rfl) ?_
    refine z_aload hx hb dX9_goOut_101 (lv_at hl 3 rfl) ?_
    refine lv_iconst (v := 4) hx hb dX9_goOut_103 (by decide) ?_
    refine lv_iconst (v := 0) hx hb dX9_goOut_104 (by decide) ?_
    obtain ⟨r39, w37, hc38, hf⟩ := wd_b2_e hf
    refine z_callV (ci := 9) (As := [va_rf x1, va_rf x4, .int (4 : Int32), .int (0 : Int32)]) (rest := []) (c_X9_complain l E n w x0 x1 x4 (4 : Int32) (0 : Int32) r39 w37 (hZ.k 0 rfl rfl) (fun q hq => hZ.k 1 rfl hq) (fun q hq => hZ.k 3 rfl hq) hc38) mo_X9_complain rfl (by decide) rfl tw_779 tw_14 tw_777 hx hb hml hts hown hK ⟨Nat.le_trans (by decide) hR.1, Nat.le_trans (by decide) hR.2⟩ hZ (hZ.k 0 rfl rfl) rfl hl.1 rfl (Nat.le_of_ble_eq_true rfl) rfl dX9_goOut_105 (fun H locs cells slots hX hZ => ?_)
    have hZ := hZ.add (by decide) hX
    refine z_astore (lv' := [(4, va_rf r39), (0, .ref x0), (1, va_rf x1), (3, va_rf x3), (5, .int x5), (7, va_rf none)]) hx hb dX9_goOut_108 hl (by decide) (by simp [va_rf_cat, Value.category]) (fun ls hl => ?_)
    refine lv_goto (tgt := 180) hx hb dX9_goOut_110 (by decide) ?_
    exact v_X9_goOut_j180 n C hR rec11 hrec11 x0 x1 x3 r39 x5 w37 _ _ _ _ _ ⟨hZ.1, hZ.2.1, hZ.2.2.1, hZ.2.2.2.1, (List.forall_mem_cons.mpr ⟨⟨by decide, (fun q hq => by cases hq; exact (hZ.k 1 rfl rfl))⟩, (List.forall_mem_cons.mpr ⟨⟨by decide, (fun q hq => hZ.k 2 rfl hq)⟩, (List.forall_mem_cons.mpr ⟨⟨by decide, (fun q hq => hZ.k 3 rfl hq)⟩, (List.forall_mem_cons.mpr ⟨⟨by decide, (fun q hq => hZ.k 0 rfl hq)⟩, (fun _ hq => absurd hq List.not_mem_nil)⟩)⟩)⟩)⟩), hZ.2.2.2.2.2⟩ (lv_sub hl [1, 2, 3, 0, 4] rfl) hf

set_option maxHeartbeats 4000000 in
set_option maxRecDepth 100000 in
theorem v_X9_goOut_b11 {p : Program} {l : Launch} {e : Env} {R : Room} {s : State} {m : MethodId} {args : Array Value} {below : List Frame} {meth : Method} {c : Code} {E : wd_E} {w0 : Wd} {w' : Wd} (n : Nat) (C : wd_X p s m args meth c cX9_goOut RX9 8 none "goOut" E) (hR : 5 ≤ R.frames ∧ 122 ≤ R.locals) (rec11 : Nat → Option Nat → Option Nat → Option Nat → Int32 → Wd → Option Wd) (hrec11 : ∀ (x0_ : Nat) (x1_ : Option Nat) (x3_ : Option Nat) (x4_ : Option Nat) (x5_ : Int32) (w_ : Wd) (H : Heap) (locs : List Loc) (cells slots : Nat) (ls : Array Slot), wd_Z E w0 R s w_ H locs cells slots [(some x0_, 10), (x1_, 3), (x3_, 4), (x4_, 5)] → lv_has ls 8 [(0, .ref x0_), (1, va_rf x1_), (3, va_rf x3_), (4, va_rf x4_), (5, .int x5_)] → rec11 x0_ x1_ x3_ x4_ x5_ w_ = some w' → W p l e R s m args below meth c H locs cells slots (wd_fin E w0 none w' True R args s below) (F0 m 11 ls [])) (x0 : Nat) (x1 : Option Nat) (x3 : Option Nat) (x4 : Option Nat) (x5 : Int32) (w : Wd) (H : Heap) (locs : List Loc) (cells slots : Nat) (ls : Array Slot) (hZ : wd_Z E w0 R s w H locs cells slots [(some x0, 10), (x1, 3), (x3, 4), (x4, 5)]) (hl : lv_has ls 8 [(0, .ref x0), (1, va_rf x1), (3, va_rf x3), (4, va_rf x4), (5, .int x5)]) (hf : f_X9_goOut_l11 n rec11 x0 x1 x3 x4 x5 w = some w') : W p l e R s m args below meth c H locs cells slots (wd_fin E w0 none w' True R args s below) (F0 m 11 ls []) := by
  obtain ⟨hx, hb, hr, hml, hts, hown, hlocks, hmn, hK⟩ := id C
  unfold f_X9_goOut_l11 at hf
  refine z_aload hx hb dX9_goOut_11 (lv_at hl 3 rfl) ?_
  refine z_ifnull (tgt := 186) hx hb dX9_goOut_13 (by decide) (fun hn => ?_) (fun a4 ha4 => ?_)
  · have hf := wd_on_n hn hf
    subst hn
    have hl : lv_has ls 8 [(0, .ref x0), (1, va_rf x1), (3, va_rf x3), (4, va_rf none), (5, .int x5)] := hl
    have hZ : wd_Z E w0 R s w H locs cells slots [(some x0, 10), (x1, 3), (x3, 4), (none, 5)] := hZ
    obtain rfl := Option.some.inj hf
    exact z_vret hx hb hr hlocks hZ trivial dX9_goOut_186
  · have hf := wd_on_s ha4 hf
    subst ha4
    have hl : lv_has ls 8 [(0, .ref x0), (1, va_rf x1), (3, va_rf x3), (4, .ref a4), (5, .int x5)] := hl
    have hZ : wd_Z E w0 R s w H locs cells slots [(some x0, 10), (x1, 3), (x3, 4), (some a4, 5)] := hZ
    refine lv_iload hx hb dX9_goOut_16 (lv_at hl 4 rfl) ?_
    refine lv_ldc (v := 1000000) hx hb hown (hts _ tw_761) dX9_goOut_18 ?_
    refine lv_icmp_ge (tgt := 186) hx hb dX9_goOut_20 (by decide) (fun h5 => ?_) (fun h5 => ?_)
    · have hf := wd_ite_p h5 hf
      obtain rfl := Option.some.inj hf
      exact z_vret hx hb hr hlocks hZ trivial dX9_goOut_186
    · have hf := wd_ite_n h5 hf
      refine z_aload_n hx hb dX9_goOut_23 rfl (lv_at hl 2 rfl) ?_
      refine lv_aload hx hb dX9_goOut_24 (lv_at hl 3 rfl) ?_
      refine z_getI fd_402 rfl hx hb hts hown hK hZ (hZ.k 3 rfl rfl) tw_688 dX9_goOut_26 ?_
      obtain ⟨a6, ha6, hf⟩ := Option.bind_eq_some_iff.mp hf
      subst ha6
      have hl : lv_has ls 8 [(0, .ref x0), (1, va_rf x1), (3, .ref a6), (4, .ref a4), (5, .int x5)] := hl
      have hZ : wd_Z E w0 R s w H locs cells slots [(some x0, 10), (x1, 3), (some a6, 4), (some a4, 5)] := hZ
      obtain ⟨r9, w7, hc8, hf⟩ := wd_b2_e hf
      refine z_callV (ci := 3) (As := [.int (wd_I w 402 a4)]) (rest := []) (c_X3_portTo l E n w a6 (wd_I w 402 a4) r9 w7 (hZ.k 2 rfl rfl) hc8) mo_X3_portTo rfl (by decide) rfl tw_653 tw_654 tw_652 hx hb hml hts hown hK ⟨Nat.le_trans (by decide) hR.1, Nat.le_trans (by decide) hR.2⟩ hZ (hZ.k 2 rfl rfl) rfl hl.1 rfl (Nat.le_of_ble_eq_true rfl) rfl dX9_goOut_29 (fun H locs cells slots hX hZ => ?_)
      refine lv_istore (lv' := [(6, .int r9), (0, .ref x0), (1, va_rf x1), (3, .ref a6), (4, .ref a4), (5, .int x5)]) hx hb dX9_goOut_32 hl (by decide) rfl (fun ls hl => ?_)
      refine lv_aload_n hx hb dX9_goOut_34 rfl (lv_at hl 3 rfl) ?_
      refine lv_iload hx hb dX9_goOut_35 (lv_at hl 0 rfl) ?_
      obtain ⟨r12, w10, hc11, hf⟩ := wd_b2_e hf
      refine z_callV (ci := 3) (As := [.int r9]) (rest := []) (c_X3_port l E n w7 a6 r9 r12 w10 (hZ.k 2 rfl rfl) hc11) mo_X3_port rfl (by decide) rfl tw_488 tw_489 tw_664 hx hb hml hts hown hK ⟨Nat.le_trans (by decide) hR.1, Nat.le_trans (by decide) hR.2⟩ hZ (hZ.k 2 rfl rfl) rfl hl.1 rfl (Nat.le_of_ble_eq_true rfl) rfl dX9_goOut_37 (fun H locs cells slots hX hZ => ?_)
      have hZ := hZ.add (by decide) hX
      refine z_astore (lv' := [(7, va_rf r12), (6, .int r9), (0, .ref x0), (1, va_rf x1), (3, .ref a6), (4, .ref a4), (5, .int x5)]) hx hb dX9_goOut_40 hl (by decide) rfl (fun ls hl => ?_)
      refine lv_aload_n hx hb dX9_goOut_42 rfl (lv_at hl 4 rfl) ?_
      refine lv_aload hx hb dX9_goOut_43 (lv_at hl 5 rfl) ?_
      refine z_getI fd_402 rfl hx hb hts hown hK hZ (hZ.k 4 rfl rfl) tw_688 dX9_goOut_45 ?_
      obtain ⟨r15, w13, hc14, hf⟩ := wd_b2_e hf
      refine z_callV (ci := 3) (As := [.int (wd_I w10 402 a4)]) (rest := []) (c_X3_owns l E n w10 a6 (wd_I w10 402 a4) r15 w13 (hZ.k 3 rfl rfl) hc14) mo_X3_owns rfl (by decide) rfl tw_649 tw_650 tw_648 hx hb hml hts hown hK ⟨Nat.le_trans (by decide) hR.1, Nat.le_trans (by decide) hR.2⟩ hZ (hZ.k 3 rfl rfl) rfl hl.1 rfl (Nat.le_of_ble_eq_true rfl) rfl dX9_goOut_48 (fun H locs cells slots hX hZ => ?_)
      refine lv_if_eq (tgt := 66) hx hb dX9_goOut_51 (by decide) (fun h16 => ?_) (fun h16 => ?_)
      · have hf := wd_ite_p h16 hf
        refine lv_iload hx hb dX9_goOut_66 (lv_at hl 1 rfl) ?_
        refine lv_bipush (v := -2) hx hb dX9_goOut_68 (by decide) ?_
        refine lv_icmp_ne (tgt := 94) hx hb dX9_goOut_70 (by decide) (fun h17 => ?_) (fun h17 => ?_)
        · have hf := wd_ite_n h17 hf
          exact v_X9_goOut_j94 n C hR rec11 hrec11 x0 x1 (some a6) (some a4) x5 r12 w13 _ _ _ _ _ ⟨hZ.1, hZ.2.1, hZ.2.2.1, hZ.2.2.2.1, (List.forall_mem_cons.mpr ⟨⟨by decide, (fun q hq => by cases hq; exact (hZ.k 1 rfl rfl))⟩, (List.forall_mem_cons.mpr ⟨⟨by decide, (fun q hq => hZ.k 2 rfl hq)⟩, (List.forall_mem_cons.mpr ⟨⟨by decide, (fun q hq => by cases hq; exact (hZ.k 3 rfl rfl))⟩, (List.forall_mem_cons.mpr ⟨⟨by decide, (fun q hq => by cases hq; exact (hZ.k 4 rfl rfl))⟩, (List.forall_mem_cons.mpr ⟨⟨by decide, (fun q hq => hZ.k 0 rfl hq)⟩, (fun _ hq => absurd hq List.not_mem_nil)⟩)⟩)⟩)⟩)⟩), hZ.2.2.2.2.2⟩ (lv_sub hl [2, 3, 4, 5, 6, 0] rfl) hf
        · have hf := wd_ite_p h17 hf
          refine lv_aload_n hx hb dX9_goOut_73 rfl (lv_at hl 4 rfl) ?_
          refine lv_aload hx hb dX9_goOut_74 (lv_at hl 5 rfl) ?_
          obtain ⟨r42, w40, hc41, hf⟩ := wd_b2_e hf
          refine z_callS (As := [va_rf (some a6), va_rf (some a4)]) (rest := []) (c_X9_canWrap l E n w13 (some a6) (some a4) r42 w40 (fun q hq => by cases hq; exact (hZ.k 3 rfl rfl)) (fun q hq => by cases hq; exact (hZ.k 4 rfl rfl)) hc41) mo_X9_canWrap tw_771 tw_770 hx hb hml hts hown hK ⟨Nat.le_trans (by decide) hR.1, Nat.le_trans (by decide) hR.2⟩ hZ rfl hl.1 rfl (Nat.le_of_ble_eq_true rfl) rfl dX9_goOut_76 (fun H locs cells slots hX hZ => ?_)
          refine lv_if_eq (tgt := 94) hx hb dX9_goOut_79 (by decide) (fun h43 => ?_) (fun h43 => ?_)
          · have hf := wd_ite_p h43 hf
            exact v_X9_goOut_j94 n C hR rec11 hrec11 x0 x1 (some a6) (some a4) x5 r12 w40 _ _ _ _ _ ⟨hZ.1, hZ.2.1, hZ.2.2.1, hZ.2.2.2.1, (List.forall_mem_cons.mpr ⟨⟨by decide, (fun q hq => by cases hq; exact (hZ.k 1 rfl rfl))⟩, (List.forall_mem_cons.mpr ⟨⟨by decide, (fun q hq => hZ.k 2 rfl hq)⟩, (List.forall_mem_cons.mpr ⟨⟨by decide, (fun q hq => by cases hq; exact (hZ.k 3 rfl rfl))⟩, (List.forall_mem_cons.mpr ⟨⟨by decide, (fun q hq => by cases hq; exact (hZ.k 4 rfl rfl))⟩, (List.forall_mem_cons.mpr ⟨⟨by decide, (fun q hq => hZ.k 0 rfl hq)⟩, (fun _ hq => absurd hq List.not_mem_nil)⟩)⟩)⟩)⟩)⟩), hZ.2.2.2.2.2⟩ (lv_sub hl [2, 3, 4, 5, 6, 0] rfl) hf
          · have hf := wd_ite_n h43 hf
            refine lv_aload_n hx hb dX9_goOut_82 rfl (lv_at hl 2 rfl) ?_
            refine lv_aload_n hx hb dX9_goOut_83 rfl (lv_at hl 4 rfl) ?_
            refine lv_aload hx hb dX9_goOut_84 (lv_at hl 5 rfl) ?_
            obtain ⟨r46, w44, hc45, hf⟩ := wd_b2_e hf
            refine z_callV (ci := 9) (As := [va_rf (some a6), va_rf (some a4)]) (rest := []) (c_X9_wrap l E n w40 x0 (some a6) (some a4) r46 w44 (hZ.k 1 rfl rfl) (fun q hq => by cases hq; exact (hZ.k 3 rfl rfl)) (fun q hq => by cases hq; exact (hZ.k 4 rfl rfl)) hc45) mo_X9_wrap rfl (by decide) rfl tw_775 tw_13 tw_773 hx hb hml hts hown hK ⟨Nat.le_trans (by decide) hR.1, Nat.le_trans (by decide) hR.2⟩ hZ (hZ.k 1 rfl rfl) rfl hl.1 rfl (Nat.le_of_ble_eq_true rfl) rfl dX9_goOut_86 (fun H locs cells slots hX hZ => ?_)
            have hZ := hZ.add (by decide) hX
            refine z_astore (lv' := [(4, va_rf r46), (7, va_rf r12), (6, .int r9), (0, .ref x0), (1, va_rf x1), (3, .ref a6), (5, .int x5)]) hx hb dX9_goOut_89 hl (by decide) rfl (fun ls hl => ?_)
            refine lv_goto (tgt := 180) hx hb dX9_goOut_91 (by decide) ?_
            exact v_X9_goOut_j180 n C hR rec11 hrec11 x0 x1 (some a6) r46 x5 w44 _ _ _ _ _ ⟨hZ.1, hZ.2.1, hZ.2.2.1, hZ.2.2.2.1, (List.forall_mem_cons.mpr ⟨⟨by decide, (fun q hq => by cases hq; exact (hZ.k 2 rfl rfl))⟩, (List.forall_mem_cons.mpr ⟨⟨by decide, (fun q hq => hZ.k 3 rfl hq)⟩, (List.forall_mem_cons.mpr ⟨⟨by decide, (fun q hq => by cases hq; exact (hZ.k 4 rfl rfl))⟩, (List.forall_mem_cons.mpr ⟨⟨by decide, (fun q hq => hZ.k 0 rfl hq)⟩, (fun _ hq => absurd hq List.not_mem_nil)⟩)⟩)⟩)⟩), hZ.2.2.2.2.2⟩ (lv_sub hl [3, 4, 5, 0, 6] rfl) hf
      · have hf := wd_ite_n h16 hf
        refine lv_aload_n hx hb dX9_goOut_54 rfl (lv_at hl 2 rfl) ?_
        refine z_aload_n hx hb dX9_goOut_55 rfl (lv_at hl 3 rfl) ?_
        refine lv_aload hx hb dX9_goOut_56 (lv_at hl 5 rfl) ?_
        obtain ⟨r49, w47, hc48, hf⟩ := wd_b2_e hf
        refine z_callV (ci := 9) (As := [va_rf x1, va_rf (some a4)]) (rest := []) (c_X9_accept l E n w13 x0 x1 (some a4) r49 w47 (hZ.k 1 rfl rfl) (fun q hq => hZ.k 2 rfl hq) (fun q hq => by cases hq; exact (hZ.k 4 rfl rfl)) hc48) mo_X9_accept rfl (by decide) rfl tw_764 tw_12 tw_762 hx hb hml hts hown hK ⟨Nat.le_trans (by decide) hR.1, Nat.le_trans (by decide) hR.2⟩ hZ (hZ.k 1 rfl rfl) rfl hl.1 rfl (Nat.le_of_ble_eq_true rfl) rfl dX9_goOut_58 (fun H locs cells slots hX hZ => ?_)
        have hZ := hZ.add (by decide) hX
        refine z_astore (lv' := [(4, va_rf r49), (7, va_rf r12), (6, .int r9), (0, .ref x0), (1, va_rf x1), (3, .ref a6), (5, .int x5)]) hx hb dX9_goOut_61 hl (by decide) rfl (fun ls hl => ?_)
        refine lv_goto (tgt := 180) hx hb dX9_goOut_63 (by decide) ?_
        exact v_X9_goOut_j180 n C hR rec11 hrec11 x0 x1 (some a6) r49 x5 w47 _ _ _ _ _ ⟨hZ.1, hZ.2.1, hZ.2.2.1, hZ.2.2.2.1, (List.forall_mem_cons.mpr ⟨⟨by decide, (fun q hq => by cases hq; exact (hZ.k 2 rfl rfl))⟩, (List.forall_mem_cons.mpr ⟨⟨by decide, (fun q hq => hZ.k 3 rfl hq)⟩, (List.forall_mem_cons.mpr ⟨⟨by decide, (fun q hq => by cases hq; exact (hZ.k 4 rfl rfl))⟩, (List.forall_mem_cons.mpr ⟨⟨by decide, (fun q hq => hZ.k 0 rfl hq)⟩, (fun _ hq => absurd hq List.not_mem_nil)⟩)⟩)⟩)⟩), hZ.2.2.2.2.2⟩ (lv_sub hl [3, 4, 5, 0, 6] rfl) hf

theorem v_X9_goOut_l11 {p : Program} {l : Launch} {e : Env} {R : Room} {s : State} {m : MethodId} {args : Array Value} {below : List Frame} {meth : Method} {c : Code} {E : wd_E} {w0 : Wd} {w' : Wd} (n : Nat) (C : wd_X p s m args meth c cX9_goOut RX9 8 none "goOut" E) (hR : 5 ≤ R.frames ∧ 122 ≤ R.locals) : ∀ (k : Nat) (x0 : Nat) (x1 : Option Nat) (x3 : Option Nat) (x4 : Option Nat) (x5 : Int32) (w : Wd) (H : Heap) (locs : List Loc) (cells slots : Nat) (ls : Array Slot), wd_Z E w0 R s w H locs cells slots [(some x0, 10), (x1, 3), (x3, 4), (x4, 5)] → lv_has ls 8 [(0, .ref x0), (1, va_rf x1), (3, va_rf x3), (4, va_rf x4), (5, .int x5)] → wd_lp6 (f_X9_goOut_l11 n) k x0 x1 x3 x4 x5 w = some w' → W p l e R s m args below meth c H locs cells slots (wd_fin E w0 none w' True R args s below) (F0 m 11 ls []) := by
  intro k
  induction k with
  | zero => intro _ _ _ _ _ _ _ _ _ _ _ _ _ hf; cases hf
  | succ k ih =>
    intro x0 x1 x3 x4 x5 w H locs cells slots ls hZ hl hf
    exact v_X9_goOut_b11 n C hR (wd_lp6 (f_X9_goOut_l11 n) k) ih x0 x1 x3 x4 x5 w H locs cells slots ls hZ hl hf

set_option maxHeartbeats 4000000 in
set_option maxRecDepth 100000 in
theorem c_X9_goOut (l : Launch) (E : wd_E) (n : Nat) (w : Wd) (this : Nat) (p0 : Option Nat) (p1 : Option Nat) (w' : Wd) (k_this : wd_K w this = 10) (k_p0 : ∀ q, p0 = some q → wd_K w q = 3) (k_p1 : ∀ q, p1 = some q → wd_K w q = 5) (hf : f_X9_goOut n w this p0 p1 = some w') : wd_C l E yX9_goOut cX9_goOut 8 none 5 122 [.ref this, va_rf p0, va_rf p1] w none w' True := by
  refine wd_ofW (own := RX9) (nm := "goOut") (ks := [(some this, 10), (p0, 3), (p1, 5)]) (lv := [(0, .ref this), (1, va_rf p0), (2, va_rf p1)]) (by decide) rfl rfl (by simp [lg_sl, va_rf_cat, Value.category]) (by simp [lv_args, va_rf_cat, Value.category]) (List.forall_mem_cons.mpr ⟨⟨by decide, fun q hq => by cases hq; exact k_this⟩, (List.forall_mem_cons.mpr ⟨⟨by decide, k_p0⟩, (List.forall_mem_cons.mpr ⟨⟨by decide, k_p1⟩, (fun _ hq => absurd hq List.not_mem_nil)⟩)⟩)⟩) ?_
  intro p e s m args below meth c R H ls C hR hZ hl
  obtain ⟨hx, hb, hr, hml, hts, hown, hlocks, hmn, hK⟩ := id C
  unfold f_X9_goOut at hf
  refine z_aload_n hx hb dX9_goOut_0 rfl (lv_at hl 1 rfl) ?_
  obtain ⟨a1, ha1, hf⟩ := Option.bind_eq_some_iff.mp hf
  subst ha1
  have hl : lv_has ls 8 [(0, .ref this), (1, .ref a1), (2, va_rf p1)] := hl
  have hZ : wd_Z E w R s w H locs cells slots [(some this, 10), (some a1, 3), (p1, 5)] := hZ
  refine z_getR (tk := 3) fd_200 rfl hx hb hts hown hK hZ (hZ.k 1 rfl rfl) tw_206 dX9_goOut_1 (fun hZ => ?_)
  obtain ⟨v2, e3, hf⟩ := wd_let_e hf
  rw [e3]
  rw [e3] at hZ
  refine z_astore_n (lv' := [(3, va_rf v2), (0, .ref this), (1, .ref a1), (2, va_rf p1)]) hx hb dX9_goOut_4 rfl hl (by decide) (by simp [va_rf_cat, Value.category]) (fun ls hl => ?_)
  refine z_aload_n hx hb dX9_goOut_5 rfl (lv_at hl 3 rfl) ?_
  refine z_astore (lv' := [(4, va_rf p1), (3, va_rf v2), (0, .ref this), (1, .ref a1), (2, va_rf p1)]) hx hb dX9_goOut_6 hl (by decide) (by simp [va_rf_cat, Value.category]) (fun ls hl => ?_)
  refine lv_iconst (v := 0) hx hb dX9_goOut_8 (by decide) ?_
  refine lv_istore (lv' := [(5, .int (0 : Int32)), (4, va_rf p1), (3, va_rf v2), (0, .ref this), (1, .ref a1), (2, va_rf p1)]) hx hb dX9_goOut_9 hl (by decide) (by simp [va_rf_cat, Value.category]) (fun ls hl => ?_)
  exact v_X9_goOut_l11 n C hR n this (some a1) v2 p1 (0 : Int32) w _ _ _ _ _ ⟨hZ.1, hZ.2.1, hZ.2.2.1, hZ.2.2.2.1, (List.forall_mem_cons.mpr ⟨⟨by decide, (fun q hq => by cases hq; exact (hZ.k 1 rfl rfl))⟩, (List.forall_mem_cons.mpr ⟨⟨by decide, (fun q hq => by cases hq; exact (hZ.k 2 rfl rfl))⟩, (List.forall_mem_cons.mpr ⟨⟨by decide, (fun q hq => hZ.k 0 rfl hq)⟩, (List.forall_mem_cons.mpr ⟨⟨by decide, (fun q hq => hZ.k 3 rfl hq)⟩, (fun _ hq => absurd hq List.not_mem_nil)⟩)⟩)⟩)⟩), hZ.2.2.2.2.2⟩ (lv_sub hl [3, 4, 2, 1, 0] rfl) hf

