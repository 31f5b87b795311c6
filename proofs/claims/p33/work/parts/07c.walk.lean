/-! ===== meanings and contracts, laid by wip/p33/gen ===== -/
def f_X7_init (n : Nat) (w : Wd) (this : Nat) (p0 : Int32) (p1 : Int32) (p2 : Int32) (p3 : Int32) : Option Wd :=
  wd_let (wd_sI w 700 this p0) fun w1 =>
  wd_let (wd_sI w1 701 this p1) fun w3 =>
  wd_let (wd_sI w3 702 this p2) fun w5 =>
  wd_let (wd_sI w5 703 this p3) fun w7 =>
  some w7
set_option maxHeartbeats 4000000 in
set_option maxRecDepth 100000 in
theorem c_X7_init (l : Launch) (E : wd_E) (n : Nat) (w : Wd) (this : Nat) (p0 : Int32) (p1 : Int32) (p2 : Int32) (p3 : Int32) (w' : Wd) (k_this : wd_K w this = 8) (hf : f_X7_init n w this p0 p1 p2 p3 = some w') : wd_C l E yX7_init cX7_init 5 none 1 24 [.ref this, .int p0, .int p1, .int p2, .int p3] w none w' True := by
  refine wd_ofW (own := RX7) (nm := "<init>") (ks := [(some this, 8)]) (lv := [(0, .ref this), (1, .int p0), (2, .int p1), (3, .int p2), (4, .int p3)]) (by decide) rfl rfl (Nat.le_of_ble_eq_true rfl) rfl (List.forall_mem_cons.mpr ⟨⟨by decide, fun q hq => by cases hq; exact k_this⟩, (fun _ hq => absurd hq List.not_mem_nil)⟩) ?_
  intro p e s m args below meth c R H ls C hR hZ hl
  obtain ⟨hx, hb, hr, hml, hts, hown, hlocks, hmn, hK⟩ := id C
  unfold f_X7_init at hf
  refine lv_aload_n hx hb dX7_init_0 rfl (lv_at hl 0 rfl) ?_
  refine W.objInit hx hb hown (hts _ tw_558) (hts _ tw_54) (hts _ tw_55) rfl (by rw [hml]; exact hl.1) rfl dX7_init_1 (Nat.le_trans (by decide) hR.1) (Nat.le_trans (Nat.le_of_ble_eq_true rfl) hR.2) ?_
  refine W.eq (g2 := F0 m 4 ls []) rfl ?_
  refine lv_aload_n hx hb dX7_init_4 rfl (lv_at hl 0 rfl) ?_
  refine lv_iload_n hx hb dX7_init_5 rfl (lv_at hl 1 rfl) ?_
  refine z_putFI hmn rfl fd_700 cok_7 rfl rfl rfl rfl rfl hx hb hts hown hK hZ (hZ.k 0 rfl rfl) tw_559 dX7_init_6 (fun H locs hZ => ?_)
  obtain ⟨w1, e2, hf⟩ := wd_let_e hf
  rw [e2] at hZ
  refine lv_aload_n hx hb dX7_init_9 rfl (lv_at hl 0 rfl) ?_
  refine lv_iload_n hx hb dX7_init_10 rfl (lv_at hl 2 rfl) ?_
  refine z_putFI hmn rfl fd_701 cok_7 rfl rfl rfl rfl rfl hx hb hts hown hK hZ (hZ.k 0 rfl rfl) tw_563 dX7_init_11 (fun H locs hZ => ?_)
  obtain ⟨w3, e4, hf⟩ := wd_let_e hf
  rw [e4] at hZ
  refine lv_aload_n hx hb dX7_init_14 rfl (lv_at hl 0 rfl) ?_
  refine lv_iload_n hx hb dX7_init_15 rfl (lv_at hl 3 rfl) ?_
  refine z_putFI hmn rfl fd_702 cok_7 rfl rfl rfl rfl rfl hx hb hts hown hK hZ (hZ.k 0 rfl rfl) tw_566 dX7_init_16 (fun H locs hZ => ?_)
  obtain ⟨w5, e6, hf⟩ := wd_let_e hf
  rw [e6] at hZ
  refine lv_aload_n hx hb dX7_init_19 rfl (lv_at hl 0 rfl) ?_
  refine lv_iload hx hb dX7_init_20 (lv_at hl 4 rfl) ?_
  refine z_putFI hmn rfl fd_703 cok_7 rfl rfl rfl rfl rfl hx hb hts hown hK hZ (hZ.k 0 rfl rfl) tw_570 dX7_init_22 (fun H locs hZ => ?_)
  obtain ⟨w7, e8, hf⟩ := wd_let_e hf
  rw [e8] at hZ
  obtain rfl := Option.some.inj hf
  exact z_vret hx hb hr hlocks hZ trivial dX7_init_25

def f_X3_netHas (n : Nat) (w : Wd) (p0 : Int32) (p1 : Int32) (p2 : Int32) : Option (Int32 × Wd) :=
  if ((p0 ^^^ p2) >>> (((8 : Int32) - p1) &&& 31)) = 0 then
    some ((1 : Int32), w)
  else
    some ((0 : Int32), w)
set_option maxHeartbeats 4000000 in
set_option maxRecDepth 100000 in
theorem c_X3_netHas (l : Launch) (E : wd_E) (n : Nat) (w : Wd) (p0 : Int32) (p1 : Int32) (p2 : Int32) (r' : Int32) (w' : Wd)  (hf : f_X3_netHas n w p0 p1 p2 = some (r', w')) : wd_C l E yX3_netHas cX3_netHas 3 (some .boolean) 0 0 [.int p0, .int p1, .int p2] w (some (.int r')) w' True := by
  refine wd_ofW (own := RX3) (nm := "netHas") (ks := []) (lv := [(0, .int p0), (1, .int p1), (2, .int p2)]) (by decide) rfl rfl (Nat.le_of_ble_eq_true rfl) rfl (fun _ hq => absurd hq List.not_mem_nil) ?_
  intro p e s m args below meth c R H ls C hR hZ hl
  obtain ⟨hx, hb, hr, hml, hts, hown, hlocks, hmn, hK⟩ := id C
  unfold f_X3_netHas at hf
  refine lv_iload_n hx hb dX3_netHas_0 rfl (lv_at hl 0 rfl) ?_
  refine lv_iload_n hx hb dX3_netHas_1 rfl (lv_at hl 2 rfl) ?_
  refine lv_ixor hx hb dX3_netHas_2 ?_
  refine lv_bipush (v := 8) hx hb dX3_netHas_3 (by decide) ?_
  refine lv_iload_n hx hb dX3_netHas_5 rfl (lv_at hl 1 rfl) ?_
  refine lv_isub hx hb dX3_netHas_6 ?_
  refine lv_ishr hx hb dX3_netHas_7 ?_
  refine lv_if_ne (tgt := 15) hx hb dX3_netHas_8 (by decide) (fun h1 => ?_) (fun h1 => ?_)
  · have hf := wd_ite_n h1 hf
    refine lv_iconst (v := 0) hx hb dX3_netHas_15 (by decide) ?_
    obtain ⟨rfl, rfl⟩ := Prod.mk.inj (Option.some.inj hf)
    exact z_zret (by decide) hx hb hr hlocks hZ trivial dX3_netHas_16
  · have hf := wd_ite_p h1 hf
    refine lv_iconst (v := 1) hx hb dX3_netHas_11 (by decide) ?_
    refine lv_goto (tgt := 16) hx hb dX3_netHas_12 (by decide) ?_
    obtain ⟨rfl, rfl⟩ := Prod.mk.inj (Option.some.inj hf)
    exact z_zret (by decide) hx hb hr hlocks hZ trivial dX3_netHas_16

def f_X3_portWithNetOf_j62 (n : Nat) (rec7 : Nat → Int32 → Int32 → Int32 → Int32 → Wd → Option (Int32 × Wd)) (x0 : Nat) (x1 : Int32) (x2 : Int32) (x3 : Int32) (x4 : Int32) (w : Wd) : Option (Int32 × Wd) :=
  wd_let (x4 + 1) fun v7 =>
  rec7 x0 x1 x2 x3 v7 w
def f_X3_portWithNetOf_l7 (n : Nat) (rec7 : Nat → Int32 → Int32 → Int32 → Int32 → Wd → Option (Int32 × Wd)) (x0 : Nat) (x1 : Int32) (x2 : Int32) (x3 : Int32) (x4 : Int32) (w : Wd) : Option (Int32 × Wd) :=
  if (4 : Int32) ≤ x4 then
    some (x2, w)
  else
    Option.bind (wd_R w 302 x0) fun a2 =>
    wd_gd (x4 < 0 ∨ wd_N w a2 ≤ x4.toNatClampNeg) <|
    wd_let (wd_Q w a2 x4.toNatClampNeg) fun v4 =>
    wd_on v4 (
      f_X3_portWithNetOf_j62 n rec7 x0 x1 x2 x3 x4 w)
      (fun a6 =>
      if (wd_I w 703 a6) ≤ x3 then
        f_X3_portWithNetOf_j62 n rec7 x0 x1 x2 x3 x4 w
      else
        wd_b2 (f_X3_netHas n w (wd_I w 702 a6) (wd_I w 703 a6) x1) fun r12 w10 =>
        if r12 = 0 then
          f_X3_portWithNetOf_j62 n rec7 x0 x1 x2 x3 x4 w10
        else
          wd_let (wd_I w10 703 a6) fun v14 =>
          f_X3_portWithNetOf_j62 n rec7 x0 x1 x4 v14 x4 w10)
def f_X3_portWithNetOf (n : Nat) (w : Wd) (this : Nat) (p0 : Int32) : Option (Int32 × Wd) :=
  wd_lp6 (f_X3_portWithNetOf_l7 n) n this p0 (-1 : Int32) (-1 : Int32) (0 : Int32) w
set_option maxHeartbeats 4000000 in
set_option maxRecDepth 100000 in
theorem v_X3_portWithNetOf_j62 {p : Program} {l : Launch} {e : Env} {R : Room} {s : State} {m : MethodId} {args : Array Value} {below : List Frame} {meth : Method} {c : Code} {E : wd_E} {w0 : Wd} {r' : Int32} {w' : Wd} (n : Nat) (C : wd_X p s m args meth c cX3_portWithNetOf RX3 6 (some .int) "portWithNetOf" E) (hR : 1 ≤ R.frames ∧ 22 ≤ R.locals) (rec7 : Nat → Int32 → Int32 → Int32 → Int32 → Wd → Option (Int32 × Wd)) (hrec7 : ∀ (x0_ : Nat) (x1_ : Int32) (x2_ : Int32) (x3_ : Int32) (x4_ : Int32) (w_ : Wd) (H : Heap) (locs : List Loc) (cells slots : Nat) (ls : Array Slot), wd_Z E w0 R s w_ H locs cells slots [(some x0_, 4)] → lv_has ls 6 [(0, .ref x0_), (1, .int x1_), (2, .int x2_), (3, .int x3_), (4, .int x4_)] → rec7 x0_ x1_ x2_ x3_ x4_ w_ = some (r', w') → W p l e R s m args below meth c H locs cells slots (wd_fin E w0 (some (.int r')) w' True R args s below) (F0 m 7 ls [])) (x0 : Nat) (x1 : Int32) (x2 : Int32) (x3 : Int32) (x4 : Int32) (w : Wd) (H : Heap) (locs : List Loc) (cells slots : Nat) (ls : Array Slot) (hZ : wd_Z E w0 R s w H locs cells slots [(some x0, 4)]) (hl : lv_has ls 6 [(0, .ref x0), (1, .int x1), (2, .int x2), (3, .int x3), (4, .int x4)]) (hf : f_X3_portWithNetOf_j62 n rec7 x0 x1 x2 x3 x4 w = some (r', w')) : W p l e R s m args below meth c H locs cells slots (wd_fin E w0 (some (.int r')) w' True R args s below) (F0 m 62 ls []) := by
  obtain ⟨hx, hb, hr, hml, hts, hown, hlocks, hmn, hK⟩ := id C
  unfold f_X3_portWithNetOf_j62 at hf
  obtain ⟨v7, e8, hf⟩ := wd_let_e hf
  refine lv_iinc (k := 4) (v := v7) (lv' := [(4, .int v7), (0, .ref x0), (1, .int x1), (2, .int x2), (3, .int x3)]) hx hb dX3_portWithNetOf_62 hl rfl (by rw [← e8]; rfl) (by decide) rfl (fun ls hl => ?_)
  refine lv_goto (tgt := 7) hx hb dX3_portWithNetOf_65 (by decide) ?_
  exact hrec7 x0 x1 x2 x3 v7 w _ _ _ _ _ ⟨hZ.1, hZ.2.1, hZ.2.2.1, hZ.2.2.2.1, (List.forall_mem_cons.mpr ⟨⟨by decide, (fun q hq => by cases hq; exact (hZ.k 0 rfl rfl))⟩, (fun _ hq => absurd hq List.not_mem_nil)⟩), hZ.2.2.2.2.2⟩ (lv_sub hl [1, 2, 3, 4, 0] rfl) hf

set_option maxHeartbeats 4000000 in
set_option maxRecDepth 100000 in
theorem v_X3_portWithNetOf_b7 {p : Program} {l : Launch} {e : Env} {R : Room} {s : State} {m : MethodId} {args : Array Value} {below : List Frame} {meth : Method} {c : Code} {E : wd_E} {w0 : Wd} {r' : Int32} {w' : Wd} (n : Nat) (C : wd_X p s m args meth c cX3_portWithNetOf RX3 6 (some .int) "portWithNetOf" E) (hR : 1 ≤ R.frames ∧ 22 ≤ R.locals) (rec7 : Nat → Int32 → Int32 → Int32 → Int32 → Wd → Option (Int32 × Wd)) (hrec7 : ∀ (x0_ : Nat) (x1_ : Int32) (x2_ : Int32) (x3_ : Int32) (x4_ : Int32) (w_ : Wd) (H : Heap) (locs : List Loc) (cells slots : Nat) (ls : Array Slot), wd_Z E w0 R s w_ H locs cells slots [(some x0_, 4)] → lv_has ls 6 [(0, .ref x0_), (1, .int x1_), (2, .int x2_), (3, .int x3_), (4, .int x4_)] → rec7 x0_ x1_ x2_ x3_ x4_ w_ = some (r', w') → W p l e R s m args below meth c H locs cells slots (wd_fin E w0 (some (.int r')) w' True R args s below) (F0 m 7 ls [])) (x0 : Nat) (x1 : Int32) (x2 : Int32) (x3 : Int32) (x4 : Int32) (w : Wd) (H : Heap) (locs : List Loc) (cells slots : Nat) (ls : Array Slot) (hZ : wd_Z E w0 R s w H locs cells slots [(some x0, 4)]) (hl : lv_has ls 6 [(0, .ref x0), (1, .int x1), (2, .int x2), (3, .int x3), (4, .int x4)]) (hf : f_X3_portWithNetOf_l7 n rec7 x0 x1 x2 x3 x4 w = some (r', w')) : W p l e R s m args below meth c H locs cells slots (wd_fin E w0 (some (.int r')) w' True R args s below) (F0 m 7 ls []) := by
  obtain ⟨hx, hb, hr, hml, hts, hown, hlocks, hmn, hK⟩ := id C
  unfold f_X3_portWithNetOf_l7 at hf
  refine lv_iload hx hb dX3_portWithNetOf_7 (lv_at hl 4 rfl) ?_
  refine lv_iconst (v := 4) hx hb dX3_portWithNetOf_9 (by decide) ?_
  refine lv_icmp_ge (tgt := 68) hx hb dX3_portWithNetOf_10 (by decide) (fun h1 => ?_) (fun h1 => ?_)
  · have hf := wd_ite_p h1 hf
    refine lv_iload_n hx hb dX3_portWithNetOf_68 rfl (lv_at hl 2 rfl) ?_
    obtain ⟨rfl, rfl⟩ := Prod.mk.inj (Option.some.inj hf)
    exact z_iret hx hb hr hlocks hZ trivial dX3_portWithNetOf_69
  · have hf := wd_ite_n h1 hf
    refine lv_aload_n hx hb dX3_portWithNetOf_13 rfl (lv_at hl 0 rfl) ?_
    refine z_getR (tk := 21) fd_302 rfl hx hb hts hown hK hZ (hZ.k 0 rfl rfl) tw_79 dX3_portWithNetOf_14 (fun hZ => ?_)
    refine lv_iload hx hb dX3_portWithNetOf_17 (lv_at hl 4 rfl) ?_
    obtain ⟨a2, ha2, hf⟩ := Option.bind_eq_some_iff.mp hf
    have hZ := hZ.add (r := some a2) (k := 22) (by decide) (fun q hq => by cases hq; exact hZ.k 0 rfl ha2)
    rw [ha2]
    obtain ⟨h3, hf⟩ := wd_gd_e hf
    refine z_aald (k := 22) (by decide) (by decide) (tk := 7) rfl hx hb hK hZ (hZ.k 0 rfl rfl) h3 dX3_portWithNetOf_19 (fun hZ => ?_)
    obtain ⟨v4, e5, hf⟩ := wd_let_e hf
    rw [e5]
    rw [e5] at hZ
    refine z_astore (lv' := [(5, va_rf v4), (0, .ref x0), (1, .int x1), (2, .int x2), (3, .int x3), (4, .int x4)]) hx hb dX3_portWithNetOf_20 hl (by decide) rfl (fun ls hl => ?_)
    refine z_aload hx hb dX3_portWithNetOf_22 (lv_at hl 0 rfl) ?_
    refine z_ifnull (tgt := 62) hx hb dX3_portWithNetOf_24 (by decide) (fun hn => ?_) (fun a6 ha6 => ?_)
    · have hf := wd_on_n hn hf
      subst hn
      have hl : lv_has ls 6 [(5, va_rf none), (0, .ref x0), (1, .int x1), (2, .int x2), (3, .int x3), (4, .int x4)] := hl
      have hZ : wd_Z E w0 R s w H locs cells slots [(none, 8), (some a2, 22), ((wd_R w 302 x0), 22), (some x0, 4)] := hZ
      exact v_X3_portWithNetOf_j62 n C hR rec7 hrec7 x0 x1 x2 x3 x4 w _ _ _ _ _ ⟨hZ.1, hZ.2.1, hZ.2.2.1, hZ.2.2.2.1, (List.forall_mem_cons.mpr ⟨⟨by decide, (fun q hq => by cases hq; exact (hZ.k 3 rfl rfl))⟩, (fun _ hq => absurd hq List.not_mem_nil)⟩), hZ.2.2.2.2.2⟩ (lv_sub hl [1, 2, 3, 4, 5] rfl) hf
    · have hf := wd_on_s ha6 hf
      subst ha6
      have hl : lv_has ls 6 [(5, .ref a6), (0, .ref x0), (1, .int x1), (2, .int x2), (3, .int x3), (4, .int x4)] := hl
      have hZ : wd_Z E w0 R s w H locs cells slots [(some a6, 8), (some a2, 22), ((wd_R w 302 x0), 22), (some x0, 4)] := hZ
      refine lv_aload hx hb dX3_portWithNetOf_27 (lv_at hl 0 rfl) ?_
      refine z_getI fd_703 rfl hx hb hts hown hK hZ (hZ.k 0 rfl rfl) tw_571 dX3_portWithNetOf_29 ?_
      refine lv_iload_n hx hb dX3_portWithNetOf_32 rfl (lv_at hl 4 rfl) ?_
      refine lv_icmp_le (tgt := 62) hx hb dX3_portWithNetOf_33 (by decide) (fun h9 => ?_) (fun h9 => ?_)
      · have hf := wd_ite_p h9 hf
        exact v_X3_portWithNetOf_j62 n C hR rec7 hrec7 x0 x1 x2 x3 x4 w _ _ _ _ _ ⟨hZ.1, hZ.2.1, hZ.2.2.1, hZ.2.2.2.1, (List.forall_mem_cons.mpr ⟨⟨by decide, (fun q hq => by cases hq; exact (hZ.k 3 rfl rfl))⟩, (fun _ hq => absurd hq List.not_mem_nil)⟩), hZ.2.2.2.2.2⟩ (lv_sub hl [1, 2, 3, 4, 5] rfl) hf
      · have hf := wd_ite_n h9 hf
        refine lv_aload hx hb dX3_portWithNetOf_36 (lv_at hl 0 rfl) ?_
        refine z_getI fd_702 rfl hx hb hts hown hK hZ (hZ.k 0 rfl rfl) tw_567 dX3_portWithNetOf_38 ?_
        refine lv_aload hx hb dX3_portWithNetOf_41 (lv_at hl 0 rfl) ?_
        refine z_getI fd_703 rfl hx hb hts hown hK hZ (hZ.k 0 rfl rfl) tw_571 dX3_portWithNetOf_43 ?_
        refine lv_iload_n hx hb dX3_portWithNetOf_46 rfl (lv_at hl 2 rfl) ?_
        obtain ⟨r12, w10, hc11, hf⟩ := wd_b2_e hf
        refine z_callS (As := [.int (wd_I w 702 a6), .int (wd_I w 703 a6), .int x1]) (rest := []) (c_X3_netHas l E n w (wd_I w 702 a6) (wd_I w 703 a6) x1 r12 w10  hc11) mo_X3_netHas tw_590 tw_589 hx hb hml hts hown hK ⟨Nat.le_trans (by decide) hR.1, Nat.le_trans (by decide) hR.2⟩ hZ rfl hl.1 rfl (Nat.le_of_ble_eq_true rfl) rfl dX3_portWithNetOf_47 (fun H locs cells slots hX hZ => ?_)
        refine lv_if_eq (tgt := 62) hx hb dX3_portWithNetOf_50 (by decide) (fun h13 => ?_) (fun h13 => ?_)
        · have hf := wd_ite_p h13 hf
          exact v_X3_portWithNetOf_j62 n C hR rec7 hrec7 x0 x1 x2 x3 x4 w10 _ _ _ _ _ ⟨hZ.1, hZ.2.1, hZ.2.2.1, hZ.2.2.2.1, (List.forall_mem_cons.mpr ⟨⟨by decide, (fun q hq => by cases hq; exact (hZ.k 3 rfl rfl))⟩, (fun _ hq => absurd hq List.not_mem_nil)⟩), hZ.2.2.2.2.2⟩ (lv_sub hl [1, 2, 3, 4, 5] rfl) hf
        · have hf := wd_ite_n h13 hf
          refine lv_iload hx hb dX3_portWithNetOf_53 (lv_at hl 5 rfl) ?_
          refine lv_istore_n (lv' := [(2, .int x4), (5, .ref a6), (0, .ref x0), (1, .int x1), (3, .int x3), (4, .int x4)]) hx hb dX3_portWithNetOf_55 rfl hl (by decide) rfl (fun ls hl => ?_)
          refine lv_aload hx hb dX3_portWithNetOf_56 (lv_at hl 1 rfl) ?_
          refine z_getI fd_703 rfl hx hb hts hown hK hZ (hZ.k 0 rfl rfl) tw_571 dX3_portWithNetOf_58 ?_
          obtain ⟨v14, e15, hf⟩ := wd_let_e hf
          rw [e15]
          refine lv_istore_n (lv' := [(3, .int v14), (2, .int x4), (5, .ref a6), (0, .ref x0), (1, .int x1), (4, .int x4)]) hx hb dX3_portWithNetOf_61 rfl hl (by decide) rfl (fun ls hl => ?_)
          exact v_X3_portWithNetOf_j62 n C hR rec7 hrec7 x0 x1 x4 v14 x4 w10 _ _ _ _ _ ⟨hZ.1, hZ.2.1, hZ.2.2.1, hZ.2.2.2.1, (List.forall_mem_cons.mpr ⟨⟨by decide, (fun q hq => by cases hq; exact (hZ.k 3 rfl rfl))⟩, (fun _ hq => absurd hq List.not_mem_nil)⟩), hZ.2.2.2.2.2⟩ (lv_sub hl [3, 4, 1, 0, 5] rfl) hf

theorem v_X3_portWithNetOf_l7 {p : Program} {l : Launch} {e : Env} {R : Room} {s : State} {m : MethodId} {args : Array Value} {below : List Frame} {meth : Method} {c : Code} {E : wd_E} {w0 : Wd} {r' : Int32} {w' : Wd} (n : Nat) (C : wd_X p s m args meth c cX3_portWithNetOf RX3 6 (some .int) "portWithNetOf" E) (hR : 1 ≤ R.frames ∧ 22 ≤ R.locals) : ∀ (k : Nat) (x0 : Nat) (x1 : Int32) (x2 : Int32) (x3 : Int32) (x4 : Int32) (w : Wd) (H : Heap) (locs : List Loc) (cells slots : Nat) (ls : Array Slot), wd_Z E w0 R s w H locs cells slots [(some x0, 4)] → lv_has ls 6 [(0, .ref x0), (1, .int x1), (2, .int x2), (3, .int x3), (4, .int x4)] → wd_lp6 (f_X3_portWithNetOf_l7 n) k x0 x1 x2 x3 x4 w = some (r', w') → W p l e R s m args below meth c H locs cells slots (wd_fin E w0 (some (.int r')) w' True R args s below) (F0 m 7 ls []) := by
  intro k
  induction k with
  | zero => intro _ _ _ _ _ _ _ _ _ _ _ _ _ hf; cases hf
  | succ k ih =>
    intro x0 x1 x2 x3 x4 w H locs cells slots ls hZ hl hf
    exact v_X3_portWithNetOf_b7 n C hR (wd_lp6 (f_X3_portWithNetOf_l7 n) k) ih x0 x1 x2 x3 x4 w H locs cells slots ls hZ hl hf

set_option maxHeartbeats 4000000 in
set_option maxRecDepth 100000 in
theorem c_X3_portWithNetOf (l : Launch) (E : wd_E) (n : Nat) (w : Wd) (this : Nat) (p0 : Int32) (r' : Int32) (w' : Wd) (k_this : wd_K w this = 4) (hf : f_X3_portWithNetOf n w this p0 = some (r', w')) : wd_C l E yX3_portWithNetOf cX3_portWithNetOf 6 (some .int) 1 22 [.ref this, .int p0] w (some (.int r')) w' True := by
  refine wd_ofW (own := RX3) (nm := "portWithNetOf") (ks := [(some this, 4)]) (lv := [(0, .ref this), (1, .int p0)]) (by decide) rfl rfl (Nat.le_of_ble_eq_true rfl) rfl (List.forall_mem_cons.mpr ⟨⟨by decide, fun q hq => by cases hq; exact k_this⟩, (fun _ hq => absurd hq List.not_mem_nil)⟩) ?_
  intro p e s m args below meth c R H ls C hR hZ hl
  obtain ⟨hx, hb, hr, hml, hts, hown, hlocks, hmn, hK⟩ := id C
  unfold f_X3_portWithNetOf at hf
  refine lv_iconst (v := -1) hx hb dX3_portWithNetOf_0 (by decide) ?_
  refine lv_istore_n (lv' := [(2, .int (-1 : Int32)), (0, .ref this), (1, .int p0)]) hx hb dX3_portWithNetOf_1 rfl hl (by decide) rfl (fun ls hl => ?_)
  refine lv_iconst (v := -1) hx hb dX3_portWithNetOf_2 (by decide) ?_
  refine lv_istore_n (lv' := [(3, .int (-1 : Int32)), (2, .int (-1 : Int32)), (0, .ref this), (1, .int p0)]) hx hb dX3_portWithNetOf_3 rfl hl (by decide) rfl (fun ls hl => ?_)
  refine lv_iconst (v := 0) hx hb dX3_portWithNetOf_4 (by decide) ?_
  refine lv_istore (lv' := [(4, .int (0 : Int32)), (3, .int (-1 : Int32)), (2, .int (-1 : Int32)), (0, .ref this), (1, .int p0)]) hx hb dX3_portWithNetOf_5 hl (by decide) rfl (fun ls hl => ?_)
  exact v_X3_portWithNetOf_l7 n C hR n this p0 (-1 : Int32) (-1 : Int32) (0 : Int32) w _ _ _ _ _ ⟨hZ.1, hZ.2.1, hZ.2.2.1, hZ.2.2.2.1, (List.forall_mem_cons.mpr ⟨⟨by decide, (fun q hq => by cases hq; exact (hZ.k 0 rfl rfl))⟩, (fun _ hq => absurd hq List.not_mem_nil)⟩), hZ.2.2.2.2.2⟩ (lv_sub hl [3, 4, 2, 1, 0] rfl) hf

def f_X3_port_j18 (n : Nat) (w : Wd) : Option (Option Nat × Wd) :=
  some (none, w)
def f_X3_port (n : Nat) (w : Wd) (this : Nat) (p0 : Int32) : Option (Option Nat × Wd) :=
  if p0 < 0 then
    f_X3_port_j18 n w
  else
    if (4 : Int32) ≤ p0 then
      f_X3_port_j18 n w
    else
      Option.bind (wd_R w 302 this) fun a3 =>
      wd_gd (p0 < 0 ∨ wd_N w a3 ≤ p0.toNatClampNeg) <|
      some ((wd_Q w a3 p0.toNatClampNeg), w)
set_option maxHeartbeats 4000000 in
set_option maxRecDepth 100000 in
theorem v_X3_port_j18 {p : Program} {l : Launch} {e : Env} {R : Room} {s : State} {m : MethodId} {args : Array Value} {below : List Frame} {meth : Method} {c : Code} {E : wd_E} {w0 : Wd} {r' : Option Nat} {w' : Wd} (n : Nat) (C : wd_X p s m args meth c cX3_port RX3 2 (some (.object "SeamarkNet$Port")) "port" E) (hR : 0 ≤ R.frames ∧ 0 ≤ R.locals) (w : Wd) (H : Heap) (locs : List Loc) (cells slots : Nat) (ls : Array Slot) (hZ : wd_Z E w0 R s w H locs cells slots []) (hl : lv_has ls 2 []) (hf : f_X3_port_j18 n w = some (r', w')) : W p l e R s m args below meth c H locs cells slots (wd_fin E w0 (some (va_rf r')) w' (∀ q, r' = some q → wd_K w' q = 8) R args s below) (F0 m 18 ls []) := by
  obtain ⟨hx, hb, hr, hml, hts, hown, hlocks, hmn, hK⟩ := id C
  unfold f_X3_port_j18 at hf
  refine z_null hx hb dX3_port_18 ?_
  obtain ⟨rfl, rfl⟩ := Prod.mk.inj (Option.some.inj hf)
  exact z_aret rfl hx hb hr hlocks hZ (fun q hq => by cases hq) dX3_port_19

set_option maxHeartbeats 4000000 in
set_option maxRecDepth 100000 in
theorem c_X3_port (l : Launch) (E : wd_E) (n : Nat) (w : Wd) (this : Nat) (p0 : Int32) (r' : Option Nat) (w' : Wd) (k_this : wd_K w this = 4) (hf : f_X3_port n w this p0 = some (r', w')) : wd_C l E yX3_port cX3_port 2 (some (.object "SeamarkNet$Port")) 0 0 [.ref this, .int p0] w (some (va_rf r')) w' (∀ q, r' = some q → wd_K w' q = 8) := by
  refine wd_ofW (own := RX3) (nm := "port") (ks := [(some this, 4)]) (lv := [(0, .ref this), (1, .int p0)]) (by decide) rfl rfl (Nat.le_of_ble_eq_true rfl) rfl (List.forall_mem_cons.mpr ⟨⟨by decide, fun q hq => by cases hq; exact k_this⟩, (fun _ hq => absurd hq List.not_mem_nil)⟩) ?_
  intro p e s m args below meth c R H ls C hR hZ hl
  obtain ⟨hx, hb, hr, hml, hts, hown, hlocks, hmn, hK⟩ := id C
  unfold f_X3_port at hf
  refine lv_iload_n hx hb dX3_port_0 rfl (lv_at hl 1 rfl) ?_
  refine lv_if_lt (tgt := 18) hx hb dX3_port_1 (by decide) (fun h1 => ?_) (fun h1 => ?_)
  · have hf := wd_ite_p h1 hf
    exact v_X3_port_j18 n C hR w _ _ _ _ _ ⟨hZ.1, hZ.2.1, hZ.2.2.1, hZ.2.2.2.1, (fun _ hq => absurd hq List.not_mem_nil), hZ.2.2.2.2.2⟩ (lv_sub hl [] rfl) hf
  · have hf := wd_ite_n h1 hf
    refine lv_iload_n hx hb dX3_port_4 rfl (lv_at hl 1 rfl) ?_
    refine lv_iconst (v := 4) hx hb dX3_port_5 (by decide) ?_
    refine lv_icmp_ge (tgt := 18) hx hb dX3_port_6 (by decide) (fun h2 => ?_) (fun h2 => ?_)
    · have hf := wd_ite_p h2 hf
      exact v_X3_port_j18 n C hR w _ _ _ _ _ ⟨hZ.1, hZ.2.1, hZ.2.2.1, hZ.2.2.2.1, (fun _ hq => absurd hq List.not_mem_nil), hZ.2.2.2.2.2⟩ (lv_sub hl [] rfl) hf
    · have hf := wd_ite_n h2 hf
      refine lv_aload_n hx hb dX3_port_9 rfl (lv_at hl 0 rfl) ?_
      refine z_getR (tk := 21) fd_302 rfl hx hb hts hown hK hZ (hZ.k 0 rfl rfl) tw_79 dX3_port_10 (fun hZ => ?_)
      refine lv_iload_n hx hb dX3_port_13 rfl (lv_at hl 1 rfl) ?_
      obtain ⟨a3, ha3, hf⟩ := Option.bind_eq_some_iff.mp hf
      have hZ := hZ.add (r := some a3) (k := 22) (by decide) (fun q hq => by cases hq; exact hZ.k 0 rfl ha3)
      rw [ha3]
      obtain ⟨h4, hf⟩ := wd_gd_e hf
      refine z_aald (k := 22) (by decide) (by decide) (tk := 7) rfl hx hb hK hZ (hZ.k 0 rfl rfl) h4 dX3_port_14 (fun hZ => ?_)
      refine lv_goto (tgt := 19) hx hb dX3_port_15 (by decide) ?_
      obtain ⟨rfl, rfl⟩ := Prod.mk.inj (Option.some.inj hf)
      exact z_aret rfl hx hb hr hlocks hZ (fun q hq => hZ.k 0 rfl hq) dX3_port_19

def f_X3_routeFor_j59 (n : Nat) (rec7 : Nat → Int32 → Int32 → Int32 → Int32 → Wd → Option (Int32 × Wd)) (x0 : Nat) (x1 : Int32) (x2 : Int32) (x3 : Int32) (x4 : Int32) (w : Wd) : Option (Int32 × Wd) :=
  wd_let (x4 + 1) fun v5 =>
  rec7 x0 x1 x2 x3 v5 w
def f_X3_routeFor_l7 (n : Nat) (rec7 : Nat → Int32 → Int32 → Int32 → Int32 → Wd → Option (Int32 × Wd)) (x0 : Nat) (x1 : Int32) (x2 : Int32) (x3 : Int32) (x4 : Int32) (w : Wd) : Option (Int32 × Wd) :=
  if (wd_I w 307 x0) ≤ x4 then
    some (x2, w)
  else
    Option.bind (wd_R w 305 x0) fun a2 =>
    wd_gd (x4 < 0 ∨ wd_N w a2 ≤ x4.toNatClampNeg) <|
    if (wd_A w a2 x4.toNatClampNeg) ≤ x3 then
      f_X3_routeFor_j59 n rec7 x0 x1 x2 x3 x4 w
    else
      Option.bind (wd_R w 304 x0) fun a7 =>
      wd_gd (x4 < 0 ∨ wd_N w a7 ≤ x4.toNatClampNeg) <|
      Option.bind (wd_R w 305 x0) fun a9 =>
      wd_gd (x4 < 0 ∨ wd_N w a9 ≤ x4.toNatClampNeg) <|
      wd_b2 (f_X3_netHas n w (wd_A w a7 x4.toNatClampNeg) (wd_A w a9 x4.toNatClampNeg) x1) fun r13 w11 =>
      if r13 = 0 then
        f_X3_routeFor_j59 n rec7 x0 x1 x2 x3 x4 w11
      else
        Option.bind (wd_R w11 305 x0) fun a15 =>
        wd_gd (x4 < 0 ∨ wd_N w11 a15 ≤ x4.toNatClampNeg) <|
        wd_let (wd_A w11 a15 x4.toNatClampNeg) fun v17 =>
        f_X3_routeFor_j59 n rec7 x0 x1 x4 v17 x4 w11
def f_X3_routeFor (n : Nat) (w : Wd) (this : Nat) (p0 : Int32) : Option (Int32 × Wd) :=
  wd_lp6 (f_X3_routeFor_l7 n) n this p0 (-1 : Int32) (-1 : Int32) (0 : Int32) w
set_option maxHeartbeats 4000000 in
set_option maxRecDepth 100000 in
theorem v_X3_routeFor_j59 {p : Program} {l : Launch} {e : Env} {R : Room} {s : State} {m : MethodId} {args : Array Value} {below : List Frame} {meth : Method} {c : Code} {E : wd_E} {w0 : Wd} {r' : Int32} {w' : Wd} (n : Nat) (C : wd_X p s m args meth c cX3_routeFor RX3 5 (some .int) "routeFor" E) (hR : 1 ≤ R.frames ∧ 22 ≤ R.locals) (rec7 : Nat → Int32 → Int32 → Int32 → Int32 → Wd → Option (Int32 × Wd)) (hrec7 : ∀ (x0_ : Nat) (x1_ : Int32) (x2_ : Int32) (x3_ : Int32) (x4_ : Int32) (w_ : Wd) (H : Heap) (locs : List Loc) (cells slots : Nat) (ls : Array Slot), wd_Z E w0 R s w_ H locs cells slots [(some x0_, 4)] → lv_has ls 5 [(0, .ref x0_), (1, .int x1_), (2, .int x2_), (3, .int x3_), (4, .int x4_)] → rec7 x0_ x1_ x2_ x3_ x4_ w_ = some (r', w') → W p l e R s m args below meth c H locs cells slots (wd_fin E w0 (some (.int r')) w' True R args s below) (F0 m 7 ls [])) (x0 : Nat) (x1 : Int32) (x2 : Int32) (x3 : Int32) (x4 : Int32) (w : Wd) (H : Heap) (locs : List Loc) (cells slots : Nat) (ls : Array Slot) (hZ : wd_Z E w0 R s w H locs cells slots [(some x0, 4)]) (hl : lv_has ls 5 [(0, .ref x0), (1, .int x1), (2, .int x2), (3, .int x3), (4, .int x4)]) (hf : f_X3_routeFor_j59 n rec7 x0 x1 x2 x3 x4 w = some (r', w')) : W p l e R s m args below meth c H locs cells slots (wd_fin E w0 (some (.int r')) w' True R args s below) (F0 m 59 ls []) := by
  obtain ⟨hx, hb, hr, hml, hts, hown, hlocks, hmn, hK⟩ := id C
  unfold f_X3_routeFor_j59 at hf
  obtain ⟨v5, e6, hf⟩ := wd_let_e hf
  refine lv_iinc (k := 4) (v := v5) (lv' := [(4, .int v5), (0, .ref x0), (1, .int x1), (2, .int x2), (3, .int x3)]) hx hb dX3_routeFor_59 hl rfl (by rw [← e6]; rfl) (by decide) rfl (fun ls hl => ?_)
  refine lv_goto (tgt := 7) hx hb dX3_routeFor_62 (by decide) ?_
  exact hrec7 x0 x1 x2 x3 v5 w _ _ _ _ _ ⟨hZ.1, hZ.2.1, hZ.2.2.1, hZ.2.2.2.1, (List.forall_mem_cons.mpr ⟨⟨by decide, (fun q hq => by cases hq; exact (hZ.k 0 rfl rfl))⟩, (fun _ hq => absurd hq List.not_mem_nil)⟩), hZ.2.2.2.2.2⟩ (lv_sub hl [1, 2, 3, 4, 0] rfl) hf

set_option maxHeartbeats 4000000 in
set_option maxRecDepth 100000 in
theorem v_X3_routeFor_b7 {p : Program} {l : Launch} {e : Env} {R : Room} {s : State} {m : MethodId} {args : Array Value} {below : List Frame} {meth : Method} {c : Code} {E : wd_E} {w0 : Wd} {r' : Int32} {w' : Wd} (n : Nat) (C : wd_X p s m args meth c cX3_routeFor RX3 5 (some .int) "routeFor" E) (hR : 1 ≤ R.frames ∧ 22 ≤ R.locals) (rec7 : Nat → Int32 → Int32 → Int32 → Int32 → Wd → Option (Int32 × Wd)) (hrec7 : ∀ (x0_ : Nat) (x1_ : Int32) (x2_ : Int32) (x3_ : Int32) (x4_ : Int32) (w_ : Wd) (H : Heap) (locs : List Loc) (cells slots : Nat) (ls : Array Slot), wd_Z E w0 R s w_ H locs cells slots [(some x0_, 4)] → lv_has ls 5 [(0, .ref x0_), (1, .int x1_), (2, .int x2_), (3, .int x3_), (4, .int x4_)] → rec7 x0_ x1_ x2_ x3_ x4_ w_ = some (r', w') → W p l e R s m args below meth c H locs cells slots (wd_fin E w0 (some (.int r')) w' True R args s below) (F0 m 7 ls [])) (x0 : Nat) (x1 : Int32) (x2 : Int32) (x3 : Int32) (x4 : Int32) (w : Wd) (H : Heap) (locs : List Loc) (cells slots : Nat) (ls : Array Slot) (hZ : wd_Z E w0 R s w H locs cells slots [(some x0, 4)]) (hl : lv_has ls 5 [(0, .ref x0), (1, .int x1), (2, .int x2), (3, .int x3), (4, .int x4)]) (hf : f_X3_routeFor_l7 n rec7 x0 x1 x2 x3 x4 w = some (r', w')) : W p l e R s m args below meth c H locs cells slots (wd_fin E w0 (some (.int r')) w' True R args s below) (F0 m 7 ls []) := by
  obtain ⟨hx, hb, hr, hml, hts, hown, hlocks, hmn, hK⟩ := id C
  unfold f_X3_routeFor_l7 at hf
  refine lv_iload hx hb dX3_routeFor_7 (lv_at hl 4 rfl) ?_
  refine lv_aload_n hx hb dX3_routeFor_9 rfl (lv_at hl 0 rfl) ?_
  refine z_getI fd_307 rfl hx hb hts hown hK hZ (hZ.k 0 rfl rfl) tw_84 dX3_routeFor_10 ?_
  refine lv_icmp_ge (tgt := 65) hx hb dX3_routeFor_13 (by decide) (fun h1 => ?_) (fun h1 => ?_)
  · have hf := wd_ite_p h1 hf
    refine lv_iload_n hx hb dX3_routeFor_65 rfl (lv_at hl 2 rfl) ?_
    obtain ⟨rfl, rfl⟩ := Prod.mk.inj (Option.some.inj hf)
    exact z_iret hx hb hr hlocks hZ trivial dX3_routeFor_66
  · have hf := wd_ite_n h1 hf
    refine lv_aload_n hx hb dX3_routeFor_16 rfl (lv_at hl 0 rfl) ?_
    refine z_getR (tk := 20) fd_305 rfl hx hb hts hown hK hZ (hZ.k 0 rfl rfl) tw_82 dX3_routeFor_17 (fun hZ => ?_)
    refine lv_iload hx hb dX3_routeFor_20 (lv_at hl 4 rfl) ?_
    obtain ⟨a2, ha2, hf⟩ := Option.bind_eq_some_iff.mp hf
    have hZ := hZ.add (r := some a2) (k := 21) (by decide) (fun q hq => by cases hq; exact hZ.k 0 rfl ha2)
    rw [ha2]
    obtain ⟨h3, hf⟩ := wd_gd_e hf
    refine z_iald hx hb hK hZ (hZ.k 0 rfl rfl) h3 dX3_routeFor_22 ?_
    refine lv_iload_n hx hb dX3_routeFor_23 rfl (lv_at hl 3 rfl) ?_
    refine lv_icmp_le (tgt := 59) hx hb dX3_routeFor_24 (by decide) (fun h4 => ?_) (fun h4 => ?_)
    · have hf := wd_ite_p h4 hf
      exact v_X3_routeFor_j59 n C hR rec7 hrec7 x0 x1 x2 x3 x4 w _ _ _ _ _ ⟨hZ.1, hZ.2.1, hZ.2.2.1, hZ.2.2.2.1, (List.forall_mem_cons.mpr ⟨⟨by decide, (fun q hq => by cases hq; exact (hZ.k 2 rfl rfl))⟩, (fun _ hq => absurd hq List.not_mem_nil)⟩), hZ.2.2.2.2.2⟩ (lv_sub hl [0, 1, 2, 3, 4] rfl) hf
    · have hf := wd_ite_n h4 hf
      refine lv_aload_n hx hb dX3_routeFor_27 rfl (lv_at hl 0 rfl) ?_
      refine z_getR (tk := 20) fd_304 rfl hx hb hts hown hK hZ (hZ.k 2 rfl rfl) tw_81 dX3_routeFor_28 (fun hZ => ?_)
      refine lv_iload hx hb dX3_routeFor_31 (lv_at hl 4 rfl) ?_
      obtain ⟨a7, ha7, hf⟩ := Option.bind_eq_some_iff.mp hf
      have hZ := hZ.add (r := some a7) (k := 21) (by decide) (fun q hq => by cases hq; exact hZ.k 0 rfl ha7)
      rw [ha7]
      obtain ⟨h8, hf⟩ := wd_gd_e hf
      refine z_iald hx hb hK hZ (hZ.k 0 rfl rfl) h8 dX3_routeFor_33 ?_
      refine lv_aload_n hx hb dX3_routeFor_34 rfl (lv_at hl 0 rfl) ?_
      refine z_getR (tk := 20) fd_305 rfl hx hb hts hown hK hZ (hZ.k 4 rfl rfl) tw_82 dX3_routeFor_35 (fun hZ => ?_)
      refine lv_iload hx hb dX3_routeFor_38 (lv_at hl 4 rfl) ?_
      obtain ⟨a9, ha9, hf⟩ := Option.bind_eq_some_iff.mp hf
      have hZ := hZ.add (r := some a9) (k := 21) (by decide) (fun q hq => by cases hq; exact hZ.k 0 rfl ha9)
      rw [ha9]
      obtain ⟨h10, hf⟩ := wd_gd_e hf
      refine z_iald hx hb hK hZ (hZ.k 0 rfl rfl) h10 dX3_routeFor_40 ?_
      refine lv_iload_n hx hb dX3_routeFor_41 rfl (lv_at hl 1 rfl) ?_
      obtain ⟨r13, w11, hc12, hf⟩ := wd_b2_e hf
      refine z_callS (As := [.int (wd_A w a7 x4.toNatClampNeg), .int (wd_A w a9 x4.toNatClampNeg), .int x1]) (rest := []) (c_X3_netHas l E n w (wd_A w a7 x4.toNatClampNeg) (wd_A w a9 x4.toNatClampNeg) x1 r13 w11  hc12) mo_X3_netHas tw_590 tw_589 hx hb hml hts hown hK ⟨Nat.le_trans (by decide) hR.1, Nat.le_trans (by decide) hR.2⟩ hZ rfl hl.1 rfl (Nat.le_of_ble_eq_true rfl) rfl dX3_routeFor_42 (fun H locs cells slots hX hZ => ?_)
      refine lv_if_eq (tgt := 59) hx hb dX3_routeFor_45 (by decide) (fun h14 => ?_) (fun h14 => ?_)
      · have hf := wd_ite_p h14 hf
        exact v_X3_routeFor_j59 n C hR rec7 hrec7 x0 x1 x2 x3 x4 w11 _ _ _ _ _ ⟨hZ.1, hZ.2.1, hZ.2.2.1, hZ.2.2.2.1, (List.forall_mem_cons.mpr ⟨⟨by decide, (fun q hq => by cases hq; exact (hZ.k 6 rfl rfl))⟩, (fun _ hq => absurd hq List.not_mem_nil)⟩), hZ.2.2.2.2.2⟩ (lv_sub hl [0, 1, 2, 3, 4] rfl) hf
      · have hf := wd_ite_n h14 hf
        refine lv_iload hx hb dX3_routeFor_48 (lv_at hl 4 rfl) ?_
        refine lv_istore_n (lv' := [(2, .int x4), (0, .ref x0), (1, .int x1), (3, .int x3), (4, .int x4)]) hx hb dX3_routeFor_50 rfl hl (by decide) rfl (fun ls hl => ?_)
        refine lv_aload_n hx hb dX3_routeFor_51 rfl (lv_at hl 1 rfl) ?_
        refine z_getR (tk := 20) fd_305 rfl hx hb hts hown hK hZ (hZ.k 6 rfl rfl) tw_82 dX3_routeFor_52 (fun hZ => ?_)
        refine lv_iload hx hb dX3_routeFor_55 (lv_at hl 4 rfl) ?_
        obtain ⟨a15, ha15, hf⟩ := Option.bind_eq_some_iff.mp hf
        have hZ := hZ.add (r := some a15) (k := 21) (by decide) (fun q hq => by cases hq; exact hZ.k 0 rfl ha15)
        rw [ha15]
        obtain ⟨h16, hf⟩ := wd_gd_e hf
        refine z_iald hx hb hK hZ (hZ.k 0 rfl rfl) h16 dX3_routeFor_57 ?_
        obtain ⟨v17, e18, hf⟩ := wd_let_e hf
        rw [e18]
        refine lv_istore_n (lv' := [(3, .int v17), (2, .int x4), (0, .ref x0), (1, .int x1), (4, .int x4)]) hx hb dX3_routeFor_58 rfl hl (by decide) rfl (fun ls hl => ?_)
        exact v_X3_routeFor_j59 n C hR rec7 hrec7 x0 x1 x4 v17 x4 w11 _ _ _ _ _ ⟨hZ.1, hZ.2.1, hZ.2.2.1, hZ.2.2.2.1, (List.forall_mem_cons.mpr ⟨⟨by decide, (fun q hq => by cases hq; exact (hZ.k 8 rfl rfl))⟩, (fun _ hq => absurd hq List.not_mem_nil)⟩), hZ.2.2.2.2.2⟩ (lv_sub hl [2, 3, 1, 0, 4] rfl) hf

theorem v_X3_routeFor_l7 {p : Program} {l : Launch} {e : Env} {R : Room} {s : State} {m : MethodId} {args : Array Value} {below : List Frame} {meth : Method} {c : Code} {E : wd_E} {w0 : Wd} {r' : Int32} {w' : Wd} (n : Nat) (C : wd_X p s m args meth c cX3_routeFor RX3 5 (some .int) "routeFor" E) (hR : 1 ≤ R.frames ∧ 22 ≤ R.locals) : ∀ (k : Nat) (x0 : Nat) (x1 : Int32) (x2 : Int32) (x3 : Int32) (x4 : Int32) (w : Wd) (H : Heap) (locs : List Loc) (cells slots : Nat) (ls : Array Slot), wd_Z E w0 R s w H locs cells slots [(some x0, 4)] → lv_has ls 5 [(0, .ref x0), (1, .int x1), (2, .int x2), (3, .int x3), (4, .int x4)] → wd_lp6 (f_X3_routeFor_l7 n) k x0 x1 x2 x3 x4 w = some (r', w') → W p l e R s m args below meth c H locs cells slots (wd_fin E w0 (some (.int r')) w' True R args s below) (F0 m 7 ls []) := by
  intro k
  induction k with
  | zero => intro _ _ _ _ _ _ _ _ _ _ _ _ _ hf; cases hf
  | succ k ih =>
    intro x0 x1 x2 x3 x4 w H locs cells slots ls hZ hl hf
    exact v_X3_routeFor_b7 n C hR (wd_lp6 (f_X3_routeFor_l7 n) k) ih x0 x1 x2 x3 x4 w H locs cells slots ls hZ hl hf

set_option maxHeartbeats 4000000 in
set_option maxRecDepth 100000 in
theorem c_X3_routeFor (l : Launch) (E : wd_E) (n : Nat) (w : Wd) (this : Nat) (p0 : Int32) (r' : Int32) (w' : Wd) (k_this : wd_K w this = 4) (hf : f_X3_routeFor n w this p0 = some (r', w')) : wd_C l E yX3_routeFor cX3_routeFor 5 (some .int) 1 22 [.ref this, .int p0] w (some (.int r')) w' True := by
  refine wd_ofW (own := RX3) (nm := "routeFor") (ks := [(some this, 4)]) (lv := [(0, .ref this), (1, .int p0)]) (by decide) rfl rfl (Nat.le_of_ble_eq_true rfl) rfl (List.forall_mem_cons.mpr ⟨⟨by decide, fun q hq => by cases hq; exact k_this⟩, (fun _ hq => absurd hq List.not_mem_nil)⟩) ?_
  intro p e s m args below meth c R H ls C hR hZ hl
  obtain ⟨hx, hb, hr, hml, hts, hown, hlocks, hmn, hK⟩ := id C
  unfold f_X3_routeFor at hf
  refine lv_iconst (v := -1) hx hb dX3_routeFor_0 (by decide) ?_
  refine lv_istore_n (lv' := [(2, .int (-1 : Int32)), (0, .ref this), (1, .int p0)]) hx hb dX3_routeFor_1 rfl hl (by decide) rfl (fun ls hl => ?_)
  refine lv_iconst (v := -1) hx hb dX3_routeFor_2 (by decide) ?_
  refine lv_istore_n (lv' := [(3, .int (-1 : Int32)), (2, .int (-1 : Int32)), (0, .ref this), (1, .int p0)]) hx hb dX3_routeFor_3 rfl hl (by decide) rfl (fun ls hl => ?_)
  refine lv_iconst (v := 0) hx hb dX3_routeFor_4 (by decide) ?_
  refine lv_istore (lv' := [(4, .int (0 : Int32)), (3, .int (-1 : Int32)), (2, .int (-1 : Int32)), (0, .ref this), (1, .int p0)]) hx hb dX3_routeFor_5 hl (by decide) rfl (fun ls hl => ?_)
  exact v_X3_routeFor_l7 n C hR n this p0 (-1 : Int32) (-1 : Int32) (0 : Int32) w _ _ _ _ _ ⟨hZ.1, hZ.2.1, hZ.2.2.1, hZ.2.2.2.1, (List.forall_mem_cons.mpr ⟨⟨by decide, (fun q hq => by cases hq; exact (hZ.k 0 rfl rfl))⟩, (fun _ hq => absurd hq List.not_mem_nil)⟩), hZ.2.2.2.2.2⟩ (lv_sub hl [3, 4, 2, 1, 0] rfl) hf

def f_X3_layWay (n : Nat) (w : Wd) (this : Nat) (p0 : Int32) (p1 : Int32) (p2 : Int32) (p3 : Int32) : Option Wd :=
  Option.bind (wd_R w 310 this) fun a1 =>
  wd_gd (p0 < 0 ∨ wd_N w a1 ≤ p0.toNatClampNeg) <|
  wd_let (wd_sA w a1 p0.toNatClampNeg p1) fun w3 =>
  Option.bind (wd_R w3 311 this) fun a5 =>
  wd_gd (p0 < 0 ∨ wd_N w3 a5 ≤ p0.toNatClampNeg) <|
  wd_let (wd_sA w3 a5 p0.toNatClampNeg p2) fun w7 =>
  Option.bind (wd_R w7 312 this) fun a9 =>
  wd_gd (p0 < 0 ∨ wd_N w7 a9 ≤ p0.toNatClampNeg) <|
  wd_let (wd_sA w7 a9 p0.toNatClampNeg p3) fun w11 =>
  some w11
set_option maxHeartbeats 4000000 in
set_option maxRecDepth 100000 in
theorem c_X3_layWay (l : Launch) (E : wd_E) (n : Nat) (w : Wd) (this : Nat) (p0 : Int32) (p1 : Int32) (p2 : Int32) (p3 : Int32) (w' : Wd) (k_this : wd_K w this = 4) (hf : f_X3_layWay n w this p0 p1 p2 p3 = some w') : wd_C l E yX3_layWay cX3_layWay 5 none 0 0 [.ref this, .int p0, .int p1, .int p2, .int p3] w none w' True := by
  refine wd_ofW (own := RX3) (nm := "layWay") (ks := [(some this, 4)]) (lv := [(0, .ref this), (1, .int p0), (2, .int p1), (3, .int p2), (4, .int p3)]) (by decide) rfl rfl (Nat.le_of_ble_eq_true rfl) rfl (List.forall_mem_cons.mpr ⟨⟨by decide, fun q hq => by cases hq; exact k_this⟩, (fun _ hq => absurd hq List.not_mem_nil)⟩) ?_
  intro p e s m args below meth c R H ls C hR hZ hl
  obtain ⟨hx, hb, hr, hml, hts, hown, hlocks, hmn, hK⟩ := id C
  unfold f_X3_layWay at hf
  refine lv_aload_n hx hb dX3_layWay_0 rfl (lv_at hl 0 rfl) ?_
  refine z_getR (tk := 20) fd_310 rfl hx hb hts hown hK hZ (hZ.k 0 rfl rfl) tw_87 dX3_layWay_1 (fun hZ => ?_)
  refine lv_iload_n hx hb dX3_layWay_4 rfl (lv_at hl 1 rfl) ?_
  refine lv_iload_n hx hb dX3_layWay_5 rfl (lv_at hl 2 rfl) ?_
  obtain ⟨a1, ha1, hf⟩ := Option.bind_eq_some_iff.mp hf
  have hZ := hZ.add (r := some a1) (k := 21) (by decide) (fun q hq => by cases hq; exact hZ.k 0 rfl ha1)
  rw [ha1]
  obtain ⟨h2, hf⟩ := wd_gd_e hf
  refine z_iast hx hb hK hZ (hZ.k 0 rfl rfl) h2 dX3_layWay_6 (fun H locs hZ => ?_)
  obtain ⟨w3, e4, hf⟩ := wd_let_e hf
  rw [e4] at hZ
  refine lv_aload_n hx hb dX3_layWay_7 rfl (lv_at hl 0 rfl) ?_
  refine z_getR (tk := 20) fd_311 rfl hx hb hts hown hK hZ (hZ.k 2 rfl rfl) tw_88 dX3_layWay_8 (fun hZ => ?_)
  refine lv_iload_n hx hb dX3_layWay_11 rfl (lv_at hl 1 rfl) ?_
  refine lv_iload_n hx hb dX3_layWay_12 rfl (lv_at hl 3 rfl) ?_
  obtain ⟨a5, ha5, hf⟩ := Option.bind_eq_some_iff.mp hf
  have hZ := hZ.add (r := some a5) (k := 21) (by decide) (fun q hq => by cases hq; exact hZ.k 0 rfl ha5)
  rw [ha5]
  obtain ⟨h6, hf⟩ := wd_gd_e hf
  refine z_iast hx hb hK hZ (hZ.k 0 rfl rfl) h6 dX3_layWay_13 (fun H locs hZ => ?_)
  obtain ⟨w7, e8, hf⟩ := wd_let_e hf
  rw [e8] at hZ
  refine lv_aload_n hx hb dX3_layWay_14 rfl (lv_at hl 0 rfl) ?_
  refine z_getR (tk := 20) fd_312 rfl hx hb hts hown hK hZ (hZ.k 4 rfl rfl) tw_89 dX3_layWay_15 (fun hZ => ?_)
  refine lv_iload_n hx hb dX3_layWay_18 rfl (lv_at hl 1 rfl) ?_
  refine lv_iload hx hb dX3_layWay_19 (lv_at hl 4 rfl) ?_
  obtain ⟨a9, ha9, hf⟩ := Option.bind_eq_some_iff.mp hf
  have hZ := hZ.add (r := some a9) (k := 21) (by decide) (fun q hq => by cases hq; exact hZ.k 0 rfl ha9)
  rw [ha9]
  obtain ⟨h10, hf⟩ := wd_gd_e hf
  refine z_iast hx hb hK hZ (hZ.k 0 rfl rfl) h10 dX3_layWay_21 (fun H locs hZ => ?_)
  obtain ⟨w11, e12, hf⟩ := wd_let_e hf
  rw [e12] at hZ
  obtain rfl := Option.some.inj hf
  exact z_vret hx hb hr hlocks hZ trivial dX3_layWay_22

def f_X3_layByRoute (n : Nat) (w : Wd) (this : Nat) (p0 : Int32) (p1 : Int32) : Option Wd :=
  Option.bind (wd_R w 306 this) fun a1 =>
  wd_gd (p1 < 0 ∨ wd_N w a1 ≤ p1.toNatClampNeg) <|
  wd_let (wd_A w a1 p1.toNatClampNeg) fun v3 =>
  if 0 ≤ v3 then
    wd_b2 (f_X3_portWithNetOf n w this v3) fun r8 w6 =>
    if 0 ≤ r8 then
      Option.bind (wd_R w6 305 this) fun a10 =>
      wd_gd (p1 < 0 ∨ wd_N w6 a10 ≤ p1.toNatClampNeg) <|
      Option.bind (f_X3_layWay n w6 this p0 r8 v3 (wd_A w6 a10 p1.toNatClampNeg)) fun w12 =>
      some w12
    else
      Option.bind (f_X3_layWay n w6 this p0 (-1 : Int32) (-1 : Int32) (-1 : Int32)) fun w14 =>
      some w14
  else
    Option.bind (wd_R w 305 this) fun a16 =>
    wd_gd (p1 < 0 ∨ wd_N w a16 ≤ p1.toNatClampNeg) <|
    Option.bind (f_X3_layWay n w this p0 (-2 : Int32) ((-1 : Int32) - v3) (wd_A w a16 p1.toNatClampNeg)) fun w18 =>
    some w18
set_option maxHeartbeats 4000000 in
set_option maxRecDepth 100000 in
theorem c_X3_layByRoute (l : Launch) (E : wd_E) (n : Nat) (w : Wd) (this : Nat) (p0 : Int32) (p1 : Int32) (w' : Wd) (k_this : wd_K w this = 4) (hf : f_X3_layByRoute n w this p0 p1 = some w') : wd_C l E yX3_layByRoute cX3_layByRoute 5 none 2 47 [.ref this, .int p0, .int p1] w none w' True := by
  refine wd_ofW (own := RX3) (nm := "layByRoute") (ks := [(some this, 4)]) (lv := [(0, .ref this), (1, .int p0), (2, .int p1)]) (by decide) rfl rfl (Nat.le_of_ble_eq_true rfl) rfl (List.forall_mem_cons.mpr ⟨⟨by decide, fun q hq => by cases hq; exact k_this⟩, (fun _ hq => absurd hq List.not_mem_nil)⟩) ?_
  intro p e s m args below meth c R H ls C hR hZ hl
  obtain ⟨hx, hb, hr, hml, hts, hown, hlocks, hmn, hK⟩ := id C
  unfold f_X3_layByRoute at hf
  refine lv_aload_n hx hb dX3_layByRoute_0 rfl (lv_at hl 0 rfl) ?_
  refine z_getR (tk := 20) fd_306 rfl hx hb hts hown hK hZ (hZ.k 0 rfl rfl) tw_83 dX3_layByRoute_1 (fun hZ => ?_)
  refine lv_iload_n hx hb dX3_layByRoute_4 rfl (lv_at hl 2 rfl) ?_
  obtain ⟨a1, ha1, hf⟩ := Option.bind_eq_some_iff.mp hf
  have hZ := hZ.add (r := some a1) (k := 21) (by decide) (fun q hq => by cases hq; exact hZ.k 0 rfl ha1)
  rw [ha1]
  obtain ⟨h2, hf⟩ := wd_gd_e hf
  refine z_iald hx hb hK hZ (hZ.k 0 rfl rfl) h2 dX3_layByRoute_5 ?_
  obtain ⟨v3, e4, hf⟩ := wd_let_e hf
  rw [e4]
  refine lv_istore_n (lv' := [(3, .int v3), (0, .ref this), (1, .int p0), (2, .int p1)]) hx hb dX3_layByRoute_6 rfl hl (by decide) rfl (fun ls hl => ?_)
  refine lv_iload_n hx hb dX3_layByRoute_7 rfl (lv_at hl 0 rfl) ?_
  refine lv_if_ge (tgt := 28) hx hb dX3_layByRoute_8 (by decide) (fun h5 => ?_) (fun h5 => ?_)
  · have hf := wd_ite_p h5 hf
    refine lv_aload_n hx hb dX3_layByRoute_28 rfl (lv_at hl 1 rfl) ?_
    refine lv_iload_n hx hb dX3_layByRoute_29 rfl (lv_at hl 0 rfl) ?_
    obtain ⟨r8, w6, hc7, hf⟩ := wd_b2_e hf
    refine z_callV (ci := 3) (As := [.int v3]) (rest := []) (c_X3_portWithNetOf l E n w this v3 r8 w6 (hZ.k 2 rfl rfl) hc7) mo_X3_portWithNetOf rfl (by decide) rfl tw_587 tw_6 tw_585 hx hb hml hts hown hK ⟨Nat.le_trans (by decide) hR.1, Nat.le_trans (by decide) hR.2⟩ hZ (hZ.k 2 rfl rfl) rfl hl.1 rfl (Nat.le_of_ble_eq_true rfl) rfl dX3_layByRoute_30 (fun H locs cells slots hX hZ => ?_)
    refine lv_istore (lv' := [(4, .int r8), (3, .int v3), (0, .ref this), (1, .int p0), (2, .int p1)]) hx hb dX3_layByRoute_33 hl (by decide) rfl (fun ls hl => ?_)
    refine lv_iload hx hb dX3_layByRoute_35 (lv_at hl 0 rfl) ?_
    refine lv_if_ge (tgt := 51) hx hb dX3_layByRoute_37 (by decide) (fun h9 => ?_) (fun h9 => ?_)
    · have hf := wd_ite_p h9 hf
      refine lv_aload_n hx hb dX3_layByRoute_51 rfl (lv_at hl 2 rfl) ?_
      refine lv_iload_n hx hb dX3_layByRoute_52 rfl (lv_at hl 3 rfl) ?_
      refine lv_iload hx hb dX3_layByRoute_53 (lv_at hl 0 rfl) ?_
      refine lv_iload_n hx hb dX3_layByRoute_55 rfl (lv_at hl 1 rfl) ?_
      refine lv_aload_n hx hb dX3_layByRoute_56 rfl (lv_at hl 2 rfl) ?_
      refine z_getR (tk := 20) fd_305 rfl hx hb hts hown hK hZ (hZ.k 2 rfl rfl) tw_82 dX3_layByRoute_57 (fun hZ => ?_)
      refine lv_iload_n hx hb dX3_layByRoute_60 rfl (lv_at hl 4 rfl) ?_
      obtain ⟨a10, ha10, hf⟩ := Option.bind_eq_some_iff.mp hf
      have hZ := hZ.add (r := some a10) (k := 21) (by decide) (fun q hq => by cases hq; exact hZ.k 0 rfl ha10)
      rw [ha10]
      obtain ⟨h11, hf⟩ := wd_gd_e hf
      refine z_iald hx hb hK hZ (hZ.k 0 rfl rfl) h11 dX3_layByRoute_61 ?_
      obtain ⟨w12, hc13, hf⟩ := Option.bind_eq_some_iff.mp hf
      refine z_callV (ci := 3) (As := [.int p0, .int r8, .int v3, .int (wd_A w6 a10 p1.toNatClampNeg)]) (rest := []) (c_X3_layWay l E n w6 this p0 r8 v3 (wd_A w6 a10 p1.toNatClampNeg) w12 (hZ.k 4 rfl rfl) hc13) mo_X3_layWay rfl (by decide) rfl tw_603 tw_9 tw_601 hx hb hml hts hown hK ⟨Nat.le_trans (by decide) hR.1, Nat.le_trans (by decide) hR.2⟩ hZ (hZ.k 4 rfl rfl) rfl hl.1 rfl (Nat.le_of_ble_eq_true rfl) rfl dX3_layByRoute_62 (fun H locs cells slots hX hZ => ?_)
      obtain rfl := Option.some.inj hf
      exact z_vret hx hb hr hlocks hZ trivial dX3_layByRoute_65
    · have hf := wd_ite_n h9 hf
      refine lv_aload_n hx hb dX3_layByRoute_40 rfl (lv_at hl 2 rfl) ?_
      refine lv_iload_n hx hb dX3_layByRoute_41 rfl (lv_at hl 3 rfl) ?_
      refine lv_iconst (v := -1) hx hb dX3_layByRoute_42 (by decide) ?_
      refine lv_iconst (v := -1) hx hb dX3_layByRoute_43 (by decide) ?_
      refine lv_iconst (v := -1) hx hb dX3_layByRoute_44 (by decide) ?_
      obtain ⟨w14, hc15, hf⟩ := Option.bind_eq_some_iff.mp hf
      refine z_callV (ci := 3) (As := [.int p0, .int (-1 : Int32), .int (-1 : Int32), .int (-1 : Int32)]) (rest := []) (c_X3_layWay l E n w6 this p0 (-1 : Int32) (-1 : Int32) (-1 : Int32) w14 (hZ.k 2 rfl rfl) hc15) mo_X3_layWay rfl (by decide) rfl tw_603 tw_9 tw_601 hx hb hml hts hown hK ⟨Nat.le_trans (by decide) hR.1, Nat.le_trans (by decide) hR.2⟩ hZ (hZ.k 2 rfl rfl) rfl hl.1 rfl (Nat.le_of_ble_eq_true rfl) rfl dX3_layByRoute_45 (fun H locs cells slots hX hZ => ?_)
      refine lv_goto (tgt := 65) hx hb dX3_layByRoute_48 (by decide) ?_
      obtain rfl := Option.some.inj hf
      exact z_vret hx hb hr hlocks hZ trivial dX3_layByRoute_65
  · have hf := wd_ite_n h5 hf
    refine lv_aload_n hx hb dX3_layByRoute_11 rfl (lv_at hl 1 rfl) ?_
    refine lv_iload_n hx hb dX3_layByRoute_12 rfl (lv_at hl 2 rfl) ?_
    refine lv_bipush (v := -2) hx hb dX3_layByRoute_13 (by decide) ?_
    refine lv_iconst (v := -1) hx hb dX3_layByRoute_15 (by decide) ?_
    refine lv_iload_n hx hb dX3_layByRoute_16 rfl (lv_at hl 0 rfl) ?_
    refine lv_isub hx hb dX3_layByRoute_17 ?_
    refine lv_aload_n hx hb dX3_layByRoute_18 rfl (lv_at hl 1 rfl) ?_
    refine z_getR (tk := 20) fd_305 rfl hx hb hts hown hK hZ (hZ.k 2 rfl rfl) tw_82 dX3_layByRoute_19 (fun hZ => ?_)
    refine lv_iload_n hx hb dX3_layByRoute_22 rfl (lv_at hl 3 rfl) ?_
    obtain ⟨a16, ha16, hf⟩ := Option.bind_eq_some_iff.mp hf
    have hZ := hZ.add (r := some a16) (k := 21) (by decide) (fun q hq => by cases hq; exact hZ.k 0 rfl ha16)
    rw [ha16]
    obtain ⟨h17, hf⟩ := wd_gd_e hf
    refine z_iald hx hb hK hZ (hZ.k 0 rfl rfl) h17 dX3_layByRoute_23 ?_
    obtain ⟨w18, hc19, hf⟩ := Option.bind_eq_some_iff.mp hf
    refine z_callV (ci := 3) (As := [.int p0, .int (-2 : Int32), .int ((-1 : Int32) - v3), .int (wd_A w a16 p1.toNatClampNeg)]) (rest := []) (c_X3_layWay l E n w this p0 (-2 : Int32) ((-1 : Int32) - v3) (wd_A w a16 p1.toNatClampNeg) w18 (hZ.k 4 rfl rfl) hc19) mo_X3_layWay rfl (by decide) rfl tw_603 tw_9 tw_601 hx hb hml hts hown hK ⟨Nat.le_trans (by decide) hR.1, Nat.le_trans (by decide) hR.2⟩ hZ (hZ.k 4 rfl rfl) rfl hl.1 rfl (Nat.le_of_ble_eq_true rfl) rfl dX3_layByRoute_24 (fun H locs cells slots hX hZ => ?_)
    obtain rfl := Option.some.inj hf
    exact z_vret hx hb hr hlocks hZ trivial dX3_layByRoute_27

def f_X3_layWays_j86 (n : Nat) (rec2 : Nat → Int32 → Wd → Option Wd) (x0 : Nat) (x1 : Int32) (w : Wd) : Option Wd :=
  wd_let (x1 + 1) fun v16 =>
  rec2 x0 v16 w
def f_X3_layWays_j81 (n : Nat) (rec2 : Nat → Int32 → Wd → Option Wd) (y0 : Int32) (y1 : Int32) (y2 : Int32) (y3 : Nat) (x0 : Nat) (x1 : Int32) (x4 : Int32) (w : Wd) : Option Wd :=
  Option.bind (f_X3_layWay n w y3 y2 y1 y0 x4) fun w14 =>
  f_X3_layWays_j86 n rec2 x0 x1 w14
def f_X3_layWays_j69 (n : Nat) (rec2 : Nat → Int32 → Wd → Option Wd) (x0 : Nat) (x1 : Int32) (x2 : Int32) (x3 : Option Nat) (x4 : Int32) (w : Wd) : Option Wd :=
  wd_on x3 (
    f_X3_layWays_j81 n rec2 (-1 : Int32) x2 x1 x0 x0 x1 x4 w)
    (fun a13 =>
    f_X3_layWays_j81 n rec2 x1 x2 x1 x0 x0 x1 x4 w)
def f_X3_layWays_j33 (n : Nat) (rec2 : Nat → Int32 → Wd → Option Wd) (y0 : Int32) (x0 : Nat) (x1 : Int32) (x2 : Int32) (x3 : Option Nat) (w : Wd) : Option Wd :=
  wd_b2 (f_X3_routeFor n w x0 x1) fun r11 w9 =>
  if r11 < 0 then
    f_X3_layWays_j69 n rec2 x0 x1 x2 x3 y0 w9
  else
    Option.bind (wd_R w9 305 x0) fun a18 =>
    wd_gd (r11 < 0 ∨ wd_N w9 a18 ≤ r11.toNatClampNeg) <|
    if (wd_A w9 a18 r11.toNatClampNeg) ≤ y0 then
      f_X3_layWays_j69 n rec2 x0 x1 x2 x3 y0 w9
    else
      Option.bind (f_X3_layByRoute n w9 x0 x1 r11) fun w21 =>
      f_X3_layWays_j86 n rec2 x0 x1 w21
def f_X3_layWays_l2 (n : Nat) (rec2 : Nat → Int32 → Wd → Option Wd) (x0 : Nat) (x1 : Int32) (w : Wd) : Option Wd :=
  if (256 : Int32) ≤ x1 then
    some w
  else
    wd_b2 (f_X3_portWithNetOf n w x0 x1) fun r4 w2 =>
    wd_b2 (f_X3_port n w2 x0 r4) fun r7 w5 =>
    wd_on r7 (
      f_X3_layWays_j33 n rec2 (-1 : Int32) x0 x1 r4 none w5)
      (fun a8 =>
      f_X3_layWays_j33 n rec2 (wd_I w5 703 a8) x0 x1 r4 (some a8) w5)
def f_X3_layWays (n : Nat) (w : Wd) (this : Nat) : Option Wd :=
  wd_lp3 (f_X3_layWays_l2 n) n this (0 : Int32) w
set_option maxHeartbeats 4000000 in
set_option maxRecDepth 100000 in
theorem v_X3_layWays_j86 {p : Program} {l : Launch} {e : Env} {R : Room} {s : State} {m : MethodId} {args : Array Value} {below : List Frame} {meth : Method} {c : Code} {E : wd_E} {w0 : Wd} {w' : Wd} (n : Nat) (C : wd_X p s m args meth c cX3_layWays RX3 6 none "layWays" E) (hR : 3 ≤ R.frames ∧ 71 ≤ R.locals) (rec2 : Nat → Int32 → Wd → Option Wd) (hrec2 : ∀ (x0_ : Nat) (x1_ : Int32) (w_ : Wd) (H : Heap) (locs : List Loc) (cells slots : Nat) (ls : Array Slot), wd_Z E w0 R s w_ H locs cells slots [(some x0_, 4)] → lv_has ls 6 [(0, .ref x0_), (1, .int x1_)] → rec2 x0_ x1_ w_ = some w' → W p l e R s m args below meth c H locs cells slots (wd_fin E w0 none w' True R args s below) (F0 m 2 ls [])) (x0 : Nat) (x1 : Int32) (w : Wd) (H : Heap) (locs : List Loc) (cells slots : Nat) (ls : Array Slot) (hZ : wd_Z E w0 R s w H locs cells slots [(some x0, 4)]) (hl : lv_has ls 6 [(0, .ref x0), (1, .int x1)]) (hf : f_X3_layWays_j86 n rec2 x0 x1 w = some w') : W p l e R s m args below meth c H locs cells slots (wd_fin E w0 none w' True R args s below) (F0 m 86 ls []) := by
  obtain ⟨hx, hb, hr, hml, hts, hown, hlocks, hmn, hK⟩ := id C
  unfold f_X3_layWays_j86 at hf
  obtain ⟨v16, e17, hf⟩ := wd_let_e hf
  refine lv_iinc (k := 1) (v := v16) (lv' := [(1, .int v16), (0, .ref x0)]) hx hb dX3_layWays_86 hl rfl (by rw [← e17]; rfl) (by decide) rfl (fun ls hl => ?_)
  refine lv_goto (tgt := 2) hx hb dX3_layWays_89 (by decide) ?_
  exact hrec2 x0 v16 w _ _ _ _ _ ⟨hZ.1, hZ.2.1, hZ.2.2.1, hZ.2.2.2.1, (List.forall_mem_cons.mpr ⟨⟨by decide, (fun q hq => by cases hq; exact (hZ.k 0 rfl rfl))⟩, (fun _ hq => absurd hq List.not_mem_nil)⟩), hZ.2.2.2.2.2⟩ (lv_sub hl [1, 0] rfl) hf

set_option maxHeartbeats 4000000 in
set_option maxRecDepth 100000 in
theorem v_X3_layWays_j81 {p : Program} {l : Launch} {e : Env} {R : Room} {s : State} {m : MethodId} {args : Array Value} {below : List Frame} {meth : Method} {c : Code} {E : wd_E} {w0 : Wd} {w' : Wd} (n : Nat) (C : wd_X p s m args meth c cX3_layWays RX3 6 none "layWays" E) (hR : 3 ≤ R.frames ∧ 71 ≤ R.locals) (rec2 : Nat → Int32 → Wd → Option Wd) (hrec2 : ∀ (x0_ : Nat) (x1_ : Int32) (w_ : Wd) (H : Heap) (locs : List Loc) (cells slots : Nat) (ls : Array Slot), wd_Z E w0 R s w_ H locs cells slots [(some x0_, 4)] → lv_has ls 6 [(0, .ref x0_), (1, .int x1_)] → rec2 x0_ x1_ w_ = some w' → W p l e R s m args below meth c H locs cells slots (wd_fin E w0 none w' True R args s below) (F0 m 2 ls [])) (y0 : Int32) (y1 : Int32) (y2 : Int32) (y3 : Nat) (x0 : Nat) (x1 : Int32) (x4 : Int32) (w : Wd) (H : Heap) (locs : List Loc) (cells slots : Nat) (ls : Array Slot) (hZ : wd_Z E w0 R s w H locs cells slots [(some y3, 4), (some x0, 4)]) (hl : lv_has ls 6 [(0, .ref x0), (1, .int x1), (4, .int x4)]) (hf : f_X3_layWays_j81 n rec2 y0 y1 y2 y3 x0 x1 x4 w = some w') : W p l e R s m args below meth c H locs cells slots (wd_fin E w0 none w' True R args s below) (F0 m 81 ls [.int y0, .int y1, .int y2, .ref y3]) := by
  obtain ⟨hx, hb, hr, hml, hts, hown, hlocks, hmn, hK⟩ := id C
  unfold f_X3_layWays_j81 at hf
  refine lv_iload hx hb dX3_layWays_81 (lv_at hl 2 rfl) ?_
  obtain ⟨w14, hc15, hf⟩ := Option.bind_eq_some_iff.mp hf
  refine z_callV (ci := 3) (As := [.int y2, .int y1, .int y0, .int x4]) (rest := []) (c_X3_layWay l E n w y3 y2 y1 y0 x4 w14 (hZ.k 0 rfl rfl) hc15) mo_X3_layWay rfl (by decide) rfl tw_603 tw_9 tw_601 hx hb hml hts hown hK ⟨Nat.le_trans (by decide) hR.1, Nat.le_trans (by decide) hR.2⟩ hZ (hZ.k 0 rfl rfl) rfl hl.1 rfl (Nat.le_of_ble_eq_true rfl) rfl dX3_layWays_83 (fun H locs cells slots hX hZ => ?_)
  exact v_X3_layWays_j86 n C hR rec2 hrec2 x0 x1 w14 _ _ _ _ _ ⟨hZ.1, hZ.2.1, hZ.2.2.1, hZ.2.2.2.1, (List.forall_mem_cons.mpr ⟨⟨by decide, (fun q hq => by cases hq; exact (hZ.k 1 rfl rfl))⟩, (fun _ hq => absurd hq List.not_mem_nil)⟩), hZ.2.2.2.2.2⟩ (lv_sub hl [0, 1] rfl) hf

set_option maxHeartbeats 4000000 in
set_option maxRecDepth 100000 in
theorem v_X3_layWays_j69 {p : Program} {l : Launch} {e : Env} {R : Room} {s : State} {m : MethodId} {args : Array Value} {below : List Frame} {meth : Method} {c : Code} {E : wd_E} {w0 : Wd} {w' : Wd} (n : Nat) (C : wd_X p s m args meth c cX3_layWays RX3 6 none "layWays" E) (hR : 3 ≤ R.frames ∧ 71 ≤ R.locals) (rec2 : Nat → Int32 → Wd → Option Wd) (hrec2 : ∀ (x0_ : Nat) (x1_ : Int32) (w_ : Wd) (H : Heap) (locs : List Loc) (cells slots : Nat) (ls : Array Slot), wd_Z E w0 R s w_ H locs cells slots [(some x0_, 4)] → lv_has ls 6 [(0, .ref x0_), (1, .int x1_)] → rec2 x0_ x1_ w_ = some w' → W p l e R s m args below meth c H locs cells slots (wd_fin E w0 none w' True R args s below) (F0 m 2 ls [])) (x0 : Nat) (x1 : Int32) (x2 : Int32) (x3 : Option Nat) (x4 : Int32) (w : Wd) (H : Heap) (locs : List Loc) (cells slots : Nat) (ls : Array Slot) (hZ : wd_Z E w0 R s w H locs cells slots [(some x0, 4), (x3, 8)]) (hl : lv_has ls 6 [(0, .ref x0), (1, .int x1), (2, .int x2), (3, va_rf x3), (4, .int x4)]) (hf : f_X3_layWays_j69 n rec2 x0 x1 x2 x3 x4 w = some w') : W p l e R s m args below meth c H locs cells slots (wd_fin E w0 none w' True R args s below) (F0 m 69 ls []) := by
  obtain ⟨hx, hb, hr, hml, hts, hown, hlocks, hmn, hK⟩ := id C
  unfold f_X3_layWays_j69 at hf
  refine lv_aload_n hx hb dX3_layWays_69 rfl (lv_at hl 0 rfl) ?_
  refine lv_iload_n hx hb dX3_layWays_70 rfl (lv_at hl 1 rfl) ?_
  refine lv_iload_n hx hb dX3_layWays_71 rfl (lv_at hl 2 rfl) ?_
  refine z_aload_n hx hb dX3_layWays_72 rfl (lv_at hl 3 rfl) ?_
  refine z_ifnonnull (tgt := 80) hx hb dX3_layWays_73 (by decide) (fun a13 ha13 => ?_) (fun hn => ?_)
  · have hf := wd_on_s ha13 hf
    subst ha13
    have hl : lv_has ls 6 [(0, .ref x0), (1, .int x1), (2, .int x2), (3, .ref a13), (4, .int x4)] := hl
    have hZ : wd_Z E w0 R s w H locs cells slots [(some x0, 4), (some a13, 8)] := hZ
    refine lv_iload_n hx hb dX3_layWays_80 rfl (lv_at hl 1 rfl) ?_
    exact v_X3_layWays_j81 n C hR rec2 hrec2 x1 x2 x1 x0 x0 x1 x4 w _ _ _ _ _ ⟨hZ.1, hZ.2.1, hZ.2.2.1, hZ.2.2.2.1, (List.forall_mem_cons.mpr ⟨⟨by decide, (fun q hq => by cases hq; exact (hZ.k 0 rfl rfl))⟩, (List.forall_mem_cons.mpr ⟨⟨by decide, (fun q hq => by cases hq; exact (hZ.k 0 rfl rfl))⟩, (fun _ hq => absurd hq List.not_mem_nil)⟩)⟩), hZ.2.2.2.2.2⟩ (lv_sub hl [0, 1, 4] rfl) hf
  · have hf := wd_on_n hn hf
    subst hn
    have hl : lv_has ls 6 [(0, .ref x0), (1, .int x1), (2, .int x2), (3, va_rf none), (4, .int x4)] := hl
    have hZ : wd_Z E w0 R s w H locs cells slots [(some x0, 4), (none, 8)] := hZ
    refine lv_iconst (v := -1) hx hb dX3_layWays_76 (by decide) ?_
    refine lv_goto (tgt := 81) hx hb dX3_layWays_77 (by decide) ?_
    exact v_X3_layWays_j81 n C hR rec2 hrec2 (-1 : Int32) x2 x1 x0 x0 x1 x4 w _ _ _ _ _ ⟨hZ.1, hZ.2.1, hZ.2.2.1, hZ.2.2.2.1, (List.forall_mem_cons.mpr ⟨⟨by decide, (fun q hq => by cases hq; exact (hZ.k 0 rfl rfl))⟩, (List.forall_mem_cons.mpr ⟨⟨by decide, (fun q hq => by cases hq; exact (hZ.k 0 rfl rfl))⟩, (fun _ hq => absurd hq List.not_mem_nil)⟩)⟩), hZ.2.2.2.2.2⟩ (lv_sub hl [0, 1, 4] rfl) hf

set_option maxHeartbeats 4000000 in
set_option maxRecDepth 100000 in
theorem v_X3_layWays_j33 {p : Program} {l : Launch} {e : Env} {R : Room} {s : State} {m : MethodId} {args : Array Value} {below : List Frame} {meth : Method} {c : Code} {E : wd_E} {w0 : Wd} {w' : Wd} (n : Nat) (C : wd_X p s m args meth c cX3_layWays RX3 6 none "layWays" E) (hR : 3 ≤ R.frames ∧ 71 ≤ R.locals) (rec2 : Nat → Int32 → Wd → Option Wd) (hrec2 : ∀ (x0_ : Nat) (x1_ : Int32) (w_ : Wd) (H : Heap) (locs : List Loc) (cells slots : Nat) (ls : Array Slot), wd_Z E w0 R s w_ H locs cells slots [(some x0_, 4)] → lv_has ls 6 [(0, .ref x0_), (1, .int x1_)] → rec2 x0_ x1_ w_ = some w' → W p l e R s m args below meth c H locs cells slots (wd_fin E w0 none w' True R args s below) (F0 m 2 ls [])) (y0 : Int32) (x0 : Nat) (x1 : Int32) (x2 : Int32) (x3 : Option Nat) (w : Wd) (H : Heap) (locs : List Loc) (cells slots : Nat) (ls : Array Slot) (hZ : wd_Z E w0 R s w H locs cells slots [(some x0, 4), (x3, 8)]) (hl : lv_has ls 6 [(0, .ref x0), (1, .int x1), (2, .int x2), (3, va_rf x3)]) (hf : f_X3_layWays_j33 n rec2 y0 x0 x1 x2 x3 w = some w') : W p l e R s m args below meth c H locs cells slots (wd_fin E w0 none w' True R args s below) (F0 m 33 ls [.int y0]) := by
  obtain ⟨hx, hb, hr, hml, hts, hown, hlocks, hmn, hK⟩ := id C
  unfold f_X3_layWays_j33 at hf
  refine lv_istore (lv' := [(4, .int y0), (0, .ref x0), (1, .int x1), (2, .int x2), (3, va_rf x3)]) hx hb dX3_layWays_33 hl (by decide) (by simp [va_rf_cat, Value.category]) (fun ls hl => ?_)
  refine lv_aload_n hx hb dX3_layWays_35 rfl (lv_at hl 1 rfl) ?_
  refine lv_iload_n hx hb dX3_layWays_36 rfl (lv_at hl 2 rfl) ?_
  obtain ⟨r11, w9, hc10, hf⟩ := wd_b2_e hf
  refine z_callV (ci := 3) (As := [.int x1]) (rest := []) (c_X3_routeFor l E n w x0 x1 r11 w9 (hZ.k 0 rfl rfl) hc10) mo_X3_routeFor rfl (by decide) rfl tw_595 tw_7 tw_593 hx hb hml hts hown hK ⟨Nat.le_trans (by decide) hR.1, Nat.le_trans (by decide) hR.2⟩ hZ (hZ.k 0 rfl rfl) rfl hl.1 rfl (Nat.le_of_ble_eq_true rfl) rfl dX3_layWays_37 (fun H locs cells slots hX hZ => ?_)
  refine lv_istore (lv' := [(5, .int r11), (4, .int y0), (0, .ref x0), (1, .int x1), (2, .int x2), (3, va_rf x3)]) hx hb dX3_layWays_40 hl (by decide) rfl (fun ls hl => ?_)
  refine lv_iload hx hb dX3_layWays_42 (lv_at hl 0 rfl) ?_
  refine lv_if_lt (tgt := 69) hx hb dX3_layWays_44 (by decide) (fun h12 => ?_) (fun h12 => ?_)
  · have hf := wd_ite_p h12 hf
    exact v_X3_layWays_j69 n C hR rec2 hrec2 x0 x1 x2 x3 y0 w9 _ _ _ _ _ ⟨hZ.1, hZ.2.1, hZ.2.2.1, hZ.2.2.2.1, (List.forall_mem_cons.mpr ⟨⟨by decide, (fun q hq => by cases hq; exact (hZ.k 0 rfl rfl))⟩, (List.forall_mem_cons.mpr ⟨⟨by decide, (fun q hq => hZ.k 1 rfl hq)⟩, (fun _ hq => absurd hq List.not_mem_nil)⟩)⟩), hZ.2.2.2.2.2⟩ (lv_sub hl [2, 3, 4, 5, 1] rfl) hf
  · have hf := wd_ite_n h12 hf
    refine lv_aload_n hx hb dX3_layWays_47 rfl (lv_at hl 2 rfl) ?_
    refine z_getR (tk := 20) fd_305 rfl hx hb hts hown hK hZ (hZ.k 0 rfl rfl) tw_82 dX3_layWays_48 (fun hZ => ?_)
    refine lv_iload hx hb dX3_layWays_51 (lv_at hl 0 rfl) ?_
    obtain ⟨a18, ha18, hf⟩ := Option.bind_eq_some_iff.mp hf
    have hZ := hZ.add (r := some a18) (k := 21) (by decide) (fun q hq => by cases hq; exact hZ.k 0 rfl ha18)
    rw [ha18]
    obtain ⟨h19, hf⟩ := wd_gd_e hf
    refine z_iald hx hb hK hZ (hZ.k 0 rfl rfl) h19 dX3_layWays_53 ?_
    refine lv_iload hx hb dX3_layWays_54 (lv_at hl 1 rfl) ?_
    refine lv_icmp_le (tgt := 69) hx hb dX3_layWays_56 (by decide) (fun h20 => ?_) (fun h20 => ?_)
    · have hf := wd_ite_p h20 hf
      exact v_X3_layWays_j69 n C hR rec2 hrec2 x0 x1 x2 x3 y0 w9 _ _ _ _ _ ⟨hZ.1, hZ.2.1, hZ.2.2.1, hZ.2.2.2.1, (List.forall_mem_cons.mpr ⟨⟨by decide, (fun q hq => by cases hq; exact (hZ.k 2 rfl rfl))⟩, (List.forall_mem_cons.mpr ⟨⟨by decide, (fun q hq => hZ.k 3 rfl hq)⟩, (fun _ hq => absurd hq List.not_mem_nil)⟩)⟩), hZ.2.2.2.2.2⟩ (lv_sub hl [2, 3, 4, 5, 1] rfl) hf
    · have hf := wd_ite_n h20 hf
      refine lv_aload_n hx hb dX3_layWays_59 rfl (lv_at hl 2 rfl) ?_
      refine lv_iload_n hx hb dX3_layWays_60 rfl (lv_at hl 3 rfl) ?_
      refine lv_iload hx hb dX3_layWays_61 (lv_at hl 0 rfl) ?_
      obtain ⟨w21, hc22, hf⟩ := Option.bind_eq_some_iff.mp hf
      refine z_callV (ci := 3) (As := [.int x1, .int r11]) (rest := []) (c_X3_layByRoute l E n w9 x0 x1 r11 w21 (hZ.k 2 rfl rfl) hc22) mo_X3_layByRoute rfl (by decide) rfl tw_599 tw_8 tw_597 hx hb hml hts hown hK ⟨Nat.le_trans (by decide) hR.1, Nat.le_trans (by decide) hR.2⟩ hZ (hZ.k 2 rfl rfl) rfl hl.1 rfl (Nat.le_of_ble_eq_true rfl) rfl dX3_layWays_63 (fun H locs cells slots hX hZ => ?_)
      refine lv_goto (tgt := 86) hx hb dX3_layWays_66 (by decide) ?_
      exact v_X3_layWays_j86 n C hR rec2 hrec2 x0 x1 w21 _ _ _ _ _ ⟨hZ.1, hZ.2.1, hZ.2.2.1, hZ.2.2.2.1, (List.forall_mem_cons.mpr ⟨⟨by decide, (fun q hq => by cases hq; exact (hZ.k 2 rfl rfl))⟩, (fun _ hq => absurd hq List.not_mem_nil)⟩), hZ.2.2.2.2.2⟩ (lv_sub hl [2, 3] rfl) hf

set_option maxHeartbeats 4000000 in
set_option maxRecDepth 100000 in
theorem v_X3_layWays_b2 {p : Program} {l : Launch} {e : Env} {R : Room} {s : State} {m : MethodId} {args : Array Value} {below : List Frame} {meth : Method} {c : Code} {E : wd_E} {w0 : Wd} {w' : Wd} (n : Nat) (C : wd_X p s m args meth c cX3_layWays RX3 6 none "layWays" E) (hR : 3 ≤ R.frames ∧ 71 ≤ R.locals) (rec2 : Nat → Int32 → Wd → Option Wd) (hrec2 : ∀ (x0_ : Nat) (x1_ : Int32) (w_ : Wd) (H : Heap) (locs : List Loc) (cells slots : Nat) (ls : Array Slot), wd_Z E w0 R s w_ H locs cells slots [(some x0_, 4)] → lv_has ls 6 [(0, .ref x0_), (1, .int x1_)] → rec2 x0_ x1_ w_ = some w' → W p l e R s m args below meth c H locs cells slots (wd_fin E w0 none w' True R args s below) (F0 m 2 ls [])) (x0 : Nat) (x1 : Int32) (w : Wd) (H : Heap) (locs : List Loc) (cells slots : Nat) (ls : Array Slot) (hZ : wd_Z E w0 R s w H locs cells slots [(some x0, 4)]) (hl : lv_has ls 6 [(0, .ref x0), (1, .int x1)]) (hf : f_X3_layWays_l2 n rec2 x0 x1 w = some w') : W p l e R s m args below meth c H locs cells slots (wd_fin E w0 none w' True R args s below) (F0 m 2 ls []) := by
  obtain ⟨hx, hb, hr, hml, hts, hown, hlocks, hmn, hK⟩ := id C
  unfold f_X3_layWays_l2 at hf
  refine lv_iload_n hx hb dX3_layWays_2 rfl (lv_at hl 1 rfl) ?_
  refine lv_sipush (v := 256) hx hb dX3_layWays_3 (by decide) ?_
  refine lv_icmp_ge (tgt := 92) hx hb dX3_layWays_6 (by decide) (fun h1 => ?_) (fun h1 => ?_)
  · have hf := wd_ite_p h1 hf
    obtain rfl := Option.some.inj hf
    exact z_vret hx hb hr hlocks hZ trivial dX3_layWays_92
  · have hf := wd_ite_n h1 hf
    refine lv_aload_n hx hb dX3_layWays_9 rfl (lv_at hl 0 rfl) ?_
    refine lv_iload_n hx hb dX3_layWays_10 rfl (lv_at hl 1 rfl) ?_
    obtain ⟨r4, w2, hc3, hf⟩ := wd_b2_e hf
    refine z_callV (ci := 3) (As := [.int x1]) (rest := []) (c_X3_portWithNetOf l E n w x0 x1 r4 w2 (hZ.k 0 rfl rfl) hc3) mo_X3_portWithNetOf rfl (by decide) rfl tw_587 tw_6 tw_585 hx hb hml hts hown hK ⟨Nat.le_trans (by decide) hR.1, Nat.le_trans (by decide) hR.2⟩ hZ (hZ.k 0 rfl rfl) rfl hl.1 rfl (Nat.le_of_ble_eq_true rfl) rfl dX3_layWays_11 (fun H locs cells slots hX hZ => ?_)
    refine lv_istore_n (lv' := [(2, .int r4), (0, .ref x0), (1, .int x1)]) hx hb dX3_layWays_14 rfl hl (by decide) rfl (fun ls hl => ?_)
    refine lv_aload_n hx hb dX3_layWays_15 rfl (lv_at hl 1 rfl) ?_
    refine lv_iload_n hx hb dX3_layWays_16 rfl (lv_at hl 0 rfl) ?_
    obtain ⟨r7, w5, hc6, hf⟩ := wd_b2_e hf
    refine z_callV (ci := 3) (As := [.int r4]) (rest := []) (c_X3_port l E n w2 x0 r4 r7 w5 (hZ.k 0 rfl rfl) hc6) mo_X3_port rfl (by decide) rfl tw_488 tw_489 tw_592 hx hb hml hts hown hK ⟨Nat.le_trans (by decide) hR.1, Nat.le_trans (by decide) hR.2⟩ hZ (hZ.k 0 rfl rfl) rfl hl.1 rfl (Nat.le_of_ble_eq_true rfl) rfl dX3_layWays_17 (fun H locs cells slots hX hZ => ?_)
    have hZ := hZ.add (by decide) hX
    refine z_astore_n (lv' := [(3, va_rf r7), (2, .int r4), (0, .ref x0), (1, .int x1)]) hx hb dX3_layWays_20 rfl hl (by decide) rfl (fun ls hl => ?_)
    refine z_aload_n hx hb dX3_layWays_21 rfl (lv_at hl 0 rfl) ?_
    refine z_ifnonnull (tgt := 29) hx hb dX3_layWays_22 (by decide) (fun a8 ha8 => ?_) (fun hn => ?_)
    · have hf := wd_on_s ha8 hf
      subst ha8
      have hl : lv_has ls 6 [(3, .ref a8), (2, .int r4), (0, .ref x0), (1, .int x1)] := hl
      have hZ : wd_Z E w0 R s w5 H locs cells slots [(some a8, 8), (some x0, 4)] := hZ
      refine lv_aload_n hx hb dX3_layWays_29 rfl (lv_at hl 0 rfl) ?_
      refine z_getI fd_703 rfl hx hb hts hown hK hZ (hZ.k 0 rfl rfl) tw_571 dX3_layWays_30 ?_
      exact v_X3_layWays_j33 n C hR rec2 hrec2 (wd_I w5 703 a8) x0 x1 r4 (some a8) w5 _ _ _ _ _ ⟨hZ.1, hZ.2.1, hZ.2.2.1, hZ.2.2.2.1, (List.forall_mem_cons.mpr ⟨⟨by decide, (fun q hq => by cases hq; exact (hZ.k 1 rfl rfl))⟩, (List.forall_mem_cons.mpr ⟨⟨by decide, (fun q hq => by cases hq; exact (hZ.k 0 rfl rfl))⟩, (fun _ hq => absurd hq List.not_mem_nil)⟩)⟩), hZ.2.2.2.2.2⟩ (lv_sub hl [2, 3, 1, 0] rfl) hf
    · have hf := wd_on_n hn hf
      subst hn
      have hl : lv_has ls 6 [(3, va_rf none), (2, .int r4), (0, .ref x0), (1, .int x1)] := hl
      have hZ : wd_Z E w0 R s w5 H locs cells slots [(none, 8), (some x0, 4)] := hZ
      refine lv_iconst (v := -1) hx hb dX3_layWays_25 (by decide) ?_
      refine lv_goto (tgt := 33) hx hb dX3_layWays_26 (by decide) ?_
      exact v_X3_layWays_j33 n C hR rec2 hrec2 (-1 : Int32) x0 x1 r4 none w5 _ _ _ _ _ ⟨hZ.1, hZ.2.1, hZ.2.2.1, hZ.2.2.2.1, (List.forall_mem_cons.mpr ⟨⟨by decide, (fun q hq => by cases hq; exact (hZ.k 1 rfl rfl))⟩, (List.forall_mem_cons.mpr ⟨⟨by decide, (fun q hq => by cases hq)⟩, (fun _ hq => absurd hq List.not_mem_nil)⟩)⟩), hZ.2.2.2.2.2⟩ (lv_sub hl [2, 3, 1, 0] rfl) hf

theorem v_X3_layWays_l2 {p : Program} {l : Launch} {e : Env} {R : Room} {s : State} {m : MethodId} {args : Array Value} {below : List Frame} {meth : Method} {c : Code} {E : wd_E} {w0 : Wd} {w' : Wd} (n : Nat) (C : wd_X p s m args meth c cX3_layWays RX3 6 none "layWays" E) (hR : 3 ≤ R.frames ∧ 71 ≤ R.locals) : ∀ (k : Nat) (x0 : Nat) (x1 : Int32) (w : Wd) (H : Heap) (locs : List Loc) (cells slots : Nat) (ls : Array Slot), wd_Z E w0 R s w H locs cells slots [(some x0, 4)] → lv_has ls 6 [(0, .ref x0), (1, .int x1)] → wd_lp3 (f_X3_layWays_l2 n) k x0 x1 w = some w' → W p l e R s m args below meth c H locs cells slots (wd_fin E w0 none w' True R args s below) (F0 m 2 ls []) := by
  intro k
  induction k with
  | zero => intro _ _ _ _ _ _ _ _ _ _ hf; cases hf
  | succ k ih =>
    intro x0 x1 w H locs cells slots ls hZ hl hf
    exact v_X3_layWays_b2 n C hR (wd_lp3 (f_X3_layWays_l2 n) k) ih x0 x1 w H locs cells slots ls hZ hl hf

set_option maxHeartbeats 4000000 in
set_option maxRecDepth 100000 in
theorem c_X3_layWays (l : Launch) (E : wd_E) (n : Nat) (w : Wd) (this : Nat) (w' : Wd) (k_this : wd_K w this = 4) (hf : f_X3_layWays n w this = some w') : wd_C l E yX3_layWays cX3_layWays 6 none 3 71 [.ref this] w none w' True := by
  refine wd_ofW (own := RX3) (nm := "layWays") (ks := [(some this, 4)]) (lv := [(0, .ref this)]) (by decide) rfl rfl (Nat.le_of_ble_eq_true rfl) rfl (List.forall_mem_cons.mpr ⟨⟨by decide, fun q hq => by cases hq; exact k_this⟩, (fun _ hq => absurd hq List.not_mem_nil)⟩) ?_
  intro p e s m args below meth c R H ls C hR hZ hl
  obtain ⟨hx, hb, hr, hml, hts, hown, hlocks, hmn, hK⟩ := id C
  unfold f_X3_layWays at hf
  refine lv_iconst (v := 0) hx hb dX3_layWays_0 (by decide) ?_
  refine lv_istore_n (lv' := [(1, .int (0 : Int32)), (0, .ref this)]) hx hb dX3_layWays_1 rfl hl (by decide) rfl (fun ls hl => ?_)
  exact v_X3_layWays_l2 n C hR n this (0 : Int32) w _ _ _ _ _ ⟨hZ.1, hZ.2.1, hZ.2.2.1, hZ.2.2.2.1, (List.forall_mem_cons.mpr ⟨⟨by decide, (fun q hq => by cases hq; exact (hZ.k 0 rfl rfl))⟩, (fun _ hq => absurd hq List.not_mem_nil)⟩), hZ.2.2.2.2.2⟩ (lv_sub hl [1, 0] rfl) hf

def f_X3_addNextPort (n : Nat) (w : Wd) (this : Nat) (p0 : Int32) (p1 : Int32) (p2 : Int32) : Option (Option Nat × Wd) :=
  if (wd_I w 303 this) < (4 : Int32) then
    wd_gd (wd_M w = 0 ∨ wd_S w < 4) <|
    wd_let (wd_H w) fun a3 =>
    wd_let (wd_nw w 8 0 4) fun w5 =>
    Option.bind (f_X7_init n w5 a3 (((4 : Int32) * (wd_I w5 300 this)) + (wd_I w5 303 this)) p0 p1 p2) fun w7 =>
    Option.bind (wd_R w7 302 this) fun a9 =>
    wd_gd ((wd_I w7 303 this) < 0 ∨ wd_N w7 a9 ≤ (wd_I w7 303 this).toNatClampNeg) <|
    wd_let (wd_sQ w7 a9 (wd_I w7 303 this).toNatClampNeg (some a3)) fun w11 =>
    wd_let (wd_sI w11 303 this ((wd_I w11 303 this) + (1 : Int32))) fun w13 =>
    Option.bind (f_X3_layWays n w13 this) fun w15 =>
    some ((some a3), w15)
  else
    some (none, w)
set_option maxHeartbeats 4000000 in
set_option maxRecDepth 100000 in
theorem c_X3_addNextPort (l : Launch) (E : wd_E) (n : Nat) (w : Wd) (this : Nat) (p0 : Int32) (p1 : Int32) (p2 : Int32) (r' : Option Nat) (w' : Wd) (k_this : wd_K w this = 4) (hf : f_X3_addNextPort n w this p0 p1 p2 = some (r', w')) : wd_C l E yX3_addNextPort cX3_addNextPort 5 (some (.object "SeamarkNet$Port")) 4 96 [.ref this, .int p0, .int p1, .int p2] w (some (va_rf r')) w' (∀ q, r' = some q → wd_K w' q = 8) := by
  refine wd_ofW (own := RX3) (nm := "addNextPort") (ks := [(some this, 4)]) (lv := [(0, .ref this), (1, .int p0), (2, .int p1), (3, .int p2)]) (by decide) rfl rfl (Nat.le_of_ble_eq_true rfl) rfl (List.forall_mem_cons.mpr ⟨⟨by decide, fun q hq => by cases hq; exact k_this⟩, (fun _ hq => absurd hq List.not_mem_nil)⟩) ?_
  intro p e s m args below meth c R H ls C hR hZ hl
  obtain ⟨hx, hb, hr, hml, hts, hown, hlocks, hmn, hK⟩ := id C
  unfold f_X3_addNextPort at hf
  refine lv_aload_n hx hb dX3_addNextPort_0 rfl (lv_at hl 0 rfl) ?_
  refine z_getI fd_303 rfl hx hb hts hown hK hZ (hZ.k 0 rfl rfl) tw_80 dX3_addNextPort_1 ?_
  refine lv_iconst (v := 4) hx hb dX3_addNextPort_4 (by decide) ?_
  refine lv_icmp_lt (tgt := 10) hx hb dX3_addNextPort_5 (by decide) (fun h1 => ?_) (fun h1 => ?_)
  · have hf := wd_ite_p h1 hf
    obtain ⟨h2, hf⟩ := wd_gd_e hf
    refine z_new cok_7 hx hb hts hown hK hZ tw_71 tw_554 tw_43 h2 dX3_addNextPort_10 (fun H cells slots hZ => ?_)
    obtain ⟨a3, e4, hf⟩ := wd_let_e hf
    rw [e4]
    rw [e4] at hZ
    obtain ⟨w5, e6, hf⟩ := wd_let_e hf
    rw [e6] at hZ
    refine lv_dup hx hb dX3_addNextPort_13 rfl ?_
    refine lv_iconst (v := 4) hx hb dX3_addNextPort_14 (by decide) ?_
    refine lv_aload_n hx hb dX3_addNextPort_15 rfl (lv_at hl 0 rfl) ?_
    refine z_getI fd_300 rfl hx hb hts hown hK hZ (hZ.k 1 rfl rfl) tw_75 dX3_addNextPort_16 ?_
    refine lv_imul hx hb dX3_addNextPort_19 ?_
    refine lv_aload_n hx hb dX3_addNextPort_20 rfl (lv_at hl 0 rfl) ?_
    refine z_getI fd_303 rfl hx hb hts hown hK hZ (hZ.k 1 rfl rfl) tw_80 dX3_addNextPort_21 ?_
    refine lv_iadd hx hb dX3_addNextPort_24 ?_
    refine lv_iload_n hx hb dX3_addNextPort_25 rfl (lv_at hl 1 rfl) ?_
    refine lv_iload_n hx hb dX3_addNextPort_26 rfl (lv_at hl 2 rfl) ?_
    refine lv_iload_n hx hb dX3_addNextPort_27 rfl (lv_at hl 3 rfl) ?_
    obtain ⟨w7, hc8, hf⟩ := Option.bind_eq_some_iff.mp hf
    refine z_callI (As := [.int (((4 : Int32) * (wd_I w5 300 this)) + (wd_I w5 303 this)), .int p0, .int p1, .int p2]) (rest := [.ref a3]) (c_X7_init l E n w5 a3 (((4 : Int32) * (wd_I w5 300 this)) + (wd_I w5 303 this)) p0 p1 p2 w7 (hZ.k 0 rfl rfl) hc8) mo_X7_init rfl tw_556 tw_555 hx hb hml hts hown hK ⟨Nat.le_trans (by decide) hR.1, Nat.le_trans (by decide) hR.2⟩ hZ rfl hl.1 rfl (Nat.le_of_ble_eq_true rfl) dX3_addNextPort_28 (fun H locs cells slots hX hZ => ?_)
    refine lv_astore (lv' := [(4, .ref a3), (0, .ref this), (1, .int p0), (2, .int p1), (3, .int p2)]) hx hb dX3_addNextPort_31 hl (by decide) rfl (fun ls hl => ?_)
    refine lv_aload_n hx hb dX3_addNextPort_33 rfl (lv_at hl 1 rfl) ?_
    refine z_getR (tk := 21) fd_302 rfl hx hb hts hown hK hZ (hZ.k 1 rfl rfl) tw_79 dX3_addNextPort_34 (fun hZ => ?_)
    refine lv_aload_n hx hb dX3_addNextPort_37 rfl (lv_at hl 1 rfl) ?_
    refine z_getI fd_303 rfl hx hb hts hown hK hZ (hZ.k 2 rfl rfl) tw_80 dX3_addNextPort_38 ?_
    refine lv_aload hx hb dX3_addNextPort_41 (lv_at hl 0 rfl) ?_
    obtain ⟨a9, ha9, hf⟩ := Option.bind_eq_some_iff.mp hf
    have hZ := hZ.add (r := some a9) (k := 22) (by decide) (fun q hq => by cases hq; exact hZ.k 0 rfl ha9)
    rw [ha9]
    obtain ⟨h10, hf⟩ := wd_gd_e hf
    refine z_aast (k := 22) (ci := 7) (by decide) (by decide) rfl rfl (by decide) rfl hx hb hK hZ (hZ.k 0 rfl rfl) (hZ.k 2 rfl rfl) h10 dX3_addNextPort_43 (fun H locs hZ => ?_)
    obtain ⟨w11, e12, hf⟩ := wd_let_e hf
    rw [e12] at hZ
    refine lv_aload_n hx hb dX3_addNextPort_44 rfl (lv_at hl 1 rfl) ?_
    refine lv_dup hx hb dX3_addNextPort_45 rfl ?_
    refine z_getI fd_303 rfl hx hb hts hown hK hZ (hZ.k 3 rfl rfl) tw_80 dX3_addNextPort_46 ?_
    refine lv_iconst (v := 1) hx hb dX3_addNextPort_49 (by decide) ?_
    refine lv_iadd hx hb dX3_addNextPort_50 ?_
    refine z_putI fd_303 cok_3 rfl rfl rfl rfl rfl hx hb hts hown hK hZ (hZ.k 3 rfl rfl) tw_80 dX3_addNextPort_51 (fun H locs hZ => ?_)
    obtain ⟨w13, e14, hf⟩ := wd_let_e hf
    rw [e14] at hZ
    refine lv_aload_n hx hb dX3_addNextPort_54 rfl (lv_at hl 1 rfl) ?_
    obtain ⟨w15, hc16, hf⟩ := Option.bind_eq_some_iff.mp hf
    refine z_callV (ci := 3) (As := []) (rest := []) (c_X3_layWays l E n w13 this w15 (hZ.k 3 rfl rfl) hc16) mo_X3_layWays rfl (by decide) rfl tw_583 tw_5 tw_581 hx hb hml hts hown hK ⟨Nat.le_trans (by decide) hR.1, Nat.le_trans (by decide) hR.2⟩ hZ (hZ.k 3 rfl rfl) rfl hl.1 rfl (Nat.le_of_ble_eq_true rfl) rfl dX3_addNextPort_55 (fun H locs cells slots hX hZ => ?_)
    refine lv_aload hx hb dX3_addNextPort_58 (lv_at hl 0 rfl) ?_
    obtain ⟨rfl, rfl⟩ := Prod.mk.inj (Option.some.inj hf)
    exact z_aret rfl hx hb hr hlocks hZ (fun q hq => by cases hq; exact (hZ.k 2 rfl rfl)) dX3_addNextPort_60
  · have hf := wd_ite_n h1 hf
    refine z_null hx hb dX3_addNextPort_8 ?_
    obtain ⟨rfl, rfl⟩ := Prod.mk.inj (Option.some.inj hf)
    exact z_aret rfl hx hb hr hlocks hZ (fun q hq => by cases hq) dX3_addNextPort_9

def f_X3_putTunnel (n : Nat) (w : Wd) (this : Nat) (p0 : Int32) : Option (Int32 × Wd) :=
  if (wd_I w 309 this) < (2 : Int32) then
    Option.bind (wd_R w 308 this) fun a2 =>
    wd_gd ((wd_I w 309 this) < 0 ∨ wd_N w a2 ≤ (wd_I w 309 this).toNatClampNeg) <|
    wd_let (wd_sA w a2 (wd_I w 309 this).toNatClampNeg p0) fun w4 =>
    wd_let (wd_sI w4 309 this ((wd_I w4 309 this) + (1 : Int32))) fun w6 =>
    some (((wd_I w6 309 this) - (1 : Int32)), w6)
  else
    some ((-1 : Int32), w)
set_option maxHeartbeats 4000000 in
set_option maxRecDepth 100000 in
theorem c_X3_putTunnel (l : Launch) (E : wd_E) (n : Nat) (w : Wd) (this : Nat) (p0 : Int32) (r' : Int32) (w' : Wd) (k_this : wd_K w this = 4) (hf : f_X3_putTunnel n w this p0 = some (r', w')) : wd_C l E yX3_putTunnel cX3_putTunnel 2 (some .int) 0 0 [.ref this, .int p0] w (some (.int r')) w' True := by
  refine wd_ofW (own := RX3) (nm := "putTunnel") (ks := [(some this, 4)]) (lv := [(0, .ref this), (1, .int p0)]) (by decide) rfl rfl (Nat.le_of_ble_eq_true rfl) rfl (List.forall_mem_cons.mpr ⟨⟨by decide, fun q hq => by cases hq; exact k_this⟩, (fun _ hq => absurd hq List.not_mem_nil)⟩) ?_
  intro p e s m args below meth c R H ls C hR hZ hl
  obtain ⟨hx, hb, hr, hml, hts, hown, hlocks, hmn, hK⟩ := id C
  unfold f_X3_putTunnel at hf
  refine lv_aload_n hx hb dX3_putTunnel_0 rfl (lv_at hl 0 rfl) ?_
  refine z_getI fd_309 rfl hx hb hts hown hK hZ (hZ.k 0 rfl rfl) tw_86 dX3_putTunnel_1 ?_
  refine lv_iconst (v := 2) hx hb dX3_putTunnel_4 (by decide) ?_
  refine lv_icmp_lt (tgt := 10) hx hb dX3_putTunnel_5 (by decide) (fun h1 => ?_) (fun h1 => ?_)
  · have hf := wd_ite_p h1 hf
    refine lv_aload_n hx hb dX3_putTunnel_10 rfl (lv_at hl 0 rfl) ?_
    refine z_getR (tk := 20) fd_308 rfl hx hb hts hown hK hZ (hZ.k 0 rfl rfl) tw_85 dX3_putTunnel_11 (fun hZ => ?_)
    refine lv_aload_n hx hb dX3_putTunnel_14 rfl (lv_at hl 0 rfl) ?_
    refine z_getI fd_309 rfl hx hb hts hown hK hZ (hZ.k 1 rfl rfl) tw_86 dX3_putTunnel_15 ?_
    refine lv_iload_n hx hb dX3_putTunnel_18 rfl (lv_at hl 1 rfl) ?_
    obtain ⟨a2, ha2, hf⟩ := Option.bind_eq_some_iff.mp hf
    have hZ := hZ.add (r := some a2) (k := 21) (by decide) (fun q hq => by cases hq; exact hZ.k 0 rfl ha2)
    rw [ha2]
    obtain ⟨h3, hf⟩ := wd_gd_e hf
    refine z_iast hx hb hK hZ (hZ.k 0 rfl rfl) h3 dX3_putTunnel_19 (fun H locs hZ => ?_)
    obtain ⟨w4, e5, hf⟩ := wd_let_e hf
    rw [e5] at hZ
    refine lv_aload_n hx hb dX3_putTunnel_20 rfl (lv_at hl 0 rfl) ?_
    refine lv_dup hx hb dX3_putTunnel_21 rfl ?_
    refine z_getI fd_309 rfl hx hb hts hown hK hZ (hZ.k 2 rfl rfl) tw_86 dX3_putTunnel_22 ?_
    refine lv_iconst (v := 1) hx hb dX3_putTunnel_25 (by decide) ?_
    refine lv_iadd hx hb dX3_putTunnel_26 ?_
    refine z_putI fd_309 cok_3 rfl rfl rfl rfl rfl hx hb hts hown hK hZ (hZ.k 2 rfl rfl) tw_86 dX3_putTunnel_27 (fun H locs hZ => ?_)
    obtain ⟨w6, e7, hf⟩ := wd_let_e hf
    rw [e7] at hZ
    refine lv_aload_n hx hb dX3_putTunnel_30 rfl (lv_at hl 0 rfl) ?_
    refine z_getI fd_309 rfl hx hb hts hown hK hZ (hZ.k 2 rfl rfl) tw_86 dX3_putTunnel_31 ?_
    refine lv_iconst (v := 1) hx hb dX3_putTunnel_34 (by decide) ?_
    refine lv_isub hx hb dX3_putTunnel_35 ?_
    obtain ⟨rfl, rfl⟩ := Prod.mk.inj (Option.some.inj hf)
    exact z_iret hx hb hr hlocks hZ trivial dX3_putTunnel_36
  · have hf := wd_ite_n h1 hf
    refine lv_iconst (v := -1) hx hb dX3_putTunnel_8 (by decide) ?_
    obtain ⟨rfl, rfl⟩ := Prod.mk.inj (Option.some.inj hf)
    exact z_iret hx hb hr hlocks hZ trivial dX3_putTunnel_9

def f_X3_putRoute (n : Nat) (w : Wd) (this : Nat) (p0 : Int32) (p1 : Int32) (p2 : Int32) : Option (Int32 × Wd) :=
  if (wd_I w 307 this) < (6 : Int32) then
    Option.bind (wd_R w 304 this) fun a2 =>
    wd_gd ((wd_I w 307 this) < 0 ∨ wd_N w a2 ≤ (wd_I w 307 this).toNatClampNeg) <|
    wd_let (wd_sA w a2 (wd_I w 307 this).toNatClampNeg p0) fun w4 =>
    Option.bind (wd_R w4 305 this) fun a6 =>
    wd_gd ((wd_I w4 307 this) < 0 ∨ wd_N w4 a6 ≤ (wd_I w4 307 this).toNatClampNeg) <|
    wd_let (wd_sA w4 a6 (wd_I w4 307 this).toNatClampNeg p1) fun w8 =>
    Option.bind (wd_R w8 306 this) fun a10 =>
    wd_gd ((wd_I w8 307 this) < 0 ∨ wd_N w8 a10 ≤ (wd_I w8 307 this).toNatClampNeg) <|
    wd_let (wd_sA w8 a10 (wd_I w8 307 this).toNatClampNeg p2) fun w12 =>
    wd_let (wd_sI w12 307 this ((wd_I w12 307 this) + (1 : Int32))) fun w14 =>
    Option.bind (f_X3_layWays n w14 this) fun w16 =>
    some (((wd_I w16 307 this) - (1 : Int32)), w16)
  else
    some ((-1 : Int32), w)
set_option maxHeartbeats 4000000 in
set_option maxRecDepth 100000 in
theorem c_X3_putRoute (l : Launch) (E : wd_E) (n : Nat) (w : Wd) (this : Nat) (p0 : Int32) (p1 : Int32) (p2 : Int32) (r' : Int32) (w' : Wd) (k_this : wd_K w this = 4) (hf : f_X3_putRoute n w this p0 p1 p2 = some (r', w')) : wd_C l E yX3_putRoute cX3_putRoute 4 (some .int) 4 96 [.ref this, .int p0, .int p1, .int p2] w (some (.int r')) w' True := by
  refine wd_ofW (own := RX3) (nm := "putRoute") (ks := [(some this, 4)]) (lv := [(0, .ref this), (1, .int p0), (2, .int p1), (3, .int p2)]) (by decide) rfl rfl (Nat.le_of_ble_eq_true rfl) rfl (List.forall_mem_cons.mpr ⟨⟨by decide, fun q hq => by cases hq; exact k_this⟩, (fun _ hq => absurd hq List.not_mem_nil)⟩) ?_
  intro p e s m args below meth c R H ls C hR hZ hl
  obtain ⟨hx, hb, hr, hml, hts, hown, hlocks, hmn, hK⟩ := id C
  unfold f_X3_putRoute at hf
  refine lv_aload_n hx hb dX3_putRoute_0 rfl (lv_at hl 0 rfl) ?_
  refine z_getI fd_307 rfl hx hb hts hown hK hZ (hZ.k 0 rfl rfl) tw_84 dX3_putRoute_1 ?_
  refine lv_bipush (v := 6) hx hb dX3_putRoute_4 (by decide) ?_
  refine lv_icmp_lt (tgt := 11) hx hb dX3_putRoute_6 (by decide) (fun h1 => ?_) (fun h1 => ?_)
  · have hf := wd_ite_p h1 hf
    refine lv_aload_n hx hb dX3_putRoute_11 rfl (lv_at hl 0 rfl) ?_
    refine z_getR (tk := 20) fd_304 rfl hx hb hts hown hK hZ (hZ.k 0 rfl rfl) tw_81 dX3_putRoute_12 (fun hZ => ?_)
    refine lv_aload_n hx hb dX3_putRoute_15 rfl (lv_at hl 0 rfl) ?_
    refine z_getI fd_307 rfl hx hb hts hown hK hZ (hZ.k 1 rfl rfl) tw_84 dX3_putRoute_16 ?_
    refine lv_iload_n hx hb dX3_putRoute_19 rfl (lv_at hl 1 rfl) ?_
    obtain ⟨a2, ha2, hf⟩ := Option.bind_eq_some_iff.mp hf
    have hZ := hZ.add (r := some a2) (k := 21) (by decide) (fun q hq => by cases hq; exact hZ.k 0 rfl ha2)
    rw [ha2]
    obtain ⟨h3, hf⟩ := wd_gd_e hf
    refine z_iast hx hb hK hZ (hZ.k 0 rfl rfl) h3 dX3_putRoute_20 (fun H locs hZ => ?_)
    obtain ⟨w4, e5, hf⟩ := wd_let_e hf
    rw [e5] at hZ
    refine lv_aload_n hx hb dX3_putRoute_21 rfl (lv_at hl 0 rfl) ?_
    refine z_getR (tk := 20) fd_305 rfl hx hb hts hown hK hZ (hZ.k 2 rfl rfl) tw_82 dX3_putRoute_22 (fun hZ => ?_)
    refine lv_aload_n hx hb dX3_putRoute_25 rfl (lv_at hl 0 rfl) ?_
    refine z_getI fd_307 rfl hx hb hts hown hK hZ (hZ.k 3 rfl rfl) tw_84 dX3_putRoute_26 ?_
    refine lv_iload_n hx hb dX3_putRoute_29 rfl (lv_at hl 2 rfl) ?_
    obtain ⟨a6, ha6, hf⟩ := Option.bind_eq_some_iff.mp hf
    have hZ := hZ.add (r := some a6) (k := 21) (by decide) (fun q hq => by cases hq; exact hZ.k 0 rfl ha6)
    rw [ha6]
    obtain ⟨h7, hf⟩ := wd_gd_e hf
    refine z_iast hx hb hK hZ (hZ.k 0 rfl rfl) h7 dX3_putRoute_30 (fun H locs hZ => ?_)
    obtain ⟨w8, e9, hf⟩ := wd_let_e hf
    rw [e9] at hZ
    refine lv_aload_n hx hb dX3_putRoute_31 rfl (lv_at hl 0 rfl) ?_
    refine z_getR (tk := 20) fd_306 rfl hx hb hts hown hK hZ (hZ.k 4 rfl rfl) tw_83 dX3_putRoute_32 (fun hZ => ?_)
    refine lv_aload_n hx hb dX3_putRoute_35 rfl (lv_at hl 0 rfl) ?_
    refine z_getI fd_307 rfl hx hb hts hown hK hZ (hZ.k 5 rfl rfl) tw_84 dX3_putRoute_36 ?_
    refine lv_iload_n hx hb dX3_putRoute_39 rfl (lv_at hl 3 rfl) ?_
    obtain ⟨a10, ha10, hf⟩ := Option.bind_eq_some_iff.mp hf
    have hZ := hZ.add (r := some a10) (k := 21) (by decide) (fun q hq => by cases hq; exact hZ.k 0 rfl ha10)
    rw [ha10]
    obtain ⟨h11, hf⟩ := wd_gd_e hf
    refine z_iast hx hb hK hZ (hZ.k 0 rfl rfl) h11 dX3_putRoute_40 (fun H locs hZ => ?_)
    obtain ⟨w12, e13, hf⟩ := wd_let_e hf
    rw [e13] at hZ
    refine lv_aload_n hx hb dX3_putRoute_41 rfl (lv_at hl 0 rfl) ?_
    refine lv_dup hx hb dX3_putRoute_42 rfl ?_
    refine z_getI fd_307 rfl hx hb hts hown hK hZ (hZ.k 6 rfl rfl) tw_84 dX3_putRoute_43 ?_
    refine lv_iconst (v := 1) hx hb dX3_putRoute_46 (by decide) ?_
    refine lv_iadd hx hb dX3_putRoute_47 ?_
    refine z_putI fd_307 cok_3 rfl rfl rfl rfl rfl hx hb hts hown hK hZ (hZ.k 6 rfl rfl) tw_84 dX3_putRoute_48 (fun H locs hZ => ?_)
    obtain ⟨w14, e15, hf⟩ := wd_let_e hf
    rw [e15] at hZ
    refine lv_aload_n hx hb dX3_putRoute_51 rfl (lv_at hl 0 rfl) ?_
    obtain ⟨w16, hc17, hf⟩ := Option.bind_eq_some_iff.mp hf
    refine z_callV (ci := 3) (As := []) (rest := []) (c_X3_layWays l E n w14 this w16 (hZ.k 6 rfl rfl) hc17) mo_X3_layWays rfl (by decide) rfl tw_583 tw_5 tw_581 hx hb hml hts hown hK ⟨Nat.le_trans (by decide) hR.1, Nat.le_trans (by decide) hR.2⟩ hZ (hZ.k 6 rfl rfl) rfl hl.1 rfl (Nat.le_of_ble_eq_true rfl) rfl dX3_putRoute_52 (fun H locs cells slots hX hZ => ?_)
    refine lv_aload_n hx hb dX3_putRoute_55 rfl (lv_at hl 0 rfl) ?_
    refine z_getI fd_307 rfl hx hb hts hown hK hZ (hZ.k 6 rfl rfl) tw_84 dX3_putRoute_56 ?_
    refine lv_iconst (v := 1) hx hb dX3_putRoute_59 (by decide) ?_
    refine lv_isub hx hb dX3_putRoute_60 ?_
    obtain ⟨rfl, rfl⟩ := Prod.mk.inj (Option.some.inj hf)
    exact z_iret hx hb hr hlocks hZ trivial dX3_putRoute_61
  · have hf := wd_ite_n h1 hf
    refine lv_iconst (v := -1) hx hb dX3_putRoute_9 (by decide) ?_
    obtain ⟨rfl, rfl⟩ := Prod.mk.inj (Option.some.inj hf)
    exact z_iret hx hb hr hlocks hZ trivial dX3_putRoute_10

def f_X3_mayLeadVia (n : Nat) (w : Wd) (this : Nat) (p0 : Int32) : Option (Int32 × Wd) :=
  if p0 < 0 then
    if (wd_I w 309 this) ≤ ((-1 : Int32) - p0) then
      some ((0 : Int32), w)
    else
      some ((1 : Int32), w)
  else
    if (256 : Int32) ≤ p0 then
      some ((0 : Int32), w)
    else
      some ((1 : Int32), w)
set_option maxHeartbeats 4000000 in
set_option maxRecDepth 100000 in
theorem c_X3_mayLeadVia (l : Launch) (E : wd_E) (n : Nat) (w : Wd) (this : Nat) (p0 : Int32) (r' : Int32) (w' : Wd) (k_this : wd_K w this = 4) (hf : f_X3_mayLeadVia n w this p0 = some (r', w')) : wd_C l E yX3_mayLeadVia cX3_mayLeadVia 2 (some .boolean) 0 0 [.ref this, .int p0] w (some (.int r')) w' True := by
  refine wd_ofW (own := RX3) (nm := "mayLeadVia") (ks := [(some this, 4)]) (lv := [(0, .ref this), (1, .int p0)]) (by decide) rfl rfl (Nat.le_of_ble_eq_true rfl) rfl (List.forall_mem_cons.mpr ⟨⟨by decide, fun q hq => by cases hq; exact k_this⟩, (fun _ hq => absurd hq List.not_mem_nil)⟩) ?_
  intro p e s m args below meth c R H ls C hR hZ hl
  obtain ⟨hx, hb, hr, hml, hts, hown, hlocks, hmn, hK⟩ := id C
  unfold f_X3_mayLeadVia at hf
  refine lv_iload_n hx hb dX3_mayLeadVia_0 rfl (lv_at hl 1 rfl) ?_
  refine lv_if_lt (tgt := 19) hx hb dX3_mayLeadVia_1 (by decide) (fun h1 => ?_) (fun h1 => ?_)
  · have hf := wd_ite_p h1 hf
    refine lv_iconst (v := -1) hx hb dX3_mayLeadVia_19 (by decide) ?_
    refine lv_iload_n hx hb dX3_mayLeadVia_20 rfl (lv_at hl 1 rfl) ?_
    refine lv_isub hx hb dX3_mayLeadVia_21 ?_
    refine lv_aload_n hx hb dX3_mayLeadVia_22 rfl (lv_at hl 0 rfl) ?_
    refine z_getI fd_309 rfl hx hb hts hown hK hZ (hZ.k 0 rfl rfl) tw_86 dX3_mayLeadVia_23 ?_
    refine lv_icmp_ge (tgt := 33) hx hb dX3_mayLeadVia_26 (by decide) (fun h2 => ?_) (fun h2 => ?_)
    · have hf := wd_ite_p h2 hf
      refine lv_iconst (v := 0) hx hb dX3_mayLeadVia_33 (by decide) ?_
      obtain ⟨rfl, rfl⟩ := Prod.mk.inj (Option.some.inj hf)
      exact z_zret (by decide) hx hb hr hlocks hZ trivial dX3_mayLeadVia_34
    · have hf := wd_ite_n h2 hf
      refine lv_iconst (v := 1) hx hb dX3_mayLeadVia_29 (by decide) ?_
      refine lv_goto (tgt := 34) hx hb dX3_mayLeadVia_30 (by decide) ?_
      obtain ⟨rfl, rfl⟩ := Prod.mk.inj (Option.some.inj hf)
      exact z_zret (by decide) hx hb hr hlocks hZ trivial dX3_mayLeadVia_34
  · have hf := wd_ite_n h1 hf
    refine lv_iload_n hx hb dX3_mayLeadVia_4 rfl (lv_at hl 1 rfl) ?_
    refine lv_sipush (v := 256) hx hb dX3_mayLeadVia_5 (by decide) ?_
    refine lv_icmp_ge (tgt := 15) hx hb dX3_mayLeadVia_8 (by decide) (fun h3 => ?_) (fun h3 => ?_)
    · have hf := wd_ite_p h3 hf
      refine lv_iconst (v := 0) hx hb dX3_mayLeadVia_15 (by decide) ?_
      refine lv_goto (tgt := 34) hx hb dX3_mayLeadVia_16 (by decide) ?_
      obtain ⟨rfl, rfl⟩ := Prod.mk.inj (Option.some.inj hf)
      exact z_zret (by decide) hx hb hr hlocks hZ trivial dX3_mayLeadVia_34
    · have hf := wd_ite_n h3 hf
      refine lv_iconst (v := 1) hx hb dX3_mayLeadVia_11 (by decide) ?_
      refine lv_goto (tgt := 34) hx hb dX3_mayLeadVia_12 (by decide) ?_
      obtain ⟨rfl, rfl⟩ := Prod.mk.inj (Option.some.inj hf)
      exact z_zret (by decide) hx hb hr hlocks hZ trivial dX3_mayLeadVia_34

def f_X3_owns_j28 (n : Nat) (rec2 : Nat → Int32 → Int32 → Wd → Option (Int32 × Wd)) (x0 : Nat) (x1 : Int32) (x2 : Int32) (w : Wd) : Option (Int32 × Wd) :=
  wd_let (x2 + 1) fun v7 =>
  rec2 x0 x1 v7 w
def f_X3_owns_l2 (n : Nat) (rec2 : Nat → Int32 → Int32 → Wd → Option (Int32 × Wd)) (x0 : Nat) (x1 : Int32) (x2 : Int32) (w : Wd) : Option (Int32 × Wd) :=
  if (4 : Int32) ≤ x2 then
    some ((0 : Int32), w)
  else
    Option.bind (wd_R w 302 x0) fun a2 =>
    wd_gd (x2 < 0 ∨ wd_N w a2 ≤ x2.toNatClampNeg) <|
    wd_let (wd_Q w a2 x2.toNatClampNeg) fun v4 =>
    wd_on v4 (
      f_X3_owns_j28 n rec2 x0 x1 x2 w)
      (fun a6 =>
      if (wd_I w 702 a6) = x1 then
        some ((1 : Int32), w)
      else
        f_X3_owns_j28 n rec2 x0 x1 x2 w)
def f_X3_owns (n : Nat) (w : Wd) (this : Nat) (p0 : Int32) : Option (Int32 × Wd) :=
  wd_lp4 (f_X3_owns_l2 n) n this p0 (0 : Int32) w
set_option maxHeartbeats 4000000 in
set_option maxRecDepth 100000 in
theorem v_X3_owns_j28 {p : Program} {l : Launch} {e : Env} {R : Room} {s : State} {m : MethodId} {args : Array Value} {below : List Frame} {meth : Method} {c : Code} {E : wd_E} {w0 : Wd} {r' : Int32} {w' : Wd} (n : Nat) (C : wd_X p s m args meth c cX3_owns RX3 4 (some .boolean) "owns" E) (hR : 0 ≤ R.frames ∧ 0 ≤ R.locals) (rec2 : Nat → Int32 → Int32 → Wd → Option (Int32 × Wd)) (hrec2 : ∀ (x0_ : Nat) (x1_ : Int32) (x2_ : Int32) (w_ : Wd) (H : Heap) (locs : List Loc) (cells slots : Nat) (ls : Array Slot), wd_Z E w0 R s w_ H locs cells slots [(some x0_, 4)] → lv_has ls 4 [(0, .ref x0_), (1, .int x1_), (2, .int x2_)] → rec2 x0_ x1_ x2_ w_ = some (r', w') → W p l e R s m args below meth c H locs cells slots (wd_fin E w0 (some (.int r')) w' True R args s below) (F0 m 2 ls [])) (x0 : Nat) (x1 : Int32) (x2 : Int32) (w : Wd) (H : Heap) (locs : List Loc) (cells slots : Nat) (ls : Array Slot) (hZ : wd_Z E w0 R s w H locs cells slots [(some x0, 4)]) (hl : lv_has ls 4 [(0, .ref x0), (1, .int x1), (2, .int x2)]) (hf : f_X3_owns_j28 n rec2 x0 x1 x2 w = some (r', w')) : W p l e R s m args below meth c H locs cells slots (wd_fin E w0 (some (.int r')) w' True R args s below) (F0 m 28 ls []) := by
  obtain ⟨hx, hb, hr, hml, hts, hown, hlocks, hmn, hK⟩ := id C
  unfold f_X3_owns_j28 at hf
  obtain ⟨v7, e8, hf⟩ := wd_let_e hf
  refine lv_iinc (k := 2) (v := v7) (lv' := [(2, .int v7), (0, .ref x0), (1, .int x1)]) hx hb dX3_owns_28 hl rfl (by rw [← e8]; rfl) (by decide) rfl (fun ls hl => ?_)
  refine lv_goto (tgt := 2) hx hb dX3_owns_31 (by decide) ?_
  exact hrec2 x0 x1 v7 w _ _ _ _ _ ⟨hZ.1, hZ.2.1, hZ.2.2.1, hZ.2.2.2.1, (List.forall_mem_cons.mpr ⟨⟨by decide, (fun q hq => by cases hq; exact (hZ.k 0 rfl rfl))⟩, (fun _ hq => absurd hq List.not_mem_nil)⟩), hZ.2.2.2.2.2⟩ (lv_sub hl [1, 2, 0] rfl) hf

set_option maxHeartbeats 4000000 in
set_option maxRecDepth 100000 in
theorem v_X3_owns_b2 {p : Program} {l : Launch} {e : Env} {R : Room} {s : State} {m : MethodId} {args : Array Value} {below : List Frame} {meth : Method} {c : Code} {E : wd_E} {w0 : Wd} {r' : Int32} {w' : Wd} (n : Nat) (C : wd_X p s m args meth c cX3_owns RX3 4 (some .boolean) "owns" E) (hR : 0 ≤ R.frames ∧ 0 ≤ R.locals) (rec2 : Nat → Int32 → Int32 → Wd → Option (Int32 × Wd)) (hrec2 : ∀ (x0_ : Nat) (x1_ : Int32) (x2_ : Int32) (w_ : Wd) (H : Heap) (locs : List Loc) (cells slots : Nat) (ls : Array Slot), wd_Z E w0 R s w_ H locs cells slots [(some x0_, 4)] → lv_has ls 4 [(0, .ref x0_), (1, .int x1_), (2, .int x2_)] → rec2 x0_ x1_ x2_ w_ = some (r', w') → W p l e R s m args below meth c H locs cells slots (wd_fin E w0 (some (.int r')) w' True R args s below) (F0 m 2 ls [])) (x0 : Nat) (x1 : Int32) (x2 : Int32) (w : Wd) (H : Heap) (locs : List Loc) (cells slots : Nat) (ls : Array Slot) (hZ : wd_Z E w0 R s w H locs cells slots [(some x0, 4)]) (hl : lv_has ls 4 [(0, .ref x0), (1, .int x1), (2, .int x2)]) (hf : f_X3_owns_l2 n rec2 x0 x1 x2 w = some (r', w')) : W p l e R s m args below meth c H locs cells slots (wd_fin E w0 (some (.int r')) w' True R args s below) (F0 m 2 ls []) := by
  obtain ⟨hx, hb, hr, hml, hts, hown, hlocks, hmn, hK⟩ := id C
  unfold f_X3_owns_l2 at hf
  refine lv_iload_n hx hb dX3_owns_2 rfl (lv_at hl 2 rfl) ?_
  refine lv_iconst (v := 4) hx hb dX3_owns_3 (by decide) ?_
  refine lv_icmp_ge (tgt := 34) hx hb dX3_owns_4 (by decide) (fun h1 => ?_) (fun h1 => ?_)
  · have hf := wd_ite_p h1 hf
    refine lv_iconst (v := 0) hx hb dX3_owns_34 (by decide) ?_
    obtain ⟨rfl, rfl⟩ := Prod.mk.inj (Option.some.inj hf)
    exact z_zret (by decide) hx hb hr hlocks hZ trivial dX3_owns_35
  · have hf := wd_ite_n h1 hf
    refine lv_aload_n hx hb dX3_owns_7 rfl (lv_at hl 0 rfl) ?_
    refine z_getR (tk := 21) fd_302 rfl hx hb hts hown hK hZ (hZ.k 0 rfl rfl) tw_79 dX3_owns_8 (fun hZ => ?_)
    refine lv_iload_n hx hb dX3_owns_11 rfl (lv_at hl 2 rfl) ?_
    obtain ⟨a2, ha2, hf⟩ := Option.bind_eq_some_iff.mp hf
    have hZ := hZ.add (r := some a2) (k := 22) (by decide) (fun q hq => by cases hq; exact hZ.k 0 rfl ha2)
    rw [ha2]
    obtain ⟨h3, hf⟩ := wd_gd_e hf
    refine z_aald (k := 22) (by decide) (by decide) (tk := 7) rfl hx hb hK hZ (hZ.k 0 rfl rfl) h3 dX3_owns_12 (fun hZ => ?_)
    obtain ⟨v4, e5, hf⟩ := wd_let_e hf
    rw [e5]
    rw [e5] at hZ
    refine z_astore_n (lv' := [(3, va_rf v4), (0, .ref x0), (1, .int x1), (2, .int x2)]) hx hb dX3_owns_13 rfl hl (by decide) rfl (fun ls hl => ?_)
    refine z_aload_n hx hb dX3_owns_14 rfl (lv_at hl 0 rfl) ?_
    refine z_ifnull (tgt := 28) hx hb dX3_owns_15 (by decide) (fun hn => ?_) (fun a6 ha6 => ?_)
    · have hf := wd_on_n hn hf
      subst hn
      have hl : lv_has ls 4 [(3, va_rf none), (0, .ref x0), (1, .int x1), (2, .int x2)] := hl
      have hZ : wd_Z E w0 R s w H locs cells slots [(none, 8), (some a2, 22), ((wd_R w 302 x0), 22), (some x0, 4)] := hZ
      exact v_X3_owns_j28 n C hR rec2 hrec2 x0 x1 x2 w _ _ _ _ _ ⟨hZ.1, hZ.2.1, hZ.2.2.1, hZ.2.2.2.1, (List.forall_mem_cons.mpr ⟨⟨by decide, (fun q hq => by cases hq; exact (hZ.k 3 rfl rfl))⟩, (fun _ hq => absurd hq List.not_mem_nil)⟩), hZ.2.2.2.2.2⟩ (lv_sub hl [1, 2, 3] rfl) hf
    · have hf := wd_on_s ha6 hf
      subst ha6
      have hl : lv_has ls 4 [(3, .ref a6), (0, .ref x0), (1, .int x1), (2, .int x2)] := hl
      have hZ : wd_Z E w0 R s w H locs cells slots [(some a6, 8), (some a2, 22), ((wd_R w 302 x0), 22), (some x0, 4)] := hZ
      refine lv_aload_n hx hb dX3_owns_18 rfl (lv_at hl 0 rfl) ?_
      refine z_getI fd_702 rfl hx hb hts hown hK hZ (hZ.k 0 rfl rfl) tw_567 dX3_owns_19 ?_
      refine lv_iload_n hx hb dX3_owns_22 rfl (lv_at hl 2 rfl) ?_
      refine lv_icmp_ne (tgt := 28) hx hb dX3_owns_23 (by decide) (fun h9 => ?_) (fun h9 => ?_)
      · have hf := wd_ite_n h9 hf
        exact v_X3_owns_j28 n C hR rec2 hrec2 x0 x1 x2 w _ _ _ _ _ ⟨hZ.1, hZ.2.1, hZ.2.2.1, hZ.2.2.2.1, (List.forall_mem_cons.mpr ⟨⟨by decide, (fun q hq => by cases hq; exact (hZ.k 3 rfl rfl))⟩, (fun _ hq => absurd hq List.not_mem_nil)⟩), hZ.2.2.2.2.2⟩ (lv_sub hl [1, 2, 3] rfl) hf
      · have hf := wd_ite_p h9 hf
        refine lv_iconst (v := 1) hx hb dX3_owns_26 (by decide) ?_
        obtain ⟨rfl, rfl⟩ := Prod.mk.inj (Option.some.inj hf)
        exact z_zret (by decide) hx hb hr hlocks hZ trivial dX3_owns_27

theorem v_X3_owns_l2 {p : Program} {l : Launch} {e : Env} {R : Room} {s : State} {m : MethodId} {args : Array Value} {below : List Frame} {meth : Method} {c : Code} {E : wd_E} {w0 : Wd} {r' : Int32} {w' : Wd} (n : Nat) (C : wd_X p s m args meth c cX3_owns RX3 4 (some .boolean) "owns" E) (hR : 0 ≤ R.frames ∧ 0 ≤ R.locals) : ∀ (k : Nat) (x0 : Nat) (x1 : Int32) (x2 : Int32) (w : Wd) (H : Heap) (locs : List Loc) (cells slots : Nat) (ls : Array Slot), wd_Z E w0 R s w H locs cells slots [(some x0, 4)] → lv_has ls 4 [(0, .ref x0), (1, .int x1), (2, .int x2)] → wd_lp4 (f_X3_owns_l2 n) k x0 x1 x2 w = some (r', w') → W p l e R s m args below meth c H locs cells slots (wd_fin E w0 (some (.int r')) w' True R args s below) (F0 m 2 ls []) := by
  intro k
  induction k with
  | zero => intro _ _ _ _ _ _ _ _ _ _ _ hf; cases hf
  | succ k ih =>
    intro x0 x1 x2 w H locs cells slots ls hZ hl hf
    exact v_X3_owns_b2 n C hR (wd_lp4 (f_X3_owns_l2 n) k) ih x0 x1 x2 w H locs cells slots ls hZ hl hf

set_option maxHeartbeats 4000000 in
set_option maxRecDepth 100000 in
theorem c_X3_owns (l : Launch) (E : wd_E) (n : Nat) (w : Wd) (this : Nat) (p0 : Int32) (r' : Int32) (w' : Wd) (k_this : wd_K w this = 4) (hf : f_X3_owns n w this p0 = some (r', w')) : wd_C l E yX3_owns cX3_owns 4 (some .boolean) 0 0 [.ref this, .int p0] w (some (.int r')) w' True := by
  refine wd_ofW (own := RX3) (nm := "owns") (ks := [(some this, 4)]) (lv := [(0, .ref this), (1, .int p0)]) (by decide) rfl rfl (Nat.le_of_ble_eq_true rfl) rfl (List.forall_mem_cons.mpr ⟨⟨by decide, fun q hq => by cases hq; exact k_this⟩, (fun _ hq => absurd hq List.not_mem_nil)⟩) ?_
  intro p e s m args below meth c R H ls C hR hZ hl
  obtain ⟨hx, hb, hr, hml, hts, hown, hlocks, hmn, hK⟩ := id C
  unfold f_X3_owns at hf
  refine lv_iconst (v := 0) hx hb dX3_owns_0 (by decide) ?_
  refine lv_istore_n (lv' := [(2, .int (0 : Int32)), (0, .ref this), (1, .int p0)]) hx hb dX3_owns_1 rfl hl (by decide) rfl (fun ls hl => ?_)
  exact v_X3_owns_l2 n C hR n this p0 (0 : Int32) w _ _ _ _ _ ⟨hZ.1, hZ.2.1, hZ.2.2.1, hZ.2.2.2.1, (List.forall_mem_cons.mpr ⟨⟨by decide, (fun q hq => by cases hq; exact (hZ.k 0 rfl rfl))⟩, (fun _ hq => absurd hq List.not_mem_nil)⟩), hZ.2.2.2.2.2⟩ (lv_sub hl [1, 2, 0] rfl) hf

