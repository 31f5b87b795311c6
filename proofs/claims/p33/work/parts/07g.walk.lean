/-! ===== meanings and contracts, laid by wip/p33/gen ===== -/
def f_X9_launch (n : Nat) (w : Wd) (this : Nat) (p0 : Option Nat) (p1 : Int32) (p2 : Int32) (p3 : Int32) (p4 : Int32) (p5 : Int32) : Option (Int32 × Wd) :=
  Option.bind p0 fun a1 =>
  wd_b2 (f_X9_sourceFor n w (wd_R w 200 a1) p2) fun r4 w2 =>
  if 0 ≤ r4 then
    wd_b2 (f_X9_bear n w2 this p1 r4 p2 p3) fun r8 w6 =>
    Option.bind r8 fun a9 =>
    wd_let (wd_sI w6 404 a9 p4) fun w10 =>
    wd_gd (¬ (p5 = 0 ∨ p5 = 1)) <|
    wd_let (wd_sI w10 408 a9 p5) fun w13 =>
    wd_let (wd_I w13 405 a9) fun v15 =>
    Option.bind (f_X9_goOut n w13 this (some a1) (some a9)) fun w17 =>
    some (v15, w17)
  else
    some ((-1 : Int32), w2)
set_option maxHeartbeats 4000000 in
set_option maxRecDepth 100000 in
theorem c_X9_launch (l : Launch) (E : wd_E) (n : Nat) (w : Wd) (this : Nat) (p0 : Option Nat) (p1 : Int32) (p2 : Int32) (p3 : Int32) (p4 : Int32) (p5 : Int32) (r' : Int32) (w' : Wd) (k_this : wd_K w this = 10) (k_p0 : ∀ q, p0 = some q → wd_K w q = 3) (hf : f_X9_launch n w this p0 p1 p2 p3 p4 p5 = some (r', w')) : wd_C l E yX9_launch cX9_launch 10 (some .int) 6 149 [.ref this, va_rf p0, .int p1, .int p2, .int p3, .int p4, .int p5] w (some (.int r')) w' True := by
  refine wd_ofW (own := RX9) (nm := "launch") (ks := [(some this, 10), (p0, 3)]) (lv := [(0, .ref this), (1, va_rf p0), (2, .int p1), (3, .int p2), (4, .int p3), (5, .int p4), (6, .int p5)]) (by decide) rfl rfl (by simp [lg_sl, va_rf_cat, Value.category]) (by simp [lv_args, va_rf_cat, Value.category]) (List.forall_mem_cons.mpr ⟨⟨by decide, fun q hq => by cases hq; exact k_this⟩, (List.forall_mem_cons.mpr ⟨⟨by decide, k_p0⟩, (fun _ hq => absurd hq List.not_mem_nil)⟩)⟩) ?_
  intro p e s m args below meth c R H ls C hR hZ hl
  obtain ⟨hx, hb, hr, hml, hts, hown, hlocks, hmn, hK⟩ := id C
  unfold f_X9_launch at hf
  refine z_aload_n hx hb dX9_launch_0 rfl (lv_at hl 1 rfl) ?_
  obtain ⟨a1, ha1, hf⟩ := Option.bind_eq_some_iff.mp hf
  subst ha1
  have hl : lv_has ls 10 [(0, .ref this), (1, .ref a1), (2, .int p1), (3, .int p2), (4, .int p3), (5, .int p4), (6, .int p5)] := hl
  have hZ : wd_Z E w R s w H locs cells slots [(some this, 10), (some a1, 3)] := hZ
  refine z_getR (tk := 3) fd_200 rfl hx hb hts hown hK hZ (hZ.k 1 rfl rfl) tw_206 dX9_launch_1 (fun hZ => ?_)
  refine lv_iload_n hx hb dX9_launch_4 rfl (lv_at hl 3 rfl) ?_
  obtain ⟨r4, w2, hc3, hf⟩ := wd_b2_e hf
  refine z_callS (As := [va_rf (wd_R w 200 a1), .int p2]) (rest := []) (c_X9_sourceFor l E n w (wd_R w 200 a1) p2 r4 w2 (fun q hq => hZ.k 0 rfl hq) hc3) mo_X9_sourceFor tw_646 tw_645 hx hb hml hts hown hK ⟨Nat.le_trans (by decide) hR.1, Nat.le_trans (by decide) hR.2⟩ hZ rfl hl.1 rfl (Nat.le_of_ble_eq_true rfl) rfl dX9_launch_5 (fun H locs cells slots hX hZ => ?_)
  refine lv_istore (lv' := [(7, .int r4), (0, .ref this), (1, .ref a1), (2, .int p1), (3, .int p2), (4, .int p3), (5, .int p4), (6, .int p5)]) hx hb dX9_launch_8 hl (by decide) rfl (fun ls hl => ?_)
  refine lv_iload hx hb dX9_launch_10 (lv_at hl 0 rfl) ?_
  refine lv_if_ge (tgt := 17) hx hb dX9_launch_12 (by decide) (fun h5 => ?_) (fun h5 => ?_)
  · have hf := wd_ite_p h5 hf
    refine lv_aload_n hx hb dX9_launch_17 rfl (lv_at hl 1 rfl) ?_
    refine lv_iload_n hx hb dX9_launch_18 rfl (lv_at hl 3 rfl) ?_
    refine lv_iload hx hb dX9_launch_19 (lv_at hl 0 rfl) ?_
    refine lv_iload_n hx hb dX9_launch_21 rfl (lv_at hl 4 rfl) ?_
    refine lv_iload hx hb dX9_launch_22 (lv_at hl 5 rfl) ?_
    obtain ⟨r8, w6, hc7, hf⟩ := wd_b2_e hf
    refine z_callV (ci := 9) (As := [.int p1, .int r4, .int p2, .int p3]) (rest := []) (c_X9_bear l E n w2 this p1 r4 p2 p3 r8 w6 (hZ.k 1 rfl rfl) hc7) mo_X9_bear rfl (by decide) rfl tw_667 tw_10 tw_665 hx hb hml hts hown hK ⟨Nat.le_trans (by decide) hR.1, Nat.le_trans (by decide) hR.2⟩ hZ (hZ.k 1 rfl rfl) rfl hl.1 rfl (Nat.le_of_ble_eq_true rfl) rfl dX9_launch_24 (fun H locs cells slots hX hZ => ?_)
    have hZ := hZ.add (by decide) hX
    refine z_astore (lv' := [(8, va_rf r8), (7, .int r4), (0, .ref this), (1, .ref a1), (2, .int p1), (3, .int p2), (4, .int p3), (5, .int p4), (6, .int p5)]) hx hb dX9_launch_27 hl (by decide) rfl (fun ls hl => ?_)
    refine z_aload hx hb dX9_launch_29 (lv_at hl 0 rfl) ?_
    refine lv_iload hx hb dX9_launch_31 (lv_at hl 7 rfl) ?_
    obtain ⟨a9, ha9, hf⟩ := Option.bind_eq_some_iff.mp hf
    subst ha9
    have hl : lv_has ls 10 [(8, .ref a9), (7, .int r4), (0, .ref this), (1, .ref a1), (2, .int p1), (3, .int p2), (4, .int p3), (5, .int p4), (6, .int p5)] := hl
    have hZ : wd_Z E w R s w6 H locs cells slots [(some a9, 5), ((wd_R w 200 a1), 4), (some this, 10), (some a1, 3)] := hZ
    refine z_putI fd_404 cok_4 rfl rfl rfl rfl rfl hx hb hts hown hK hZ (hZ.k 0 rfl rfl) tw_695 dX9_launch_33 (fun H locs hZ => ?_)
    obtain ⟨w10, e11, hf⟩ := wd_let_e hf
    rw [e11] at hZ
    refine lv_aload hx hb dX9_launch_36 (lv_at hl 0 rfl) ?_
    refine lv_iload hx hb dX9_launch_38 (lv_at hl 8 rfl) ?_
    obtain ⟨h12, hf⟩ := wd_gd_e hf
    refine z_putI fd_408 cok_4 rfl rfl rfl (wd_zn h12) (wd_zf h12) hx hb hts hown hK hZ (hZ.k 0 rfl rfl) tw_711 dX9_launch_40 (fun H locs hZ => ?_)
    obtain ⟨w13, e14, hf⟩ := wd_let_e hf
    rw [e14] at hZ
    refine lv_aload hx hb dX9_launch_43 (lv_at hl 0 rfl) ?_
    refine z_getI fd_405 rfl hx hb hts hown hK hZ (hZ.k 0 rfl rfl) tw_700 dX9_launch_45 ?_
    obtain ⟨v15, e16, hf⟩ := wd_let_e hf
    rw [e16]
    refine lv_istore (lv' := [(9, .int v15), (8, .ref a9), (7, .int r4), (0, .ref this), (1, .ref a1), (2, .int p1), (3, .int p2), (4, .int p3), (5, .int p4), (6, .int p5)]) hx hb dX9_launch_48 hl (by decide) rfl (fun ls hl => ?_)
    refine lv_aload_n hx hb dX9_launch_50 rfl (lv_at hl 3 rfl) ?_
    refine lv_aload_n hx hb dX9_launch_51 rfl (lv_at hl 4 rfl) ?_
    refine lv_aload hx hb dX9_launch_52 (lv_at hl 1 rfl) ?_
    obtain ⟨w17, hc18, hf⟩ := Option.bind_eq_some_iff.mp hf
    refine z_callV (ci := 9) (As := [va_rf (some a1), va_rf (some a9)]) (rest := []) (c_X9_goOut l E n w13 this (some a1) (some a9) w17 (hZ.k 2 rfl rfl) (fun q hq => by cases hq; exact (hZ.k 3 rfl rfl)) (fun q hq => by cases hq; exact (hZ.k 0 rfl rfl)) hc18) mo_X9_goOut rfl (by decide) rfl tw_759 tw_11 tw_757 hx hb hml hts hown hK ⟨Nat.le_trans (by decide) hR.1, Nat.le_trans (by decide) hR.2⟩ hZ (hZ.k 2 rfl rfl) rfl hl.1 rfl (Nat.le_of_ble_eq_true rfl) rfl dX9_launch_54 (fun H locs cells slots hX hZ => ?_)
    refine lv_iload hx hb dX9_launch_57 (lv_at hl 0 rfl) ?_
    obtain ⟨rfl, rfl⟩ := Prod.mk.inj (Option.some.inj hf)
    exact z_iret hx hb hr hlocks hZ trivial dX9_launch_59
  · have hf := wd_ite_n h5 hf
    refine lv_iconst (v := -1) hx hb dX9_launch_15 (by decide) ?_
    obtain ⟨rfl, rfl⟩ := Prod.mk.inj (Option.some.inj hf)
    exact z_iret hx hb hr hlocks hZ trivial dX9_launch_16

def f_X9_hearQuestion (n : Nat) (w : Wd) (this : Nat) (p0 : Option Nat) : Option Wd :=
  Option.bind p0 fun a1 =>
  Option.bind (wd_R w 904 this) fun a2 =>
  wd_b2 (f_X5_portWithAddress n w a2 (wd_I w 4 a1)) fun r5 w3 =>
  Option.bind (wd_R w3 904 this) fun a6 =>
  wd_b2 (f_X5_portWithMark n w3 a6 (wd_I w3 1 a1)) fun r9 w7 =>
  wd_on r5 (
    some w7)
    (fun a10 =>
    wd_on r9 (
      some w7)
      (fun a11 =>
      if ((some a10) : Option Nat) = (some a11) then
        some w7
      else
        if (wd_I w7 701 a10) = (wd_I w7 0 a1) then
          wd_b2 (f_X9_hostWithMark n w7 this (wd_I w7 700 a10)) fun r16 w14 =>
          wd_on r16 (
            some w14)
            (fun a17 =>
            Option.bind (f_X2_learn n w14 a17 (wd_I w14 702 a11) (wd_I w14 700 a11)) fun w18 =>
            Option.bind (wd_R w18 900 this) fun a20 =>
            Option.bind (f_X8_add n w18 a20 (2 : Int32) (some a10) (wd_I w18 700 a11) (wd_I w18 702 a10) none) fun w21 =>
            some w21)
        else
          some w7))
set_option maxHeartbeats 4000000 in
set_option maxRecDepth 100000 in
theorem c_X9_hearQuestion (l : Launch) (E : wd_E) (n : Nat) (w : Wd) (this : Nat) (p0 : Option Nat) (w' : Wd) (k_this : wd_K w this = 10) (k_p0 : ∀ q, p0 = some q → wd_K w q = 1) (hf : f_X9_hearQuestion n w this p0 = some w') : wd_C l E yX9_hearQuestion cX9_hearQuestion 5 none 3 70 [.ref this, va_rf p0] w none w' True := by
  refine wd_ofW (own := RX9) (nm := "hearQuestion") (ks := [(some this, 10), (p0, 1)]) (lv := [(0, .ref this), (1, va_rf p0)]) (by decide) rfl rfl (by simp [lg_sl, va_rf_cat, Value.category]) (by simp [lv_args, va_rf_cat, Value.category]) (List.forall_mem_cons.mpr ⟨⟨by decide, fun q hq => by cases hq; exact k_this⟩, (List.forall_mem_cons.mpr ⟨⟨by decide, k_p0⟩, (fun _ hq => absurd hq List.not_mem_nil)⟩)⟩) ?_
  intro p e s m args below meth c R H ls C hR hZ hl
  obtain ⟨hx, hb, hr, hml, hts, hown, hlocks, hmn, hK⟩ := id C
  unfold f_X9_hearQuestion at hf
  refine lv_aload_n hx hb dX9_hearQuestion_0 rfl (lv_at hl 0 rfl) ?_
  refine z_getR (tk := 5) fd_904 rfl hx hb hts hown hK hZ (hZ.k 0 rfl rfl) tw_251 dX9_hearQuestion_1 (fun hZ => ?_)
  refine z_aload_n hx hb dX9_hearQuestion_4 rfl (lv_at hl 1 rfl) ?_
  obtain ⟨a1, ha1, hf⟩ := Option.bind_eq_some_iff.mp hf
  subst ha1
  have hl : lv_has ls 5 [(0, .ref this), (1, .ref a1)] := hl
  have hZ : wd_Z E w R s w H locs cells slots [((wd_R w 904 this), 6), (some this, 10), (some a1, 1)] := hZ
  refine z_getI fd_4 rfl hx hb hts hown hK hZ (hZ.k 2 rfl rfl) tw_821 dX9_hearQuestion_5 ?_
  obtain ⟨a2, ha2, hf⟩ := Option.bind_eq_some_iff.mp hf
  have hZ := hZ.add (r := some a2) (k := 6) (by decide) (fun q hq => by cases hq; exact hZ.k 0 rfl ha2)
  rw [ha2]
  obtain ⟨r5, w3, hc4, hf⟩ := wd_b2_e hf
  refine z_callV (ci := 5) (As := [.int (wd_I w 4 a1)]) (rest := []) (c_X5_portWithAddress l E n w a2 (wd_I w 4 a1) r5 w3 (hZ.k 0 rfl rfl) hc4) mo_X5_portWithAddress rfl (by decide) rfl tw_547 tw_548 tw_878 hx hb hml hts hown hK ⟨Nat.le_trans (by decide) hR.1, Nat.le_trans (by decide) hR.2⟩ hZ (hZ.k 0 rfl rfl) rfl hl.1 rfl (Nat.le_of_ble_eq_true rfl) rfl dX9_hearQuestion_8 (fun H locs cells slots hX hZ => ?_)
  have hZ := hZ.add (by decide) hX
  refine z_astore_n (lv' := [(2, va_rf r5), (0, .ref this), (1, .ref a1)]) hx hb dX9_hearQuestion_11 rfl hl (by decide) rfl (fun ls hl => ?_)
  refine lv_aload_n hx hb dX9_hearQuestion_12 rfl (lv_at hl 1 rfl) ?_
  refine z_getR (tk := 5) fd_904 rfl hx hb hts hown hK hZ (hZ.k 3 rfl rfl) tw_251 dX9_hearQuestion_13 (fun hZ => ?_)
  refine lv_aload_n hx hb dX9_hearQuestion_16 rfl (lv_at hl 2 rfl) ?_
  refine z_getI fd_1 rfl hx hb hts hown hK hZ (hZ.k 5 rfl rfl) tw_812 dX9_hearQuestion_17 ?_
  obtain ⟨a6, ha6, hf⟩ := Option.bind_eq_some_iff.mp hf
  have hZ := hZ.add (r := some a6) (k := 6) (by decide) (fun q hq => by cases hq; exact hZ.k 0 rfl ha6)
  rw [ha6]
  obtain ⟨r9, w7, hc8, hf⟩ := wd_b2_e hf
  refine z_callV (ci := 5) (As := [.int (wd_I w3 1 a1)]) (rest := []) (c_X5_portWithMark l E n w3 a6 (wd_I w3 1 a1) r9 w7 (hZ.k 0 rfl rfl) hc8) mo_X5_portWithMark rfl (by decide) rfl tw_484 tw_485 tw_879 hx hb hml hts hown hK ⟨Nat.le_trans (by decide) hR.1, Nat.le_trans (by decide) hR.2⟩ hZ (hZ.k 0 rfl rfl) rfl hl.1 rfl (Nat.le_of_ble_eq_true rfl) rfl dX9_hearQuestion_20 (fun H locs cells slots hX hZ => ?_)
  have hZ := hZ.add (by decide) hX
  refine z_astore_n (lv' := [(3, va_rf r9), (2, va_rf r5), (0, .ref this), (1, .ref a1)]) hx hb dX9_hearQuestion_23 rfl hl (by decide) (by simp [va_rf_cat, Value.category]) (fun ls hl => ?_)
  refine z_aload_n hx hb dX9_hearQuestion_24 rfl (lv_at hl 1 rfl) ?_
  refine z_ifnull (tgt := 48) hx hb dX9_hearQuestion_25 (by decide) (fun hn => ?_) (fun a10 ha10 => ?_)
  · have hf := wd_on_n hn hf
    subst hn
    have hl : lv_has ls 5 [(3, va_rf r9), (2, va_rf none), (0, .ref this), (1, .ref a1)] := hl
    have hZ : wd_Z E w R s w7 H locs cells slots [(r9, 8), (some a6, 6), ((wd_R w3 904 this), 6), (none, 8), (some a2, 6), ((wd_R w 904 this), 6), (some this, 10), (some a1, 1)] := hZ
    obtain rfl := Option.some.inj hf
    exact z_vret hx hb hr hlocks hZ trivial dX9_hearQuestion_48
  · have hf := wd_on_s ha10 hf
    subst ha10
    have hl : lv_has ls 5 [(3, va_rf r9), (2, .ref a10), (0, .ref this), (1, .ref a1)] := hl
    have hZ : wd_Z E w R s w7 H locs cells slots [(r9, 8), (some a6, 6), ((wd_R w3 904 this), 6), (some a10, 8), (some a2, 6), ((wd_R w 904 this), 6), (some this, 10), (some a1, 1)] := hZ
    refine z_aload_n hx hb dX9_hearQuestion_28 rfl (lv_at hl 0 rfl) ?_
    refine z_ifnull (tgt := 48) hx hb dX9_hearQuestion_29 (by decide) (fun hn => ?_) (fun a11 ha11 => ?_)
    · have hf := wd_on_n hn hf
      subst hn
      have hl : lv_has ls 5 [(3, va_rf none), (2, .ref a10), (0, .ref this), (1, .ref a1)] := hl
      have hZ : wd_Z E w R s w7 H locs cells slots [(none, 8), (some a6, 6), ((wd_R w3 904 this), 6), (some a10, 8), (some a2, 6), ((wd_R w 904 this), 6), (some this, 10), (some a1, 1)] := hZ
      obtain rfl := Option.some.inj hf
      exact z_vret hx hb hr hlocks hZ trivial dX9_hearQuestion_48
    · have hf := wd_on_s ha11 hf
      subst ha11
      have hl : lv_has ls 5 [(3, .ref a11), (2, .ref a10), (0, .ref this), (1, .ref a1)] := hl
      have hZ : wd_Z E w R s w7 H locs cells slots [(some a11, 8), (some a6, 6), ((wd_R w3 904 this), 6), (some a10, 8), (some a2, 6), ((wd_R w 904 this), 6), (some this, 10), (some a1, 1)] := hZ
      refine lv_aload_n hx hb dX9_hearQuestion_32 rfl (lv_at hl 1 rfl) ?_
      refine lv_aload_n hx hb dX9_hearQuestion_33 rfl (lv_at hl 0 rfl) ?_
      refine lv_acmp_eq (rx := (some a10)) (ry := (some a11)) (tgt := 48) hx hb dX9_hearQuestion_34 (by decide) (fun h12 => ?_) (fun h12 => ?_)
      · have hf := wd_ite_p h12 hf
        obtain rfl := Option.some.inj hf
        exact z_vret hx hb hr hlocks hZ trivial dX9_hearQuestion_48
      · have hf := wd_ite_n h12 hf
        refine lv_aload_n hx hb dX9_hearQuestion_37 rfl (lv_at hl 1 rfl) ?_
        refine z_getI fd_701 rfl hx hb hts hown hK hZ (hZ.k 3 rfl rfl) tw_565 dX9_hearQuestion_38 ?_
        refine lv_aload_n hx hb dX9_hearQuestion_41 rfl (lv_at hl 3 rfl) ?_
        refine z_getI fd_0 rfl hx hb hts hown hK hZ (hZ.k 7 rfl rfl) tw_809 dX9_hearQuestion_42 ?_
        refine lv_icmp_eq (tgt := 49) hx hb dX9_hearQuestion_45 (by decide) (fun h13 => ?_) (fun h13 => ?_)
        · have hf := wd_ite_p h13 hf
          refine lv_aload_n hx hb dX9_hearQuestion_49 rfl (lv_at hl 2 rfl) ?_
          refine lv_aload_n hx hb dX9_hearQuestion_50 rfl (lv_at hl 1 rfl) ?_
          refine z_getI fd_700 rfl hx hb hts hown hK hZ (hZ.k 3 rfl rfl) tw_562 dX9_hearQuestion_51 ?_
          obtain ⟨r16, w14, hc15, hf⟩ := wd_b2_e hf
          refine z_callV (ci := 9) (As := [.int (wd_I w7 700 a10)]) (rest := []) (c_X9_hostWithMark l E n w7 this (wd_I w7 700 a10) r16 w14 (hZ.k 6 rfl rfl) hc15) mo_X9_hostWithMark rfl (by decide) rfl tw_882 tw_19 tw_880 hx hb hml hts hown hK ⟨Nat.le_trans (by decide) hR.1, Nat.le_trans (by decide) hR.2⟩ hZ (hZ.k 6 rfl rfl) rfl hl.1 rfl (Nat.le_of_ble_eq_true rfl) rfl dX9_hearQuestion_54 (fun H locs cells slots hX hZ => ?_)
          have hZ := hZ.add (by decide) hX
          refine z_astore (lv' := [(4, va_rf r16), (3, .ref a11), (2, .ref a10), (0, .ref this), (1, .ref a1)]) hx hb dX9_hearQuestion_57 hl (by decide) rfl (fun ls hl => ?_)
          refine z_aload hx hb dX9_hearQuestion_59 (lv_at hl 0 rfl) ?_
          refine z_ifnull (tgt := 95) hx hb dX9_hearQuestion_61 (by decide) (fun hn => ?_) (fun a17 ha17 => ?_)
          · have hf := wd_on_n hn hf
            subst hn
            have hl : lv_has ls 5 [(4, va_rf none), (3, .ref a11), (2, .ref a10), (0, .ref this), (1, .ref a1)] := hl
            have hZ : wd_Z E w R s w14 H locs cells slots [(none, 3), (some a11, 8), (some a6, 6), ((wd_R w3 904 this), 6), (some a10, 8), (some a2, 6), ((wd_R w 904 this), 6), (some this, 10), (some a1, 1)] := hZ
            obtain rfl := Option.some.inj hf
            exact z_vret hx hb hr hlocks hZ trivial dX9_hearQuestion_95
          · have hf := wd_on_s ha17 hf
            subst ha17
            have hl : lv_has ls 5 [(4, .ref a17), (3, .ref a11), (2, .ref a10), (0, .ref this), (1, .ref a1)] := hl
            have hZ : wd_Z E w R s w14 H locs cells slots [(some a17, 3), (some a11, 8), (some a6, 6), ((wd_R w3 904 this), 6), (some a10, 8), (some a2, 6), ((wd_R w 904 this), 6), (some this, 10), (some a1, 1)] := hZ
            refine lv_aload hx hb dX9_hearQuestion_64 (lv_at hl 0 rfl) ?_
            refine lv_aload_n hx hb dX9_hearQuestion_66 rfl (lv_at hl 1 rfl) ?_
            refine z_getI fd_702 rfl hx hb hts hown hK hZ (hZ.k 1 rfl rfl) tw_568 dX9_hearQuestion_67 ?_
            refine lv_aload_n hx hb dX9_hearQuestion_70 rfl (lv_at hl 1 rfl) ?_
            refine z_getI fd_700 rfl hx hb hts hown hK hZ (hZ.k 1 rfl rfl) tw_562 dX9_hearQuestion_71 ?_
            obtain ⟨w18, hc19, hf⟩ := Option.bind_eq_some_iff.mp hf
            refine z_callV (ci := 2) (As := [.int (wd_I w14 702 a11), .int (wd_I w14 700 a11)]) (rest := []) (c_X2_learn l E n w14 a17 (wd_I w14 702 a11) (wd_I w14 700 a11) w18 (hZ.k 0 rfl rfl) hc19) mo_X2_learn rfl (by decide) rfl tw_886 tw_887 tw_885 hx hb hml hts hown hK ⟨Nat.le_trans (by decide) hR.1, Nat.le_trans (by decide) hR.2⟩ hZ (hZ.k 0 rfl rfl) rfl hl.1 rfl (Nat.le_of_ble_eq_true rfl) rfl dX9_hearQuestion_74 (fun H locs cells slots hX hZ => ?_)
            refine lv_aload_n hx hb dX9_hearQuestion_77 rfl (lv_at hl 3 rfl) ?_
            refine z_getR (tk := 8) fd_900 rfl hx hb hts hown hK hZ (hZ.k 7 rfl rfl) tw_243 dX9_hearQuestion_78 (fun hZ => ?_)
            refine lv_iconst (v := 2) hx hb dX9_hearQuestion_81 (by decide) ?_
            refine lv_aload_n hx hb dX9_hearQuestion_82 rfl (lv_at hl 2 rfl) ?_
            refine lv_aload_n hx hb dX9_hearQuestion_83 rfl (lv_at hl 1 rfl) ?_
            refine z_getI fd_700 rfl hx hb hts hown hK hZ (hZ.k 2 rfl rfl) tw_562 dX9_hearQuestion_84 ?_
            refine lv_aload_n hx hb dX9_hearQuestion_87 rfl (lv_at hl 2 rfl) ?_
            refine z_getI fd_702 rfl hx hb hts hown hK hZ (hZ.k 5 rfl rfl) tw_568 dX9_hearQuestion_88 ?_
            refine z_null hx hb dX9_hearQuestion_91 ?_
            obtain ⟨a20, ha20, hf⟩ := Option.bind_eq_some_iff.mp hf
            have hZ := hZ.add (r := some a20) (k := 9) (by decide) (fun q hq => by cases hq; exact hZ.k 0 rfl ha20)
            rw [ha20]
            obtain ⟨w21, hc22, hf⟩ := Option.bind_eq_some_iff.mp hf
            refine z_callV (ci := 8) (As := [.int (2 : Int32), va_rf (some a10), .int (wd_I w18 700 a11), .int (wd_I w18 702 a10), va_rf none]) (rest := []) (c_X8_add l E n w18 a20 (2 : Int32) (some a10) (wd_I w18 700 a11) (wd_I w18 702 a10) none w21 (hZ.k 0 rfl rfl) (fun q hq => by cases hq; exact (hZ.k 6 rfl rfl)) (fun q hq => by cases hq) hc22) mo_X8_add rfl (by decide) rfl tw_799 tw_800 tw_798 hx hb hml hts hown hK ⟨Nat.le_trans (by decide) hR.1, Nat.le_trans (by decide) hR.2⟩ hZ (hZ.k 0 rfl rfl) rfl hl.1 rfl (Nat.le_of_ble_eq_true rfl) rfl dX9_hearQuestion_92 (fun H locs cells slots hX hZ => ?_)
            obtain rfl := Option.some.inj hf
            exact z_vret hx hb hr hlocks hZ trivial dX9_hearQuestion_95
        · have hf := wd_ite_n h13 hf
          obtain rfl := Option.some.inj hf
          exact z_vret hx hb hr hlocks hZ trivial dX9_hearQuestion_48

def f_X9_hearReply_j85 (n : Nat) (rec31 : Nat → Option Nat → Option Nat → Option Nat → Wd → Option Wd) (x0 : Nat) (x1 : Option Nat) (x2 : Option Nat) (x4 : Option Nat) (w : Wd) : Option Wd :=
  rec31 x0 x1 x2 x4 w
def f_X9_hearReply_j80 (n : Nat) (rec31 : Nat → Option Nat → Option Nat → Option Nat → Wd → Option Wd) (x0 : Nat) (x1 : Option Nat) (x2 : Option Nat) (x3 : Option Nat) (x4 : Option Nat) (w : Wd) : Option Wd :=
  Option.bind x2 fun a16 =>
  Option.bind (f_X2_putToWait n w a16 x3) fun w17 =>
  f_X9_hearReply_j85 n rec31 x0 x1 (some a16) x4 w17
def f_X9_hearReply_l31 (n : Nat) (rec31 : Nat → Option Nat → Option Nat → Option Nat → Wd → Option Wd) (x0 : Nat) (x1 : Option Nat) (x2 : Option Nat) (x3 : Option Nat) (w : Wd) : Option Wd :=
  wd_on x3 (
    some w)
    (fun a11 =>
    wd_let (wd_R w 413 a11) fun v12 =>
    Option.bind x1 fun a14 =>
    if (wd_I w 411 a11) = (wd_I w 4 a14) then
      wd_on (wd_R w 412 a11) (
        f_X9_hearReply_j80 n rec31 x0 (some a14) x2 (some a11) v12 w)
        (fun a19 =>
        Option.bind (wd_R w 900 x0) fun a20 =>
        Option.bind (f_X8_add n w a20 (0 : Int32) (wd_R w 412 a11) (wd_I w 1 a14) (-1 : Int32) (some a11)) fun w21 =>
        f_X9_hearReply_j85 n rec31 x0 (some a14) x2 v12 w21)
    else
      f_X9_hearReply_j80 n rec31 x0 (some a14) x2 (some a11) v12 w)
def f_X9_hearReply (n : Nat) (w : Wd) (this : Nat) (p0 : Option Nat) : Option Wd :=
  Option.bind p0 fun a1 =>
  wd_b2 (f_X9_hostWithMark n w this (wd_I w 2 a1)) fun r4 w2 =>
  wd_on r4 (
    some w2)
    (fun a5 =>
    Option.bind (f_X2_learn n w2 a5 (wd_I w2 4 a1) (wd_I w2 1 a1)) fun w6 =>
    wd_b2 (f_X2_takeWaiting n w6 a5) fun r10 w8 =>
    wd_lp5 (f_X9_hearReply_l31 n) n this (some a1) (some a5) r10 w8)
set_option maxHeartbeats 4000000 in
set_option maxRecDepth 100000 in
theorem v_X9_hearReply_j85 {p : Program} {l : Launch} {e : Env} {R : Room} {s : State} {m : MethodId} {args : Array Value} {below : List Frame} {meth : Method} {c : Code} {E : wd_E} {w0 : Wd} {w' : Wd} (n : Nat) (C : wd_X p s m args meth c cX9_hearReply RX9 5 none "hearReply" E) (hR : 3 ≤ R.frames ∧ 70 ≤ R.locals) (rec31 : Nat → Option Nat → Option Nat → Option Nat → Wd → Option Wd) (hrec31 : ∀ (x0_ : Nat) (x1_ : Option Nat) (x2_ : Option Nat) (x3_ : Option Nat) (w_ : Wd) (H : Heap) (locs : List Loc) (cells slots : Nat) (ls : Array Slot), wd_Z E w0 R s w_ H locs cells slots [(some x0_, 10), (x1_, 1), (x2_, 3), (x3_, 5)] → lv_has ls 5 [(0, .ref x0_), (1, va_rf x1_), (2, va_rf x2_), (3, va_rf x3_)] → rec31 x0_ x1_ x2_ x3_ w_ = some w' → W p l e R s m args below meth c H locs cells slots (wd_fin E w0 none w' True R args s below) (F0 m 31 ls [])) (x0 : Nat) (x1 : Option Nat) (x2 : Option Nat) (x4 : Option Nat) (w : Wd) (H : Heap) (locs : List Loc) (cells slots : Nat) (ls : Array Slot) (hZ : wd_Z E w0 R s w H locs cells slots [(some x0, 10), (x1, 1), (x2, 3), (x4, 5)]) (hl : lv_has ls 5 [(0, .ref x0), (1, va_rf x1), (2, va_rf x2), (4, va_rf x4)]) (hf : f_X9_hearReply_j85 n rec31 x0 x1 x2 x4 w = some w') : W p l e R s m args below meth c H locs cells slots (wd_fin E w0 none w' True R args s below) (F0 m 85 ls []) := by
  obtain ⟨hx, hb, hr, hml, hts, hown, hlocks, hmn, hK⟩ := id C
  unfold f_X9_hearReply_j85 at hf
  refine z_aload hx hb dX9_hearReply_85 (lv_at hl 3 rfl) ?_
  refine z_astore_n (lv' := [(3, va_rf x4), (0, .ref x0), (1, va_rf x1), (2, va_rf x2), (4, va_rf x4)]) hx hb dX9_hearReply_87 rfl hl (by decide) (by simp [va_rf_cat, Value.category]) (fun ls hl => ?_)
  refine lv_goto (tgt := 31) hx hb dX9_hearReply_88 (by decide) ?_
  exact hrec31 x0 x1 x2 x4 w _ _ _ _ _ ⟨hZ.1, hZ.2.1, hZ.2.2.1, hZ.2.2.2.1, (List.forall_mem_cons.mpr ⟨⟨by decide, (fun q hq => by cases hq; exact (hZ.k 0 rfl rfl))⟩, (List.forall_mem_cons.mpr ⟨⟨by decide, (fun q hq => hZ.k 1 rfl hq)⟩, (List.forall_mem_cons.mpr ⟨⟨by decide, (fun q hq => hZ.k 2 rfl hq)⟩, (List.forall_mem_cons.mpr ⟨⟨by decide, (fun q hq => hZ.k 3 rfl hq)⟩, (fun _ hq => absurd hq List.not_mem_nil)⟩)⟩)⟩)⟩), hZ.2.2.2.2.2⟩ (lv_sub hl [1, 2, 3, 0] rfl) hf

set_option maxHeartbeats 4000000 in
set_option maxRecDepth 100000 in
theorem v_X9_hearReply_j80 {p : Program} {l : Launch} {e : Env} {R : Room} {s : State} {m : MethodId} {args : Array Value} {below : List Frame} {meth : Method} {c : Code} {E : wd_E} {w0 : Wd} {w' : Wd} (n : Nat) (C : wd_X p s m args meth c cX9_hearReply RX9 5 none "hearReply" E) (hR : 3 ≤ R.frames ∧ 70 ≤ R.locals) (rec31 : Nat → Option Nat → Option Nat → Option Nat → Wd → Option Wd) (hrec31 : ∀ (x0_ : Nat) (x1_ : Option Nat) (x2_ : Option Nat) (x3_ : Option Nat) (w_ : Wd) (H : Heap) (locs : List Loc) (cells slots : Nat) (ls : Array Slot), wd_Z E w0 R s w_ H locs cells slots [(some x0_, 10), (x1_, 1), (x2_, 3), (x3_, 5)] → lv_has ls 5 [(0, .ref x0_), (1, va_rf x1_), (2, va_rf x2_), (3, va_rf x3_)] → rec31 x0_ x1_ x2_ x3_ w_ = some w' → W p l e R s m args below meth c H locs cells slots (wd_fin E w0 none w' True R args s below) (F0 m 31 ls [])) (x0 : Nat) (x1 : Option Nat) (x2 : Option Nat) (x3 : Option Nat) (x4 : Option Nat) (w : Wd) (H : Heap) (locs : List Loc) (cells slots : Nat) (ls : Array Slot) (hZ : wd_Z E w0 R s w H locs cells slots [(some x0, 10), (x1, 1), (x2, 3), (x3, 5), (x4, 5)]) (hl : lv_has ls 5 [(0, .ref x0), (1, va_rf x1), (2, va_rf x2), (3, va_rf x3), (4, va_rf x4)]) (hf : f_X9_hearReply_j80 n rec31 x0 x1 x2 x3 x4 w = some w') : W p l e R s m args below meth c H locs cells slots (wd_fin E w0 none w' True R args s below) (F0 m 80 ls []) := by
  obtain ⟨hx, hb, hr, hml, hts, hown, hlocks, hmn, hK⟩ := id C
  unfold f_X9_hearReply_j80 at hf
  refine z_aload_n hx hb dX9_hearReply_80 rfl (lv_at hl 2 rfl) ?_
  refine z_aload_n hx hb dX9_hearReply_81 rfl (lv_at hl 3 rfl) ?_
  obtain ⟨a16, ha16, hf⟩ := Option.bind_eq_some_iff.mp hf
  subst ha16
  have hl : lv_has ls 5 [(0, .ref x0), (1, va_rf x1), (2, .ref a16), (3, va_rf x3), (4, va_rf x4)] := hl
  have hZ : wd_Z E w0 R s w H locs cells slots [(some x0, 10), (x1, 1), (some a16, 3), (x3, 5), (x4, 5)] := hZ
  obtain ⟨w17, hc18, hf⟩ := Option.bind_eq_some_iff.mp hf
  refine z_callV (ci := 2) (As := [va_rf x3]) (rest := []) (c_X2_putToWait l E n w a16 x3 w17 (hZ.k 2 rfl rfl) (fun q hq => hZ.k 3 rfl hq) hc18) mo_X2_putToWait rfl (by decide) rfl tw_843 tw_844 tw_842 hx hb hml hts hown hK ⟨Nat.le_trans (by decide) hR.1, Nat.le_trans (by decide) hR.2⟩ hZ (hZ.k 2 rfl rfl) rfl hl.1 rfl (Nat.le_of_ble_eq_true rfl) rfl dX9_hearReply_82 (fun H locs cells slots hX hZ => ?_)
  exact v_X9_hearReply_j85 n C hR rec31 hrec31 x0 x1 (some a16) x4 w17 _ _ _ _ _ ⟨hZ.1, hZ.2.1, hZ.2.2.1, hZ.2.2.2.1, (List.forall_mem_cons.mpr ⟨⟨by decide, (fun q hq => by cases hq; exact (hZ.k 0 rfl rfl))⟩, (List.forall_mem_cons.mpr ⟨⟨by decide, (fun q hq => hZ.k 1 rfl hq)⟩, (List.forall_mem_cons.mpr ⟨⟨by decide, (fun q hq => by cases hq; exact (hZ.k 2 rfl rfl))⟩, (List.forall_mem_cons.mpr ⟨⟨by decide, (fun q hq => hZ.k 4 rfl hq)⟩, (fun _ hq => absurd hq List.not_mem_nil)⟩)⟩)⟩)⟩), hZ.2.2.2.2.2⟩ (lv_sub hl [0, 1, 2, 4] rfl) hf

set_option maxHeartbeats 4000000 in
set_option maxRecDepth 100000 in
theorem v_X9_hearReply_b31 {p : Program} {l : Launch} {e : Env} {R : Room} {s : State} {m : MethodId} {args : Array Value} {below : List Frame} {meth : Method} {c : Code} {E : wd_E} {w0 : Wd} {w' : Wd} (n : Nat) (C : wd_X p s m args meth c cX9_hearReply RX9 5 none "hearReply" E) (hR : 3 ≤ R.frames ∧ 70 ≤ R.locals) (rec31 : Nat → Option Nat → Option Nat → Option Nat → Wd → Option Wd) (hrec31 : ∀ (x0_ : Nat) (x1_ : Option Nat) (x2_ : Option Nat) (x3_ : Option Nat) (w_ : Wd) (H : Heap) (locs : List Loc) (cells slots : Nat) (ls : Array Slot), wd_Z E w0 R s w_ H locs cells slots [(some x0_, 10), (x1_, 1), (x2_, 3), (x3_, 5)] → lv_has ls 5 [(0, .ref x0_), (1, va_rf x1_), (2, va_rf x2_), (3, va_rf x3_)] → rec31 x0_ x1_ x2_ x3_ w_ = some w' → W p l e R s m args below meth c H locs cells slots (wd_fin E w0 none w' True R args s below) (F0 m 31 ls [])) (x0 : Nat) (x1 : Option Nat) (x2 : Option Nat) (x3 : Option Nat) (w : Wd) (H : Heap) (locs : List Loc) (cells slots : Nat) (ls : Array Slot) (hZ : wd_Z E w0 R s w H locs cells slots [(some x0, 10), (x1, 1), (x2, 3), (x3, 5)]) (hl : lv_has ls 5 [(0, .ref x0), (1, va_rf x1), (2, va_rf x2), (3, va_rf x3)]) (hf : f_X9_hearReply_l31 n rec31 x0 x1 x2 x3 w = some w') : W p l e R s m args below meth c H locs cells slots (wd_fin E w0 none w' True R args s below) (F0 m 31 ls []) := by
  obtain ⟨hx, hb, hr, hml, hts, hown, hlocks, hmn, hK⟩ := id C
  unfold f_X9_hearReply_l31 at hf
  refine z_aload_n hx hb dX9_hearReply_31 rfl (lv_at hl 3 rfl) ?_
  refine z_ifnull (tgt := 91) hx hb dX9_hearReply_32 (by decide) (fun hn => ?_) (fun a11 ha11 => ?_)
  · have hf := wd_on_n hn hf
    subst hn
    have hl : lv_has ls 5 [(0, .ref x0), (1, va_rf x1), (2, va_rf x2), (3, va_rf none)] := hl
    have hZ : wd_Z E w0 R s w H locs cells slots [(some x0, 10), (x1, 1), (x2, 3), (none, 5)] := hZ
    obtain rfl := Option.some.inj hf
    exact z_vret hx hb hr hlocks hZ trivial dX9_hearReply_91
  · have hf := wd_on_s ha11 hf
    subst ha11
    have hl : lv_has ls 5 [(0, .ref x0), (1, va_rf x1), (2, va_rf x2), (3, .ref a11)] := hl
    have hZ : wd_Z E w0 R s w H locs cells slots [(some x0, 10), (x1, 1), (x2, 3), (some a11, 5)] := hZ
    refine lv_aload_n hx hb dX9_hearReply_35 rfl (lv_at hl 3 rfl) ?_
    refine z_getR (tk := 4) fd_413 rfl hx hb hts hown hK hZ (hZ.k 3 rfl rfl) tw_724 dX9_hearReply_36 (fun hZ => ?_)
    obtain ⟨v12, e13, hf⟩ := wd_let_e hf
    rw [e13]
    rw [e13] at hZ
    refine z_astore (lv' := [(4, va_rf v12), (0, .ref x0), (1, va_rf x1), (2, va_rf x2), (3, .ref a11)]) hx hb dX9_hearReply_39 hl (by decide) rfl (fun ls hl => ?_)
    refine lv_aload_n hx hb dX9_hearReply_41 rfl (lv_at hl 4 rfl) ?_
    refine z_getI fd_411 rfl hx hb hts hown hK hZ (hZ.k 4 rfl rfl) tw_720 dX9_hearReply_42 ?_
    refine z_aload_n hx hb dX9_hearReply_45 rfl (lv_at hl 2 rfl) ?_
    obtain ⟨a14, ha14, hf⟩ := Option.bind_eq_some_iff.mp hf
    subst ha14
    have hl : lv_has ls 5 [(4, va_rf v12), (0, .ref x0), (1, .ref a14), (2, va_rf x2), (3, .ref a11)] := hl
    have hZ : wd_Z E w0 R s w H locs cells slots [(v12, 5), (some x0, 10), (some a14, 1), (x2, 3), (some a11, 5)] := hZ
    refine z_getI fd_4 rfl hx hb hts hown hK hZ (hZ.k 2 rfl rfl) tw_821 dX9_hearReply_46 ?_
    refine lv_icmp_ne (tgt := 80) hx hb dX9_hearReply_49 (by decide) (fun h15 => ?_) (fun h15 => ?_)
    · have hf := wd_ite_n h15 hf
      exact v_X9_hearReply_j80 n C hR rec31 hrec31 x0 (some a14) x2 (some a11) v12 w _ _ _ _ _ ⟨hZ.1, hZ.2.1, hZ.2.2.1, hZ.2.2.2.1, (List.forall_mem_cons.mpr ⟨⟨by decide, (fun q hq => by cases hq; exact (hZ.k 1 rfl rfl))⟩, (List.forall_mem_cons.mpr ⟨⟨by decide, (fun q hq => by cases hq; exact (hZ.k 2 rfl rfl))⟩, (List.forall_mem_cons.mpr ⟨⟨by decide, (fun q hq => hZ.k 3 rfl hq)⟩, (List.forall_mem_cons.mpr ⟨⟨by decide, (fun q hq => by cases hq; exact (hZ.k 4 rfl rfl))⟩, (List.forall_mem_cons.mpr ⟨⟨by decide, (fun q hq => hZ.k 0 rfl hq)⟩, (fun _ hq => absurd hq List.not_mem_nil)⟩)⟩)⟩)⟩)⟩), hZ.2.2.2.2.2⟩ (lv_sub hl [1, 2, 3, 4, 0] rfl) hf
    · have hf := wd_ite_p h15 hf
      refine lv_aload_n hx hb dX9_hearReply_52 rfl (lv_at hl 4 rfl) ?_
      refine z_getR (tk := 7) fd_412 rfl hx hb hts hown hK hZ (hZ.k 4 rfl rfl) tw_721 dX9_hearReply_53 (fun hZ => ?_)
      refine z_ifnull (tgt := 80) hx hb dX9_hearReply_56 (by decide) (fun hn => ?_) (fun a19 ha19 => ?_)
      · have hf := wd_on_n hn hf
        exact v_X9_hearReply_j80 n C hR rec31 hrec31 x0 (some a14) x2 (some a11) v12 w _ _ _ _ _ ⟨hZ.1, hZ.2.1, hZ.2.2.1, hZ.2.2.2.1, (List.forall_mem_cons.mpr ⟨⟨by decide, (fun q hq => by cases hq; exact (hZ.k 2 rfl rfl))⟩, (List.forall_mem_cons.mpr ⟨⟨by decide, (fun q hq => by cases hq; exact (hZ.k 3 rfl rfl))⟩, (List.forall_mem_cons.mpr ⟨⟨by decide, (fun q hq => hZ.k 4 rfl hq)⟩, (List.forall_mem_cons.mpr ⟨⟨by decide, (fun q hq => by cases hq; exact (hZ.k 5 rfl rfl))⟩, (List.forall_mem_cons.mpr ⟨⟨by decide, (fun q hq => hZ.k 1 rfl hq)⟩, (fun _ hq => absurd hq List.not_mem_nil)⟩)⟩)⟩)⟩)⟩), hZ.2.2.2.2.2⟩ (lv_sub hl [1, 2, 3, 4, 0] rfl) hf
      · have hf := wd_on_s ha19 hf
        refine lv_aload_n hx hb dX9_hearReply_59 rfl (lv_at hl 1 rfl) ?_
        refine z_getR (tk := 8) fd_900 rfl hx hb hts hown hK hZ (hZ.k 2 rfl rfl) tw_243 dX9_hearReply_60 (fun hZ => ?_)
        refine lv_iconst (v := 0) hx hb dX9_hearReply_63 (by decide) ?_
        refine lv_aload_n hx hb dX9_hearReply_64 rfl (lv_at hl 4 rfl) ?_
        refine z_getR (tk := 7) fd_412 rfl hx hb hts hown hK hZ (hZ.k 6 rfl rfl) tw_721 dX9_hearReply_65 (fun hZ => ?_)
        refine lv_aload_n hx hb dX9_hearReply_68 rfl (lv_at hl 2 rfl) ?_
        refine z_getI fd_1 rfl hx hb hts hown hK hZ (hZ.k 5 rfl rfl) tw_812 dX9_hearReply_69 ?_
        refine lv_iconst (v := -1) hx hb dX9_hearReply_72 (by decide) ?_
        refine lv_aload_n hx hb dX9_hearReply_73 rfl (lv_at hl 4 rfl) ?_
        obtain ⟨a20, ha20, hf⟩ := Option.bind_eq_some_iff.mp hf
        have hZ := hZ.add (r := some a20) (k := 9) (by decide) (fun q hq => by cases hq; exact hZ.k 1 rfl ha20)
        rw [ha20]
        obtain ⟨w21, hc22, hf⟩ := Option.bind_eq_some_iff.mp hf
        refine z_callV (ci := 8) (As := [.int (0 : Int32), va_rf (wd_R w 412 a11), .int (wd_I w 1 a14), .int (-1 : Int32), va_rf (some a11)]) (rest := []) (c_X8_add l E n w a20 (0 : Int32) (wd_R w 412 a11) (wd_I w 1 a14) (-1 : Int32) (some a11) w21 (hZ.k 0 rfl rfl) (fun q hq => hZ.k 1 rfl hq) (fun q hq => by cases hq; exact (hZ.k 8 rfl rfl)) hc22) mo_X8_add rfl (by decide) rfl tw_799 tw_800 tw_798 hx hb hml hts hown hK ⟨Nat.le_trans (by decide) hR.1, Nat.le_trans (by decide) hR.2⟩ hZ (hZ.k 0 rfl rfl) rfl hl.1 rfl (Nat.le_of_ble_eq_true rfl) rfl dX9_hearReply_74 (fun H locs cells slots hX hZ => ?_)
        refine lv_goto (tgt := 85) hx hb dX9_hearReply_77 (by decide) ?_
        exact v_X9_hearReply_j85 n C hR rec31 hrec31 x0 (some a14) x2 v12 w21 _ _ _ _ _ ⟨hZ.1, hZ.2.1, hZ.2.2.1, hZ.2.2.2.1, (List.forall_mem_cons.mpr ⟨⟨by decide, (fun q hq => by cases hq; exact (hZ.k 5 rfl rfl))⟩, (List.forall_mem_cons.mpr ⟨⟨by decide, (fun q hq => by cases hq; exact (hZ.k 6 rfl rfl))⟩, (List.forall_mem_cons.mpr ⟨⟨by decide, (fun q hq => hZ.k 7 rfl hq)⟩, (List.forall_mem_cons.mpr ⟨⟨by decide, (fun q hq => hZ.k 4 rfl hq)⟩, (fun _ hq => absurd hq List.not_mem_nil)⟩)⟩)⟩)⟩), hZ.2.2.2.2.2⟩ (lv_sub hl [1, 2, 3, 0] rfl) hf

theorem v_X9_hearReply_l31 {p : Program} {l : Launch} {e : Env} {R : Room} {s : State} {m : MethodId} {args : Array Value} {below : List Frame} {meth : Method} {c : Code} {E : wd_E} {w0 : Wd} {w' : Wd} (n : Nat) (C : wd_X p s m args meth c cX9_hearReply RX9 5 none "hearReply" E) (hR : 3 ≤ R.frames ∧ 70 ≤ R.locals) : ∀ (k : Nat) (x0 : Nat) (x1 : Option Nat) (x2 : Option Nat) (x3 : Option Nat) (w : Wd) (H : Heap) (locs : List Loc) (cells slots : Nat) (ls : Array Slot), wd_Z E w0 R s w H locs cells slots [(some x0, 10), (x1, 1), (x2, 3), (x3, 5)] → lv_has ls 5 [(0, .ref x0), (1, va_rf x1), (2, va_rf x2), (3, va_rf x3)] → wd_lp5 (f_X9_hearReply_l31 n) k x0 x1 x2 x3 w = some w' → W p l e R s m args below meth c H locs cells slots (wd_fin E w0 none w' True R args s below) (F0 m 31 ls []) := by
  intro k
  induction k with
  | zero => intro _ _ _ _ _ _ _ _ _ _ _ _ hf; cases hf
  | succ k ih =>
    intro x0 x1 x2 x3 w H locs cells slots ls hZ hl hf
    exact v_X9_hearReply_b31 n C hR (wd_lp5 (f_X9_hearReply_l31 n) k) ih x0 x1 x2 x3 w H locs cells slots ls hZ hl hf

set_option maxHeartbeats 4000000 in
set_option maxRecDepth 100000 in
theorem c_X9_hearReply (l : Launch) (E : wd_E) (n : Nat) (w : Wd) (this : Nat) (p0 : Option Nat) (w' : Wd) (k_this : wd_K w this = 10) (k_p0 : ∀ q, p0 = some q → wd_K w q = 1) (hf : f_X9_hearReply n w this p0 = some w') : wd_C l E yX9_hearReply cX9_hearReply 5 none 3 70 [.ref this, va_rf p0] w none w' True := by
  refine wd_ofW (own := RX9) (nm := "hearReply") (ks := [(some this, 10), (p0, 1)]) (lv := [(0, .ref this), (1, va_rf p0)]) (by decide) rfl rfl (by simp [lg_sl, va_rf_cat, Value.category]) (by simp [lv_args, va_rf_cat, Value.category]) (List.forall_mem_cons.mpr ⟨⟨by decide, fun q hq => by cases hq; exact k_this⟩, (List.forall_mem_cons.mpr ⟨⟨by decide, k_p0⟩, (fun _ hq => absurd hq List.not_mem_nil)⟩)⟩) ?_
  intro p e s m args below meth c R H ls C hR hZ hl
  obtain ⟨hx, hb, hr, hml, hts, hown, hlocks, hmn, hK⟩ := id C
  unfold f_X9_hearReply at hf
  refine lv_aload_n hx hb dX9_hearReply_0 rfl (lv_at hl 0 rfl) ?_
  refine z_aload_n hx hb dX9_hearReply_1 rfl (lv_at hl 1 rfl) ?_
  obtain ⟨a1, ha1, hf⟩ := Option.bind_eq_some_iff.mp hf
  subst ha1
  have hl : lv_has ls 5 [(0, .ref this), (1, .ref a1)] := hl
  have hZ : wd_Z E w R s w H locs cells slots [(some this, 10), (some a1, 1)] := hZ
  refine z_getI fd_2 rfl hx hb hts hown hK hZ (hZ.k 1 rfl rfl) tw_815 dX9_hearReply_2 ?_
  obtain ⟨r4, w2, hc3, hf⟩ := wd_b2_e hf
  refine z_callV (ci := 9) (As := [.int (wd_I w 2 a1)]) (rest := []) (c_X9_hostWithMark l E n w this (wd_I w 2 a1) r4 w2 (hZ.k 0 rfl rfl) hc3) mo_X9_hostWithMark rfl (by decide) rfl tw_882 tw_19 tw_880 hx hb hml hts hown hK ⟨Nat.le_trans (by decide) hR.1, Nat.le_trans (by decide) hR.2⟩ hZ (hZ.k 0 rfl rfl) rfl hl.1 rfl (Nat.le_of_ble_eq_true rfl) rfl dX9_hearReply_5 (fun H locs cells slots hX hZ => ?_)
  have hZ := hZ.add (by decide) hX
  refine z_astore_n (lv' := [(2, va_rf r4), (0, .ref this), (1, .ref a1)]) hx hb dX9_hearReply_8 rfl hl (by decide) rfl (fun ls hl => ?_)
  refine z_aload_n hx hb dX9_hearReply_9 rfl (lv_at hl 0 rfl) ?_
  refine z_ifnonnull (tgt := 14) hx hb dX9_hearReply_10 (by decide) (fun a5 ha5 => ?_) (fun hn => ?_)
  · have hf := wd_on_s ha5 hf
    subst ha5
    have hl : lv_has ls 5 [(2, .ref a5), (0, .ref this), (1, .ref a1)] := hl
    have hZ : wd_Z E w R s w2 H locs cells slots [(some a5, 3), (some this, 10), (some a1, 1)] := hZ
    refine lv_aload_n hx hb dX9_hearReply_14 rfl (lv_at hl 0 rfl) ?_
    refine lv_aload_n hx hb dX9_hearReply_15 rfl (lv_at hl 2 rfl) ?_
    refine z_getI fd_4 rfl hx hb hts hown hK hZ (hZ.k 2 rfl rfl) tw_821 dX9_hearReply_16 ?_
    refine lv_aload_n hx hb dX9_hearReply_19 rfl (lv_at hl 2 rfl) ?_
    refine z_getI fd_1 rfl hx hb hts hown hK hZ (hZ.k 2 rfl rfl) tw_812 dX9_hearReply_20 ?_
    obtain ⟨w6, hc7, hf⟩ := Option.bind_eq_some_iff.mp hf
    refine z_callV (ci := 2) (As := [.int (wd_I w2 4 a1), .int (wd_I w2 1 a1)]) (rest := []) (c_X2_learn l E n w2 a5 (wd_I w2 4 a1) (wd_I w2 1 a1) w6 (hZ.k 0 rfl rfl) hc7) mo_X2_learn rfl (by decide) rfl tw_886 tw_887 tw_885 hx hb hml hts hown hK ⟨Nat.le_trans (by decide) hR.1, Nat.le_trans (by decide) hR.2⟩ hZ (hZ.k 0 rfl rfl) rfl hl.1 rfl (Nat.le_of_ble_eq_true rfl) rfl dX9_hearReply_23 (fun H locs cells slots hX hZ => ?_)
    refine lv_aload_n hx hb dX9_hearReply_26 rfl (lv_at hl 0 rfl) ?_
    obtain ⟨r10, w8, hc9, hf⟩ := wd_b2_e hf
    refine z_callV (ci := 2) (As := []) (rest := []) (c_X2_takeWaiting l E n w6 a5 r10 w8 (hZ.k 0 rfl rfl) hc9) mo_X2_takeWaiting rfl (by decide) rfl tw_894 tw_895 tw_893 hx hb hml hts hown hK ⟨Nat.le_trans (by decide) hR.1, Nat.le_trans (by decide) hR.2⟩ hZ (hZ.k 0 rfl rfl) rfl hl.1 rfl (Nat.le_of_ble_eq_true rfl) rfl dX9_hearReply_27 (fun H locs cells slots hX hZ => ?_)
    have hZ := hZ.add (by decide) hX
    refine z_astore_n (lv' := [(3, va_rf r10), (2, .ref a5), (0, .ref this), (1, .ref a1)]) hx hb dX9_hearReply_30 rfl hl (by decide) rfl (fun ls hl => ?_)
    exact v_X9_hearReply_l31 n C hR n this (some a1) (some a5) r10 w8 _ _ _ _ _ ⟨hZ.1, hZ.2.1, hZ.2.2.1, hZ.2.2.2.1, (List.forall_mem_cons.mpr ⟨⟨by decide, (fun q hq => by cases hq; exact (hZ.k 2 rfl rfl))⟩, (List.forall_mem_cons.mpr ⟨⟨by decide, (fun q hq => by cases hq; exact (hZ.k 3 rfl rfl))⟩, (List.forall_mem_cons.mpr ⟨⟨by decide, (fun q hq => by cases hq; exact (hZ.k 1 rfl rfl))⟩, (List.forall_mem_cons.mpr ⟨⟨by decide, (fun q hq => hZ.k 0 rfl hq)⟩, (fun _ hq => absurd hq List.not_mem_nil)⟩)⟩)⟩)⟩), hZ.2.2.2.2.2⟩ (lv_sub hl [2, 3, 1, 0] rfl) hf
  · have hf := wd_on_n hn hf
    subst hn
    have hl : lv_has ls 5 [(2, va_rf none), (0, .ref this), (1, .ref a1)] := hl
    have hZ : wd_Z E w R s w2 H locs cells slots [(none, 3), (some this, 10), (some a1, 1)] := hZ
    obtain rfl := Option.some.inj hf
    exact z_vret hx hb hr hlocks hZ trivial dX9_hearReply_13

def f_X9_come_j127 (n : Nat) (w : Wd) : Option (Option Nat × Wd) :=
  some (none, w)
def f_X9_come_l5 (n : Nat) (rec5 : Nat → Option Nat → Option Nat → Int32 → Wd → Option (Option Nat × Wd)) (x0 : Nat) (x1 : Option Nat) (x3 : Option Nat) (x4 : Int32) (w : Wd) : Option (Option Nat × Wd) :=
  wd_on x3 (
    f_X9_come_j127 n w)
    (fun a1 =>
    if (1000000 : Int32) ≤ x4 then
      f_X9_come_j127 n w
    else
      Option.bind x1 fun a3 =>
      Option.bind (wd_R w 200 a3) fun a4 =>
      wd_b2 (f_X3_owns n w a4 (wd_I w 402 a1)) fun r7 w5 =>
      if r7 = 0 then
        Option.bind (wd_R w5 200 a3) fun a22 =>
        if (wd_I w5 301 a22) = 0 then
          wd_let (wd_sI w5 204 a3 ((wd_I w5 204 a3) + (1 : Int32))) fun w30 =>
          some (none, w30)
        else
          wd_let (wd_sI w5 404 a1 ((wd_I w5 404 a1) - (1 : Int32))) fun w24 =>
          if (wd_I w24 404 a1) ≤ 0 then
            wd_b2 (f_X9_complain n w24 x0 (some a3) (some a1) (3 : Int32) (0 : Int32)) fun r29 w27 =>
            some (r29, w27)
          else
            some ((some a1), w24)
      else
        wd_b2 (f_X2_gather n w5 a3 (some a1)) fun r11 w9 =>
        wd_on r11 (
          some (none, w9))
          (fun a12 =>
          if (wd_I w9 400 a12) = (6 : Int32) then
            wd_b2 (f_X2_unwrap n w9 a3 (some a12)) fun r16 w14 =>
            wd_let (x4 + 1) fun v17 =>
            rec5 x0 (some a3) r16 v17 w14
          else
            wd_b2 (f_X9_accept n w9 x0 (some a3) (some a12)) fun r21 w19 =>
            some (r21, w19)))
def f_X9_come (n : Nat) (w : Wd) (this : Nat) (p0 : Option Nat) (p1 : Option Nat) : Option (Option Nat × Wd) :=
  wd_lp5 (f_X9_come_l5 n) n this p0 p1 (0 : Int32) w
set_option maxHeartbeats 4000000 in
set_option maxRecDepth 100000 in
theorem v_X9_come_j127 {p : Program} {l : Launch} {e : Env} {R : Room} {s : State} {m : MethodId} {args : Array Value} {below : List Frame} {meth : Method} {c : Code} {E : wd_E} {w0 : Wd} {r' : Option Nat} {w' : Wd} (n : Nat) (C : wd_X p s m args meth c cX9_come RX9 6 (some (.object "SeamarkNet$Packet")) "come" E) (hR : 5 ≤ R.frames ∧ 116 ≤ R.locals) (w : Wd) (H : Heap) (locs : List Loc) (cells slots : Nat) (ls : Array Slot) (hZ : wd_Z E w0 R s w H locs cells slots []) (hl : lv_has ls 6 []) (hf : f_X9_come_j127 n w = some (r', w')) : W p l e R s m args below meth c H locs cells slots (wd_fin E w0 (some (va_rf r')) w' (∀ q, r' = some q → wd_K w' q = 5) R args s below) (F0 m 127 ls []) := by
  obtain ⟨hx, hb, hr, hml, hts, hown, hlocks, hmn, hK⟩ := id C
  unfold f_X9_come_j127 at hf
  refine z_null hx hb dX9_come_127 ?_
  obtain ⟨rfl, rfl⟩ := Prod.mk.inj (Option.some.inj hf)
  exact z_aret rfl hx hb hr hlocks hZ (fun q hq => by cases hq) dX9_come_128

set_option maxHeartbeats 4000000 in
set_option maxRecDepth 100000 in
theorem v_X9_come_b5 {p : Program} {l : Launch} {e : Env} {R : Room} {s : State} {m : MethodId} {args : Array Value} {below : List Frame} {meth : Method} {c : Code} {E : wd_E} {w0 : Wd} {r' : Option Nat} {w' : Wd} (n : Nat) (C : wd_X p s m args meth c cX9_come RX9 6 (some (.object "SeamarkNet$Packet")) "come" E) (hR : 5 ≤ R.frames ∧ 116 ≤ R.locals) (rec5 : Nat → Option Nat → Option Nat → Int32 → Wd → Option (Option Nat × Wd)) (hrec5 : ∀ (x0_ : Nat) (x1_ : Option Nat) (x3_ : Option Nat) (x4_ : Int32) (w_ : Wd) (H : Heap) (locs : List Loc) (cells slots : Nat) (ls : Array Slot), wd_Z E w0 R s w_ H locs cells slots [(some x0_, 10), (x1_, 3), (x3_, 5)] → lv_has ls 6 [(0, .ref x0_), (1, va_rf x1_), (3, va_rf x3_), (4, .int x4_)] → rec5 x0_ x1_ x3_ x4_ w_ = some (r', w') → W p l e R s m args below meth c H locs cells slots (wd_fin E w0 (some (va_rf r')) w' (∀ q, r' = some q → wd_K w' q = 5) R args s below) (F0 m 5 ls [])) (x0 : Nat) (x1 : Option Nat) (x3 : Option Nat) (x4 : Int32) (w : Wd) (H : Heap) (locs : List Loc) (cells slots : Nat) (ls : Array Slot) (hZ : wd_Z E w0 R s w H locs cells slots [(some x0, 10), (x1, 3), (x3, 5)]) (hl : lv_has ls 6 [(0, .ref x0), (1, va_rf x1), (3, va_rf x3), (4, .int x4)]) (hf : f_X9_come_l5 n rec5 x0 x1 x3 x4 w = some (r', w')) : W p l e R s m args below meth c H locs cells slots (wd_fin E w0 (some (va_rf r')) w' (∀ q, r' = some q → wd_K w' q = 5) R args s below) (F0 m 5 ls []) := by
  obtain ⟨hx, hb, hr, hml, hts, hown, hlocks, hmn, hK⟩ := id C
  unfold f_X9_come_l5 at hf
  refine z_aload_n hx hb dX9_come_5 rfl (lv_at hl 2 rfl) ?_
  refine z_ifnull (tgt := 127) hx hb dX9_come_6 (by decide) (fun hn => ?_) (fun a1 ha1 => ?_)
  · have hf := wd_on_n hn hf
    subst hn
    have hl : lv_has ls 6 [(0, .ref x0), (1, va_rf x1), (3, va_rf none), (4, .int x4)] := hl
    have hZ : wd_Z E w0 R s w H locs cells slots [(some x0, 10), (x1, 3), (none, 5)] := hZ
    exact v_X9_come_j127 n C hR w _ _ _ _ _ ⟨hZ.1, hZ.2.1, hZ.2.2.1, hZ.2.2.2.1, (fun _ hq => absurd hq List.not_mem_nil), hZ.2.2.2.2.2⟩ (lv_sub hl [] rfl) hf
  · have hf := wd_on_s ha1 hf
    subst ha1
    have hl : lv_has ls 6 [(0, .ref x0), (1, va_rf x1), (3, .ref a1), (4, .int x4)] := hl
    have hZ : wd_Z E w0 R s w H locs cells slots [(some x0, 10), (x1, 3), (some a1, 5)] := hZ
    refine lv_iload hx hb dX9_come_9 (lv_at hl 3 rfl) ?_
    refine lv_ldc (v := 1000000) hx hb hown (hts _ tw_761) dX9_come_11 ?_
    refine lv_icmp_ge (tgt := 127) hx hb dX9_come_13 (by decide) (fun h2 => ?_) (fun h2 => ?_)
    · have hf := wd_ite_p h2 hf
      exact v_X9_come_j127 n C hR w _ _ _ _ _ ⟨hZ.1, hZ.2.1, hZ.2.2.1, hZ.2.2.2.1, (fun _ hq => absurd hq List.not_mem_nil), hZ.2.2.2.2.2⟩ (lv_sub hl [] rfl) hf
    · have hf := wd_ite_n h2 hf
      refine z_aload_n hx hb dX9_come_16 rfl (lv_at hl 1 rfl) ?_
      obtain ⟨a3, ha3, hf⟩ := Option.bind_eq_some_iff.mp hf
      subst ha3
      have hl : lv_has ls 6 [(0, .ref x0), (1, .ref a3), (3, .ref a1), (4, .int x4)] := hl
      have hZ : wd_Z E w0 R s w H locs cells slots [(some x0, 10), (some a3, 3), (some a1, 5)] := hZ
      refine z_getR (tk := 3) fd_200 rfl hx hb hts hown hK hZ (hZ.k 1 rfl rfl) tw_206 dX9_come_17 (fun hZ => ?_)
      refine lv_aload_n hx hb dX9_come_20 rfl (lv_at hl 2 rfl) ?_
      refine z_getI fd_402 rfl hx hb hts hown hK hZ (hZ.k 3 rfl rfl) tw_688 dX9_come_21 ?_
      obtain ⟨a4, ha4, hf⟩ := Option.bind_eq_some_iff.mp hf
      have hZ := hZ.add (r := some a4) (k := 4) (by decide) (fun q hq => by cases hq; exact hZ.k 0 rfl ha4)
      rw [ha4]
      obtain ⟨r7, w5, hc6, hf⟩ := wd_b2_e hf
      refine z_callV (ci := 3) (As := [.int (wd_I w 402 a1)]) (rest := []) (c_X3_owns l E n w a4 (wd_I w 402 a1) r7 w5 (hZ.k 0 rfl rfl) hc6) mo_X3_owns rfl (by decide) rfl tw_649 tw_650 tw_648 hx hb hml hts hown hK ⟨Nat.le_trans (by decide) hR.1, Nat.le_trans (by decide) hR.2⟩ hZ (hZ.k 0 rfl rfl) rfl hl.1 rfl (Nat.le_of_ble_eq_true rfl) rfl dX9_come_24 (fun H locs cells slots hX hZ => ?_)
      refine lv_if_ne (tgt := 82) hx hb dX9_come_27 (by decide) (fun h8 => ?_) (fun h8 => ?_)
      · have hf := wd_ite_n h8 hf
        refine lv_aload_n hx hb dX9_come_82 rfl (lv_at hl 1 rfl) ?_
        refine lv_aload_n hx hb dX9_come_83 rfl (lv_at hl 2 rfl) ?_
        obtain ⟨r11, w9, hc10, hf⟩ := wd_b2_e hf
        refine z_callV (ci := 2) (As := [va_rf (some a1)]) (rest := []) (c_X2_gather l E n w5 a3 (some a1) r11 w9 (hZ.k 3 rfl rfl) (fun q hq => by cases hq; exact (hZ.k 4 rfl rfl)) hc10) mo_X2_gather rfl (by decide) rfl tw_902 tw_903 tw_901 hx hb hml hts hown hK ⟨Nat.le_trans (by decide) hR.1, Nat.le_trans (by decide) hR.2⟩ hZ (hZ.k 3 rfl rfl) rfl hl.1 rfl (Nat.le_of_ble_eq_true rfl) rfl dX9_come_84 (fun H locs cells slots hX hZ => ?_)
        have hZ := hZ.add (by decide) hX
        refine z_astore (lv' := [(5, va_rf r11), (0, .ref x0), (1, .ref a3), (3, .ref a1), (4, .int x4)]) hx hb dX9_come_87 hl (by decide) rfl (fun ls hl => ?_)
        refine z_aload hx hb dX9_come_89 (lv_at hl 0 rfl) ?_
        refine z_ifnonnull (tgt := 96) hx hb dX9_come_91 (by decide) (fun a12 ha12 => ?_) (fun hn => ?_)
        · have hf := wd_on_s ha12 hf
          subst ha12
          have hl : lv_has ls 6 [(5, .ref a12), (0, .ref x0), (1, .ref a3), (3, .ref a1), (4, .int x4)] := hl
          have hZ : wd_Z E w0 R s w9 H locs cells slots [(some a12, 5), (some a4, 4), ((wd_R w 200 a3), 4), (some x0, 10), (some a3, 3), (some a1, 5)] := hZ
          refine lv_aload hx hb dX9_come_96 (lv_at hl 0 rfl) ?_
          refine z_getI fd_400 rfl hx hb hts hown hK hZ (hZ.k 0 rfl rfl) tw_681 dX9_come_98 ?_
          refine lv_bipush (v := 6) hx hb dX9_come_101 (by decide) ?_
          refine lv_icmp_eq (tgt := 114) hx hb dX9_come_103 (by decide) (fun h13 => ?_) (fun h13 => ?_)
          · have hf := wd_ite_p h13 hf
            refine lv_aload_n hx hb dX9_come_114 rfl (lv_at hl 2 rfl) ?_
            refine lv_aload hx hb dX9_come_115 (lv_at hl 0 rfl) ?_
            obtain ⟨r16, w14, hc15, hf⟩ := wd_b2_e hf
            refine z_callV (ci := 2) (As := [va_rf (some a12)]) (rest := []) (c_X2_unwrap l E n w9 a3 (some a12) r16 w14 (hZ.k 4 rfl rfl) (fun q hq => by cases hq; exact (hZ.k 0 rfl rfl)) hc15) mo_X2_unwrap rfl (by decide) rfl tw_934 tw_935 tw_933 hx hb hml hts hown hK ⟨Nat.le_trans (by decide) hR.1, Nat.le_trans (by decide) hR.2⟩ hZ (hZ.k 4 rfl rfl) rfl hl.1 rfl (Nat.le_of_ble_eq_true rfl) rfl dX9_come_117 (fun H locs cells slots hX hZ => ?_)
            have hZ := hZ.add (by decide) hX
            refine z_astore_n (lv' := [(3, va_rf r16), (5, .ref a12), (0, .ref x0), (1, .ref a3), (4, .int x4)]) hx hb dX9_come_120 rfl hl (by decide) rfl (fun ls hl => ?_)
            obtain ⟨v17, e18, hf⟩ := wd_let_e hf
            refine lv_iinc (k := 4) (v := v17) (lv' := [(4, .int v17), (3, va_rf r16), (5, .ref a12), (0, .ref x0), (1, .ref a3)]) hx hb dX9_come_121 hl rfl (by rw [← e18]; rfl) (by decide) (by simp [va_rf_cat, Value.category]) (fun ls hl => ?_)
            refine lv_goto (tgt := 5) hx hb dX9_come_124 (by decide) ?_
            exact hrec5 x0 (some a3) r16 v17 w14 _ _ _ _ _ ⟨hZ.1, hZ.2.1, hZ.2.2.1, hZ.2.2.2.1, (List.forall_mem_cons.mpr ⟨⟨by decide, (fun q hq => by cases hq; exact (hZ.k 4 rfl rfl))⟩, (List.forall_mem_cons.mpr ⟨⟨by decide, (fun q hq => by cases hq; exact (hZ.k 5 rfl rfl))⟩, (List.forall_mem_cons.mpr ⟨⟨by decide, (fun q hq => hZ.k 0 rfl hq)⟩, (fun _ hq => absurd hq List.not_mem_nil)⟩)⟩)⟩), hZ.2.2.2.2.2⟩ (lv_sub hl [3, 4, 1, 0] rfl) hf
          · have hf := wd_ite_n h13 hf
            refine lv_aload_n hx hb dX9_come_106 rfl (lv_at hl 1 rfl) ?_
            refine lv_aload_n hx hb dX9_come_107 rfl (lv_at hl 2 rfl) ?_
            refine lv_aload hx hb dX9_come_108 (lv_at hl 0 rfl) ?_
            obtain ⟨r21, w19, hc20, hf⟩ := wd_b2_e hf
            refine z_callV (ci := 9) (As := [va_rf (some a3), va_rf (some a12)]) (rest := []) (c_X9_accept l E n w9 x0 (some a3) (some a12) r21 w19 (hZ.k 3 rfl rfl) (fun q hq => by cases hq; exact (hZ.k 4 rfl rfl)) (fun q hq => by cases hq; exact (hZ.k 0 rfl rfl)) hc20) mo_X9_accept rfl (by decide) rfl tw_764 tw_12 tw_762 hx hb hml hts hown hK ⟨Nat.le_trans (by decide) hR.1, Nat.le_trans (by decide) hR.2⟩ hZ (hZ.k 3 rfl rfl) rfl hl.1 rfl (Nat.le_of_ble_eq_true rfl) rfl dX9_come_110 (fun H locs cells slots hX hZ => ?_)
            have hZ := hZ.add (by decide) hX
            obtain ⟨rfl, rfl⟩ := Prod.mk.inj (Option.some.inj hf)
            exact z_aret rfl hx hb hr hlocks hZ (fun q hq => hZ.k 0 rfl hq) dX9_come_113
        · have hf := wd_on_n hn hf
          subst hn
          have hl : lv_has ls 6 [(5, va_rf none), (0, .ref x0), (1, .ref a3), (3, .ref a1), (4, .int x4)] := hl
          have hZ : wd_Z E w0 R s w9 H locs cells slots [(none, 5), (some a4, 4), ((wd_R w 200 a3), 4), (some x0, 10), (some a3, 3), (some a1, 5)] := hZ
          refine z_null hx hb dX9_come_94 ?_
          obtain ⟨rfl, rfl⟩ := Prod.mk.inj (Option.some.inj hf)
          exact z_aret rfl hx hb hr hlocks hZ (fun q hq => by cases hq) dX9_come_95
      · have hf := wd_ite_p h8 hf
        refine lv_aload_n hx hb dX9_come_30 rfl (lv_at hl 1 rfl) ?_
        refine z_getR (tk := 3) fd_200 rfl hx hb hts hown hK hZ (hZ.k 3 rfl rfl) tw_206 dX9_come_31 (fun hZ => ?_)
        obtain ⟨a22, ha22, hf⟩ := Option.bind_eq_some_iff.mp hf
        have hZ := hZ.add (r := some a22) (k := 4) (by decide) (fun q hq => by cases hq; exact hZ.k 0 rfl ha22)
        rw [ha22]
        refine z_getI fd_301 rfl hx hb hts hown hK hZ (hZ.k 0 rfl rfl) tw_78 dX9_come_34 ?_
        refine lv_if_ne (tgt := 52) hx hb dX9_come_37 (by decide) (fun h23 => ?_) (fun h23 => ?_)
        · have hf := wd_ite_n h23 hf
          refine lv_aload_n hx hb dX9_come_52 rfl (lv_at hl 2 rfl) ?_
          refine lv_dup hx hb dX9_come_53 rfl ?_
          refine z_getI fd_404 rfl hx hb hts hown hK hZ (hZ.k 6 rfl rfl) tw_695 dX9_come_54 ?_
          refine lv_iconst (v := 1) hx hb dX9_come_57 (by decide) ?_
          refine lv_isub hx hb dX9_come_58 ?_
          refine z_putI fd_404 cok_4 rfl rfl rfl rfl rfl hx hb hts hown hK hZ (hZ.k 6 rfl rfl) tw_695 dX9_come_59 (fun H locs hZ => ?_)
          obtain ⟨w24, e25, hf⟩ := wd_let_e hf
          rw [e25] at hZ
          refine lv_aload_n hx hb dX9_come_62 rfl (lv_at hl 2 rfl) ?_
          refine z_getI fd_404 rfl hx hb hts hown hK hZ (hZ.k 6 rfl rfl) tw_695 dX9_come_63 ?_
          refine lv_if_le (tgt := 73) hx hb dX9_come_66 (by decide) (fun h26 => ?_) (fun h26 => ?_)
          · have hf := wd_ite_p h26 hf
            refine lv_aload_n hx hb dX9_come_73 rfl (lv_at hl 0 rfl) ?_
            refine lv_aload_n hx hb dX9_come_74 rfl (lv_at hl 1 rfl) ?_
            refine lv_aload_n hx hb dX9_come_75 rfl (lv_at hl 2 rfl) ?_
            refine lv_iconst (v := 3) hx hb dX9_come_76 (by decide) ?_
            refine lv_iconst (v := 0) hx hb dX9_come_77 (by decide) ?_
            obtain ⟨r29, w27, hc28, hf⟩ := wd_b2_e hf
            refine z_callV (ci := 9) (As := [va_rf (some a3), va_rf (some a1), .int (3 : Int32), .int (0 : Int32)]) (rest := []) (c_X9_complain l E n w24 x0 (some a3) (some a1) (3 : Int32) (0 : Int32) r29 w27 (hZ.k 4 rfl rfl) (fun q hq => by cases hq; exact (hZ.k 5 rfl rfl)) (fun q hq => by cases hq; exact (hZ.k 6 rfl rfl)) hc28) mo_X9_complain rfl (by decide) rfl tw_779 tw_14 tw_777 hx hb hml hts hown hK ⟨Nat.le_trans (by decide) hR.1, Nat.le_trans (by decide) hR.2⟩ hZ (hZ.k 4 rfl rfl) rfl hl.1 rfl (Nat.le_of_ble_eq_true rfl) rfl dX9_come_78 (fun H locs cells slots hX hZ => ?_)
            have hZ := hZ.add (by decide) hX
            obtain ⟨rfl, rfl⟩ := Prod.mk.inj (Option.some.inj hf)
            exact z_aret rfl hx hb hr hlocks hZ (fun q hq => hZ.k 0 rfl hq) dX9_come_81
          · have hf := wd_ite_n h26 hf
            refine lv_aload_n hx hb dX9_come_69 rfl (lv_at hl 2 rfl) ?_
            refine lv_goto (tgt := 81) hx hb dX9_come_70 (by decide) ?_
            obtain ⟨rfl, rfl⟩ := Prod.mk.inj (Option.some.inj hf)
            exact z_aret rfl hx hb hr hlocks hZ (fun q hq => by cases hq; exact (hZ.k 6 rfl rfl)) dX9_come_81
        · have hf := wd_ite_p h23 hf
          refine lv_aload_n hx hb dX9_come_40 rfl (lv_at hl 1 rfl) ?_
          refine lv_dup hx hb dX9_come_41 rfl ?_
          refine z_getI fd_204 rfl hx hb hts hown hK hZ (hZ.k 5 rfl rfl) tw_216 dX9_come_42 ?_
          refine lv_iconst (v := 1) hx hb dX9_come_45 (by decide) ?_
          refine lv_iadd hx hb dX9_come_46 ?_
          refine z_putI fd_204 cok_2 rfl rfl rfl rfl rfl hx hb hts hown hK hZ (hZ.k 5 rfl rfl) tw_216 dX9_come_47 (fun H locs hZ => ?_)
          obtain ⟨w30, e31, hf⟩ := wd_let_e hf
          rw [e31] at hZ
          refine z_null hx hb dX9_come_50 ?_
          obtain ⟨rfl, rfl⟩ := Prod.mk.inj (Option.some.inj hf)
          exact z_aret rfl hx hb hr hlocks hZ (fun q hq => by cases hq) dX9_come_51

theorem v_X9_come_l5 {p : Program} {l : Launch} {e : Env} {R : Room} {s : State} {m : MethodId} {args : Array Value} {below : List Frame} {meth : Method} {c : Code} {E : wd_E} {w0 : Wd} {r' : Option Nat} {w' : Wd} (n : Nat) (C : wd_X p s m args meth c cX9_come RX9 6 (some (.object "SeamarkNet$Packet")) "come" E) (hR : 5 ≤ R.frames ∧ 116 ≤ R.locals) : ∀ (k : Nat) (x0 : Nat) (x1 : Option Nat) (x3 : Option Nat) (x4 : Int32) (w : Wd) (H : Heap) (locs : List Loc) (cells slots : Nat) (ls : Array Slot), wd_Z E w0 R s w H locs cells slots [(some x0, 10), (x1, 3), (x3, 5)] → lv_has ls 6 [(0, .ref x0), (1, va_rf x1), (3, va_rf x3), (4, .int x4)] → wd_lp5 (f_X9_come_l5 n) k x0 x1 x3 x4 w = some (r', w') → W p l e R s m args below meth c H locs cells slots (wd_fin E w0 (some (va_rf r')) w' (∀ q, r' = some q → wd_K w' q = 5) R args s below) (F0 m 5 ls []) := by
  intro k
  induction k with
  | zero => intro _ _ _ _ _ _ _ _ _ _ _ _ hf; cases hf
  | succ k ih =>
    intro x0 x1 x3 x4 w H locs cells slots ls hZ hl hf
    exact v_X9_come_b5 n C hR (wd_lp5 (f_X9_come_l5 n) k) ih x0 x1 x3 x4 w H locs cells slots ls hZ hl hf

set_option maxHeartbeats 4000000 in
set_option maxRecDepth 100000 in
theorem c_X9_come (l : Launch) (E : wd_E) (n : Nat) (w : Wd) (this : Nat) (p0 : Option Nat) (p1 : Option Nat) (r' : Option Nat) (w' : Wd) (k_this : wd_K w this = 10) (k_p0 : ∀ q, p0 = some q → wd_K w q = 3) (k_p1 : ∀ q, p1 = some q → wd_K w q = 5) (hf : f_X9_come n w this p0 p1 = some (r', w')) : wd_C l E yX9_come cX9_come 6 (some (.object "SeamarkNet$Packet")) 5 116 [.ref this, va_rf p0, va_rf p1] w (some (va_rf r')) w' (∀ q, r' = some q → wd_K w' q = 5) := by
  refine wd_ofW (own := RX9) (nm := "come") (ks := [(some this, 10), (p0, 3), (p1, 5)]) (lv := [(0, .ref this), (1, va_rf p0), (2, va_rf p1)]) (by decide) rfl rfl (by simp [lg_sl, va_rf_cat, Value.category]) (by simp [lv_args, va_rf_cat, Value.category]) (List.forall_mem_cons.mpr ⟨⟨by decide, fun q hq => by cases hq; exact k_this⟩, (List.forall_mem_cons.mpr ⟨⟨by decide, k_p0⟩, (List.forall_mem_cons.mpr ⟨⟨by decide, k_p1⟩, (fun _ hq => absurd hq List.not_mem_nil)⟩)⟩)⟩) ?_
  intro p e s m args below meth c R H ls C hR hZ hl
  obtain ⟨hx, hb, hr, hml, hts, hown, hlocks, hmn, hK⟩ := id C
  unfold f_X9_come at hf
  refine z_aload_n hx hb dX9_come_0 rfl (lv_at hl 2 rfl) ?_
  refine z_astore_n (lv' := [(3, va_rf p1), (0, .ref this), (1, va_rf p0), (2, va_rf p1)]) hx hb dX9_come_1 rfl hl (by decide) (by simp [va_rf_cat, Value.category]) (fun ls hl => ?_)
  refine lv_iconst (v := 0) hx hb dX9_come_2 (by decide) ?_
  refine lv_istore (lv' := [(4, .int (0 : Int32)), (3, va_rf p1), (0, .ref this), (1, va_rf p0), (2, va_rf p1)]) hx hb dX9_come_3 hl (by decide) (by simp [va_rf_cat, Value.category]) (fun ls hl => ?_)
  exact v_X9_come_l5 n C hR n this p0 p1 (0 : Int32) w _ _ _ _ _ ⟨hZ.1, hZ.2.1, hZ.2.2.1, hZ.2.2.2.1, (List.forall_mem_cons.mpr ⟨⟨by decide, (fun q hq => by cases hq; exact (hZ.k 0 rfl rfl))⟩, (List.forall_mem_cons.mpr ⟨⟨by decide, (fun q hq => hZ.k 1 rfl hq)⟩, (List.forall_mem_cons.mpr ⟨⟨by decide, (fun q hq => hZ.k 2 rfl hq)⟩, (fun _ hq => absurd hq List.not_mem_nil)⟩)⟩)⟩), hZ.2.2.2.2.2⟩ (lv_sub hl [2, 3, 1, 0] rfl) hf

def f_X9_deliverNext_j122 (n : Nat) (x0 : Nat) (x1 : Option Nat) (w : Wd) : Option (Int32 × Wd) :=
  Option.bind (wd_R w 900 x0) fun a18 =>
  Option.bind (f_X8_reuse n w a18 x1) fun w19 =>
  some ((1 : Int32), w19)
def f_X9_deliverNext_j53 (n : Nat) (x0 : Nat) (x1 : Option Nat) (w : Wd) : Option (Int32 × Wd) :=
  Option.bind x1 fun a9 =>
  if (wd_I w 3 a9) = (1 : Int32) then
    Option.bind (f_X9_hearQuestion n w x0 (some a9)) fun w28 =>
    f_X9_deliverNext_j122 n x0 (some a9) w28
  else
    if (wd_I w 3 a9) = (2 : Int32) then
      Option.bind (f_X9_hearReply n w x0 (some a9)) fun w26 =>
      f_X9_deliverNext_j122 n x0 (some a9) w26
    else
      wd_let (wd_sI w 903 x0 ((wd_I w 903 x0) + (1 : Int32))) fun w12 =>
      wd_b2 (f_X9_hostWithMark n w12 x0 (wd_I w12 2 a9)) fun r16 w14 =>
      wd_on r16 (
        f_X9_deliverNext_j122 n x0 (some a9) w14)
        (fun a17 =>
        wd_b2 (f_X9_come n w14 x0 (some a17) (wd_R w14 5 a9)) fun r23 w21 =>
        Option.bind (f_X9_goOut n w21 x0 (some a17) r23) fun w24 =>
        f_X9_deliverNext_j122 n x0 (some a9) w24)
def f_X9_deliverNext (n : Nat) (w : Wd) (this : Nat) : Option (Int32 × Wd) :=
  Option.bind (wd_R w 900 this) fun a1 =>
  wd_b2 (f_X8_takeFirst n w a1) fun r4 w2 =>
  wd_on r4 (
    some ((0 : Int32), w2))
    (fun a5 =>
    wd_let (wd_sI w2 902 this ((wd_I w2 902 this) + (1 : Int32))) fun w6 =>
    if (wd_I w6 0 a5) < 0 then
      f_X9_deliverNext_j53 n this (some a5) w6
    else
      if (8 : Int32) ≤ (wd_I w6 0 a5) then
        f_X9_deliverNext_j53 n this (some a5) w6
      else
        Option.bind (wd_R w6 907 this) fun a31 =>
        wd_gd ((wd_I w6 0 a5) < 0 ∨ wd_N w6 a31 ≤ (wd_I w6 0 a5).toNatClampNeg) <|
        wd_gd ((wd_I w6 0 a5) < 0 ∨ wd_N w6 a31 ≤ (wd_I w6 0 a5).toNatClampNeg) <|
        wd_let (wd_sA w6 a31 (wd_I w6 0 a5).toNatClampNeg ((wd_A w6 a31 (wd_I w6 0 a5).toNatClampNeg) + (1 : Int32))) fun w34 =>
        f_X9_deliverNext_j53 n this (some a5) w34)
set_option maxHeartbeats 4000000 in
set_option maxRecDepth 100000 in
theorem v_X9_deliverNext_j122 {p : Program} {l : Launch} {e : Env} {R : Room} {s : State} {m : MethodId} {args : Array Value} {below : List Frame} {meth : Method} {c : Code} {E : wd_E} {w0 : Wd} {r' : Int32} {w' : Wd} (n : Nat) (C : wd_X p s m args meth c cX9_deliverNext RX9 3 (some .boolean) "deliverNext" E) (hR : 6 ≤ R.frames ∧ 149 ≤ R.locals) (x0 : Nat) (x1 : Option Nat) (w : Wd) (H : Heap) (locs : List Loc) (cells slots : Nat) (ls : Array Slot) (hZ : wd_Z E w0 R s w H locs cells slots [(some x0, 10), (x1, 1)]) (hl : lv_has ls 3 [(0, .ref x0), (1, va_rf x1)]) (hf : f_X9_deliverNext_j122 n x0 x1 w = some (r', w')) : W p l e R s m args below meth c H locs cells slots (wd_fin E w0 (some (.int r')) w' True R args s below) (F0 m 122 ls []) := by
  obtain ⟨hx, hb, hr, hml, hts, hown, hlocks, hmn, hK⟩ := id C
  unfold f_X9_deliverNext_j122 at hf
  refine lv_aload_n hx hb dX9_deliverNext_122 rfl (lv_at hl 0 rfl) ?_
  refine z_getR (tk := 8) fd_900 rfl hx hb hts hown hK hZ (hZ.k 0 rfl rfl) tw_243 dX9_deliverNext_123 (fun hZ => ?_)
  refine z_aload_n hx hb dX9_deliverNext_126 rfl (lv_at hl 1 rfl) ?_
  obtain ⟨a18, ha18, hf⟩ := Option.bind_eq_some_iff.mp hf
  have hZ := hZ.add (r := some a18) (k := 9) (by decide) (fun q hq => by cases hq; exact hZ.k 0 rfl ha18)
  rw [ha18]
  obtain ⟨w19, hc20, hf⟩ := Option.bind_eq_some_iff.mp hf
  refine z_callV (ci := 8) (As := [va_rf x1]) (rest := []) (c_X8_reuse l E n w a18 x1 w19 (hZ.k 0 rfl rfl) (fun q hq => hZ.k 3 rfl hq) hc20) mo_X8_reuse rfl (by decide) rfl tw_942 tw_943 tw_941 hx hb hml hts hown hK ⟨Nat.le_trans (by decide) hR.1, Nat.le_trans (by decide) hR.2⟩ hZ (hZ.k 0 rfl rfl) rfl hl.1 rfl (Nat.le_of_ble_eq_true rfl) rfl dX9_deliverNext_127 (fun H locs cells slots hX hZ => ?_)
  refine lv_iconst (v := 1) hx hb dX9_deliverNext_130 (by decide) ?_
  obtain ⟨rfl, rfl⟩ := Prod.mk.inj (Option.some.inj hf)
  exact z_zret (by decide) hx hb hr hlocks hZ trivial dX9_deliverNext_131

set_option maxHeartbeats 4000000 in
set_option maxRecDepth 100000 in
theorem v_X9_deliverNext_j53 {p : Program} {l : Launch} {e : Env} {R : Room} {s : State} {m : MethodId} {args : Array Value} {below : List Frame} {meth : Method} {c : Code} {E : wd_E} {w0 : Wd} {r' : Int32} {w' : Wd} (n : Nat) (C : wd_X p s m args meth c cX9_deliverNext RX9 3 (some .boolean) "deliverNext" E) (hR : 6 ≤ R.frames ∧ 149 ≤ R.locals) (x0 : Nat) (x1 : Option Nat) (w : Wd) (H : Heap) (locs : List Loc) (cells slots : Nat) (ls : Array Slot) (hZ : wd_Z E w0 R s w H locs cells slots [(some x0, 10), (x1, 1)]) (hl : lv_has ls 3 [(0, .ref x0), (1, va_rf x1)]) (hf : f_X9_deliverNext_j53 n x0 x1 w = some (r', w')) : W p l e R s m args below meth c H locs cells slots (wd_fin E w0 (some (.int r')) w' True R args s below) (F0 m 53 ls []) := by
  obtain ⟨hx, hb, hr, hml, hts, hown, hlocks, hmn, hK⟩ := id C
  unfold f_X9_deliverNext_j53 at hf
  refine z_aload_n hx hb dX9_deliverNext_53 rfl (lv_at hl 1 rfl) ?_
  obtain ⟨a9, ha9, hf⟩ := Option.bind_eq_some_iff.mp hf
  subst ha9
  have hl : lv_has ls 3 [(0, .ref x0), (1, .ref a9)] := hl
  have hZ : wd_Z E w0 R s w H locs cells slots [(some x0, 10), (some a9, 1)] := hZ
  refine z_getI fd_3 rfl hx hb hts hown hK hZ (hZ.k 1 rfl rfl) tw_818 dX9_deliverNext_54 ?_
  refine lv_iconst (v := 1) hx hb dX9_deliverNext_57 (by decide) ?_
  refine lv_icmp_ne (tgt := 69) hx hb dX9_deliverNext_58 (by decide) (fun h10 => ?_) (fun h10 => ?_)
  · have hf := wd_ite_n h10 hf
    refine lv_aload_n hx hb dX9_deliverNext_69 rfl (lv_at hl 1 rfl) ?_
    refine z_getI fd_3 rfl hx hb hts hown hK hZ (hZ.k 1 rfl rfl) tw_818 dX9_deliverNext_70 ?_
    refine lv_iconst (v := 2) hx hb dX9_deliverNext_73 (by decide) ?_
    refine lv_icmp_ne (tgt := 85) hx hb dX9_deliverNext_74 (by decide) (fun h11 => ?_) (fun h11 => ?_)
    · have hf := wd_ite_n h11 hf
      refine lv_aload_n hx hb dX9_deliverNext_85 rfl (lv_at hl 0 rfl) ?_
      refine lv_dup hx hb dX9_deliverNext_86 rfl ?_
      refine z_getI fd_903 rfl hx hb hts hown hK hZ (hZ.k 0 rfl rfl) tw_249 dX9_deliverNext_87 ?_
      refine lv_iconst (v := 1) hx hb dX9_deliverNext_90 (by decide) ?_
      refine lv_iadd hx hb dX9_deliverNext_91 ?_
      refine z_putI fd_903 cok_9 rfl rfl rfl rfl rfl hx hb hts hown hK hZ (hZ.k 0 rfl rfl) tw_249 dX9_deliverNext_92 (fun H locs hZ => ?_)
      obtain ⟨w12, e13, hf⟩ := wd_let_e hf
      rw [e13] at hZ
      refine lv_aload_n hx hb dX9_deliverNext_95 rfl (lv_at hl 0 rfl) ?_
      refine lv_aload_n hx hb dX9_deliverNext_96 rfl (lv_at hl 1 rfl) ?_
      refine z_getI fd_2 rfl hx hb hts hown hK hZ (hZ.k 1 rfl rfl) tw_815 dX9_deliverNext_97 ?_
      obtain ⟨r16, w14, hc15, hf⟩ := wd_b2_e hf
      refine z_callV (ci := 9) (As := [.int (wd_I w12 2 a9)]) (rest := []) (c_X9_hostWithMark l E n w12 x0 (wd_I w12 2 a9) r16 w14 (hZ.k 0 rfl rfl) hc15) mo_X9_hostWithMark rfl (by decide) rfl tw_882 tw_19 tw_880 hx hb hml hts hown hK ⟨Nat.le_trans (by decide) hR.1, Nat.le_trans (by decide) hR.2⟩ hZ (hZ.k 0 rfl rfl) rfl hl.1 rfl (Nat.le_of_ble_eq_true rfl) rfl dX9_deliverNext_100 (fun H locs cells slots hX hZ => ?_)
      have hZ := hZ.add (by decide) hX
      refine z_astore_n (lv' := [(2, va_rf r16), (0, .ref x0), (1, .ref a9)]) hx hb dX9_deliverNext_103 rfl hl (by decide) rfl (fun ls hl => ?_)
      refine z_aload_n hx hb dX9_deliverNext_104 rfl (lv_at hl 0 rfl) ?_
      refine z_ifnull (tgt := 122) hx hb dX9_deliverNext_105 (by decide) (fun hn => ?_) (fun a17 ha17 => ?_)
      · have hf := wd_on_n hn hf
        subst hn
        have hl : lv_has ls 3 [(2, va_rf none), (0, .ref x0), (1, .ref a9)] := hl
        have hZ : wd_Z E w0 R s w14 H locs cells slots [(none, 3), (some x0, 10), (some a9, 1)] := hZ
        exact v_X9_deliverNext_j122 n C hR x0 (some a9) w14 _ _ _ _ _ ⟨hZ.1, hZ.2.1, hZ.2.2.1, hZ.2.2.2.1, (List.forall_mem_cons.mpr ⟨⟨by decide, (fun q hq => by cases hq; exact (hZ.k 1 rfl rfl))⟩, (List.forall_mem_cons.mpr ⟨⟨by decide, (fun q hq => by cases hq; exact (hZ.k 2 rfl rfl))⟩, (fun _ hq => absurd hq List.not_mem_nil)⟩)⟩), hZ.2.2.2.2.2⟩ (lv_sub hl [1, 2] rfl) hf
      · have hf := wd_on_s ha17 hf
        subst ha17
        have hl : lv_has ls 3 [(2, .ref a17), (0, .ref x0), (1, .ref a9)] := hl
        have hZ : wd_Z E w0 R s w14 H locs cells slots [(some a17, 3), (some x0, 10), (some a9, 1)] := hZ
        refine lv_aload_n hx hb dX9_deliverNext_108 rfl (lv_at hl 1 rfl) ?_
        refine lv_aload_n hx hb dX9_deliverNext_109 rfl (lv_at hl 0 rfl) ?_
        refine lv_aload_n hx hb dX9_deliverNext_110 rfl (lv_at hl 1 rfl) ?_
        refine lv_aload_n hx hb dX9_deliverNext_111 rfl (lv_at hl 0 rfl) ?_
        refine lv_aload_n hx hb dX9_deliverNext_112 rfl (lv_at hl 2 rfl) ?_
        refine z_getR (tk := 4) fd_5 rfl hx hb hts hown hK hZ (hZ.k 2 rfl rfl) tw_824 dX9_deliverNext_113 (fun hZ => ?_)
        obtain ⟨r23, w21, hc22, hf⟩ := wd_b2_e hf
        refine z_callV (ci := 9) (As := [va_rf (some a17), va_rf (wd_R w14 5 a9)]) (rest := [.ref a17, .ref x0]) (c_X9_come l E n w14 x0 (some a17) (wd_R w14 5 a9) r23 w21 (hZ.k 2 rfl rfl) (fun q hq => by cases hq; exact (hZ.k 1 rfl rfl)) (fun q hq => hZ.k 0 rfl hq) hc22) mo_X9_come rfl (by decide) rfl tw_899 tw_21 tw_897 hx hb hml hts hown hK ⟨Nat.le_trans (by decide) hR.1, Nat.le_trans (by decide) hR.2⟩ hZ (hZ.k 2 rfl rfl) rfl hl.1 rfl (Nat.le_of_ble_eq_true rfl) rfl dX9_deliverNext_116 (fun H locs cells slots hX hZ => ?_)
        have hZ := hZ.add (by decide) hX
        obtain ⟨w24, hc25, hf⟩ := Option.bind_eq_some_iff.mp hf
        refine z_callV (ci := 9) (As := [va_rf (some a17), va_rf r23]) (rest := []) (c_X9_goOut l E n w21 x0 (some a17) r23 w24 (hZ.k 3 rfl rfl) (fun q hq => by cases hq; exact (hZ.k 2 rfl rfl)) (fun q hq => hZ.k 0 rfl hq) hc25) mo_X9_goOut rfl (by decide) rfl tw_759 tw_11 tw_757 hx hb hml hts hown hK ⟨Nat.le_trans (by decide) hR.1, Nat.le_trans (by decide) hR.2⟩ hZ (hZ.k 3 rfl rfl) rfl hl.1 rfl (Nat.le_of_ble_eq_true rfl) rfl dX9_deliverNext_119 (fun H locs cells slots hX hZ => ?_)
        exact v_X9_deliverNext_j122 n C hR x0 (some a9) w24 _ _ _ _ _ ⟨hZ.1, hZ.2.1, hZ.2.2.1, hZ.2.2.2.1, (List.forall_mem_cons.mpr ⟨⟨by decide, (fun q hq => by cases hq; exact (hZ.k 3 rfl rfl))⟩, (List.forall_mem_cons.mpr ⟨⟨by decide, (fun q hq => by cases hq; exact (hZ.k 4 rfl rfl))⟩, (fun _ hq => absurd hq List.not_mem_nil)⟩)⟩), hZ.2.2.2.2.2⟩ (lv_sub hl [1, 2] rfl) hf
    · have hf := wd_ite_p h11 hf
      refine lv_aload_n hx hb dX9_deliverNext_77 rfl (lv_at hl 0 rfl) ?_
      refine lv_aload_n hx hb dX9_deliverNext_78 rfl (lv_at hl 1 rfl) ?_
      obtain ⟨w26, hc27, hf⟩ := Option.bind_eq_some_iff.mp hf
      refine z_callV (ci := 9) (As := [va_rf (some a9)]) (rest := []) (c_X9_hearReply l E n w x0 (some a9) w26 (hZ.k 0 rfl rfl) (fun q hq => by cases hq; exact (hZ.k 1 rfl rfl)) hc27) mo_X9_hearReply rfl (by decide) rfl tw_891 tw_20 tw_889 hx hb hml hts hown hK ⟨Nat.le_trans (by decide) hR.1, Nat.le_trans (by decide) hR.2⟩ hZ (hZ.k 0 rfl rfl) rfl hl.1 rfl (Nat.le_of_ble_eq_true rfl) rfl dX9_deliverNext_79 (fun H locs cells slots hX hZ => ?_)
      refine lv_goto (tgt := 122) hx hb dX9_deliverNext_82 (by decide) ?_
      exact v_X9_deliverNext_j122 n C hR x0 (some a9) w26 _ _ _ _ _ ⟨hZ.1, hZ.2.1, hZ.2.2.1, hZ.2.2.2.1, (List.forall_mem_cons.mpr ⟨⟨by decide, (fun q hq => by cases hq; exact (hZ.k 0 rfl rfl))⟩, (List.forall_mem_cons.mpr ⟨⟨by decide, (fun q hq => by cases hq; exact (hZ.k 1 rfl rfl))⟩, (fun _ hq => absurd hq List.not_mem_nil)⟩)⟩), hZ.2.2.2.2.2⟩ (lv_sub hl [0, 1] rfl) hf
  · have hf := wd_ite_p h10 hf
    refine lv_aload_n hx hb dX9_deliverNext_61 rfl (lv_at hl 0 rfl) ?_
    refine lv_aload_n hx hb dX9_deliverNext_62 rfl (lv_at hl 1 rfl) ?_
    obtain ⟨w28, hc29, hf⟩ := Option.bind_eq_some_iff.mp hf
    refine z_callV (ci := 9) (As := [va_rf (some a9)]) (rest := []) (c_X9_hearQuestion l E n w x0 (some a9) w28 (hZ.k 0 rfl rfl) (fun q hq => by cases hq; exact (hZ.k 1 rfl rfl)) hc29) mo_X9_hearQuestion rfl (by decide) rfl tw_876 tw_18 tw_874 hx hb hml hts hown hK ⟨Nat.le_trans (by decide) hR.1, Nat.le_trans (by decide) hR.2⟩ hZ (hZ.k 0 rfl rfl) rfl hl.1 rfl (Nat.le_of_ble_eq_true rfl) rfl dX9_deliverNext_63 (fun H locs cells slots hX hZ => ?_)
    refine lv_goto (tgt := 122) hx hb dX9_deliverNext_66 (by decide) ?_
    exact v_X9_deliverNext_j122 n C hR x0 (some a9) w28 _ _ _ _ _ ⟨hZ.1, hZ.2.1, hZ.2.2.1, hZ.2.2.2.1, (List.forall_mem_cons.mpr ⟨⟨by decide, (fun q hq => by cases hq; exact (hZ.k 0 rfl rfl))⟩, (List.forall_mem_cons.mpr ⟨⟨by decide, (fun q hq => by cases hq; exact (hZ.k 1 rfl rfl))⟩, (fun _ hq => absurd hq List.not_mem_nil)⟩)⟩), hZ.2.2.2.2.2⟩ (lv_sub hl [0, 1] rfl) hf

set_option maxHeartbeats 4000000 in
set_option maxRecDepth 100000 in
theorem c_X9_deliverNext (l : Launch) (E : wd_E) (n : Nat) (w : Wd) (this : Nat) (r' : Int32) (w' : Wd) (k_this : wd_K w this = 10) (hf : f_X9_deliverNext n w this = some (r', w')) : wd_C l E yX9_deliverNext cX9_deliverNext 3 (some .boolean) 6 149 [.ref this] w (some (.int r')) w' True := by
  refine wd_ofW (own := RX9) (nm := "deliverNext") (ks := [(some this, 10)]) (lv := [(0, .ref this)]) (by decide) rfl rfl (Nat.le_of_ble_eq_true rfl) rfl (List.forall_mem_cons.mpr ⟨⟨by decide, fun q hq => by cases hq; exact k_this⟩, (fun _ hq => absurd hq List.not_mem_nil)⟩) ?_
  intro p e s m args below meth c R H ls C hR hZ hl
  obtain ⟨hx, hb, hr, hml, hts, hown, hlocks, hmn, hK⟩ := id C
  unfold f_X9_deliverNext at hf
  refine lv_aload_n hx hb dX9_deliverNext_0 rfl (lv_at hl 0 rfl) ?_
  refine z_getR (tk := 8) fd_900 rfl hx hb hts hown hK hZ (hZ.k 0 rfl rfl) tw_243 dX9_deliverNext_1 (fun hZ => ?_)
  obtain ⟨a1, ha1, hf⟩ := Option.bind_eq_some_iff.mp hf
  have hZ := hZ.add (r := some a1) (k := 9) (by decide) (fun q hq => by cases hq; exact hZ.k 0 rfl ha1)
  rw [ha1]
  obtain ⟨r4, w2, hc3, hf⟩ := wd_b2_e hf
  refine z_callV (ci := 8) (As := []) (rest := []) (c_X8_takeFirst l E n w a1 r4 w2 (hZ.k 0 rfl rfl) hc3) mo_X8_takeFirst rfl (by decide) rfl tw_871 tw_872 tw_870 hx hb hml hts hown hK ⟨Nat.le_trans (by decide) hR.1, Nat.le_trans (by decide) hR.2⟩ hZ (hZ.k 0 rfl rfl) rfl hl.1 rfl (Nat.le_of_ble_eq_true rfl) rfl dX9_deliverNext_4 (fun H locs cells slots hX hZ => ?_)
  have hZ := hZ.add (by decide) hX
  refine z_astore_n (lv' := [(1, va_rf r4), (0, .ref this)]) hx hb dX9_deliverNext_7 rfl hl (by decide) rfl (fun ls hl => ?_)
  refine z_aload_n hx hb dX9_deliverNext_8 rfl (lv_at hl 0 rfl) ?_
  refine z_ifnonnull (tgt := 14) hx hb dX9_deliverNext_9 (by decide) (fun a5 ha5 => ?_) (fun hn => ?_)
  · have hf := wd_on_s ha5 hf
    subst ha5
    have hl : lv_has ls 3 [(1, .ref a5), (0, .ref this)] := hl
    have hZ : wd_Z E w R s w2 H locs cells slots [(some a5, 1), (some a1, 9), ((wd_R w 900 this), 9), (some this, 10)] := hZ
    refine lv_aload_n hx hb dX9_deliverNext_14 rfl (lv_at hl 1 rfl) ?_
    refine lv_dup hx hb dX9_deliverNext_15 rfl ?_
    refine z_getI fd_902 rfl hx hb hts hown hK hZ (hZ.k 3 rfl rfl) tw_248 dX9_deliverNext_16 ?_
    refine lv_iconst (v := 1) hx hb dX9_deliverNext_19 (by decide) ?_
    refine lv_iadd hx hb dX9_deliverNext_20 ?_
    refine z_putI fd_902 cok_9 rfl rfl rfl rfl rfl hx hb hts hown hK hZ (hZ.k 3 rfl rfl) tw_248 dX9_deliverNext_21 (fun H locs hZ => ?_)
    obtain ⟨w6, e7, hf⟩ := wd_let_e hf
    rw [e7] at hZ
    refine lv_aload_n hx hb dX9_deliverNext_24 rfl (lv_at hl 0 rfl) ?_
    refine z_getI fd_0 rfl hx hb hts hown hK hZ (hZ.k 0 rfl rfl) tw_809 dX9_deliverNext_25 ?_
    refine lv_if_lt (tgt := 53) hx hb dX9_deliverNext_28 (by decide) (fun h8 => ?_) (fun h8 => ?_)
    · have hf := wd_ite_p h8 hf
      exact v_X9_deliverNext_j53 n C hR this (some a5) w6 _ _ _ _ _ ⟨hZ.1, hZ.2.1, hZ.2.2.1, hZ.2.2.2.1, (List.forall_mem_cons.mpr ⟨⟨by decide, (fun q hq => by cases hq; exact (hZ.k 3 rfl rfl))⟩, (List.forall_mem_cons.mpr ⟨⟨by decide, (fun q hq => by cases hq; exact (hZ.k 0 rfl rfl))⟩, (fun _ hq => absurd hq List.not_mem_nil)⟩)⟩), hZ.2.2.2.2.2⟩ (lv_sub hl [1, 0] rfl) hf
    · have hf := wd_ite_n h8 hf
      refine lv_aload_n hx hb dX9_deliverNext_31 rfl (lv_at hl 0 rfl) ?_
      refine z_getI fd_0 rfl hx hb hts hown hK hZ (hZ.k 0 rfl rfl) tw_809 dX9_deliverNext_32 ?_
      refine lv_bipush (v := 8) hx hb dX9_deliverNext_35 (by decide) ?_
      refine lv_icmp_ge (tgt := 53) hx hb dX9_deliverNext_37 (by decide) (fun h30 => ?_) (fun h30 => ?_)
      · have hf := wd_ite_p h30 hf
        exact v_X9_deliverNext_j53 n C hR this (some a5) w6 _ _ _ _ _ ⟨hZ.1, hZ.2.1, hZ.2.2.1, hZ.2.2.2.1, (List.forall_mem_cons.mpr ⟨⟨by decide, (fun q hq => by cases hq; exact (hZ.k 3 rfl rfl))⟩, (List.forall_mem_cons.mpr ⟨⟨by decide, (fun q hq => by cases hq; exact (hZ.k 0 rfl rfl))⟩, (fun _ hq => absurd hq List.not_mem_nil)⟩)⟩), hZ.2.2.2.2.2⟩ (lv_sub hl [1, 0] rfl) hf
      · have hf := wd_ite_n h30 hf
        refine lv_aload_n hx hb dX9_deliverNext_40 rfl (lv_at hl 1 rfl) ?_
        refine z_getR (tk := 20) fd_907 rfl hx hb hts hown hK hZ (hZ.k 3 rfl rfl) tw_254 dX9_deliverNext_41 (fun hZ => ?_)
        refine lv_aload_n hx hb dX9_deliverNext_44 rfl (lv_at hl 0 rfl) ?_
        refine z_getI fd_0 rfl hx hb hts hown hK hZ (hZ.k 1 rfl rfl) tw_809 dX9_deliverNext_45 ?_
        refine lv_dup2_11 hx hb dX9_deliverNext_48 rfl (va_rf_cat _) ?_
        obtain ⟨a31, ha31, hf⟩ := Option.bind_eq_some_iff.mp hf
        have hZ := hZ.add (r := some a31) (k := 21) (by decide) (fun q hq => by cases hq; exact hZ.k 0 rfl ha31)
        rw [ha31]
        obtain ⟨h32, hf⟩ := wd_gd_e hf
        refine z_iald hx hb hK hZ (hZ.k 0 rfl rfl) h32 dX9_deliverNext_49 ?_
        refine lv_iconst (v := 1) hx hb dX9_deliverNext_50 (by decide) ?_
        refine lv_iadd hx hb dX9_deliverNext_51 ?_
        obtain ⟨h33, hf⟩ := wd_gd_e hf
        refine z_iast hx hb hK hZ (hZ.k 0 rfl rfl) h33 dX9_deliverNext_52 (fun H locs hZ => ?_)
        obtain ⟨w34, e35, hf⟩ := wd_let_e hf
        rw [e35] at hZ
        exact v_X9_deliverNext_j53 n C hR this (some a5) w34 _ _ _ _ _ ⟨hZ.1, hZ.2.1, hZ.2.2.1, hZ.2.2.2.1, (List.forall_mem_cons.mpr ⟨⟨by decide, (fun q hq => by cases hq; exact (hZ.k 5 rfl rfl))⟩, (List.forall_mem_cons.mpr ⟨⟨by decide, (fun q hq => by cases hq; exact (hZ.k 2 rfl rfl))⟩, (fun _ hq => absurd hq List.not_mem_nil)⟩)⟩), hZ.2.2.2.2.2⟩ (lv_sub hl [1, 0] rfl) hf
  · have hf := wd_on_n hn hf
    subst hn
    have hl : lv_has ls 3 [(1, va_rf none), (0, .ref this)] := hl
    have hZ : wd_Z E w R s w2 H locs cells slots [(none, 1), (some a1, 9), ((wd_R w 900 this), 9), (some this, 10)] := hZ
    refine lv_iconst (v := 0) hx hb dX9_deliverNext_12 (by decide) ?_
    obtain ⟨rfl, rfl⟩ := Prod.mk.inj (Option.some.inj hf)
    exact z_zret (by decide) hx hb hr hlocks hZ trivial dX9_deliverNext_13

def f_X9_complainOfWaiting_l10 (n : Nat) (rec10 : Nat → Option Nat → Int32 → Option Nat → Wd → Option (Int32 × Wd)) (x0 : Nat) (x1 : Option Nat) (x2 : Int32) (x3 : Option Nat) (w : Wd) : Option (Int32 × Wd) :=
  wd_on x3 (
    some (x2, w))
    (fun a7 =>
    wd_let (wd_R w 413 a7) fun v8 =>
    wd_b2 (f_X9_complain n w x0 x1 (some a7) (4 : Int32) (1 : Int32)) fun r12 w10 =>
    Option.bind (f_X9_goOut n w10 x0 x1 r12) fun w13 =>
    rec10 x0 x1 x2 v8 w13)
def f_X9_complainOfWaiting (n : Nat) (w : Wd) (this : Nat) (p0 : Option Nat) : Option (Int32 × Wd) :=
  Option.bind p0 fun a1 =>
  wd_let (wd_I w 201 a1) fun v2 =>
  wd_b2 (f_X2_takeWaiting n w a1) fun r6 w4 =>
  wd_lp5 (f_X9_complainOfWaiting_l10 n) n this (some a1) v2 r6 w4
set_option maxHeartbeats 4000000 in
set_option maxRecDepth 100000 in
theorem v_X9_complainOfWaiting_b10 {p : Program} {l : Launch} {e : Env} {R : Room} {s : State} {m : MethodId} {args : Array Value} {below : List Frame} {meth : Method} {c : Code} {E : wd_E} {w0 : Wd} {r' : Int32} {w' : Wd} (n : Nat) (C : wd_X p s m args meth c cX9_complainOfWaiting RX9 5 (some .int) "complainOfWaiting" E) (hR : 6 ≤ R.frames ∧ 149 ≤ R.locals) (rec10 : Nat → Option Nat → Int32 → Option Nat → Wd → Option (Int32 × Wd)) (hrec10 : ∀ (x0_ : Nat) (x1_ : Option Nat) (x2_ : Int32) (x3_ : Option Nat) (w_ : Wd) (H : Heap) (locs : List Loc) (cells slots : Nat) (ls : Array Slot), wd_Z E w0 R s w_ H locs cells slots [(some x0_, 10), (x1_, 3), (x3_, 5)] → lv_has ls 5 [(0, .ref x0_), (1, va_rf x1_), (2, .int x2_), (3, va_rf x3_)] → rec10 x0_ x1_ x2_ x3_ w_ = some (r', w') → W p l e R s m args below meth c H locs cells slots (wd_fin E w0 (some (.int r')) w' True R args s below) (F0 m 10 ls [])) (x0 : Nat) (x1 : Option Nat) (x2 : Int32) (x3 : Option Nat) (w : Wd) (H : Heap) (locs : List Loc) (cells slots : Nat) (ls : Array Slot) (hZ : wd_Z E w0 R s w H locs cells slots [(some x0, 10), (x1, 3), (x3, 5)]) (hl : lv_has ls 5 [(0, .ref x0), (1, va_rf x1), (2, .int x2), (3, va_rf x3)]) (hf : f_X9_complainOfWaiting_l10 n rec10 x0 x1 x2 x3 w = some (r', w')) : W p l e R s m args below meth c H locs cells slots (wd_fin E w0 (some (.int r')) w' True R args s below) (F0 m 10 ls []) := by
  obtain ⟨hx, hb, hr, hml, hts, hown, hlocks, hmn, hK⟩ := id C
  unfold f_X9_complainOfWaiting_l10 at hf
  refine z_aload_n hx hb dX9_complainOfWaiting_10 rfl (lv_at hl 3 rfl) ?_
  refine z_ifnull (tgt := 39) hx hb dX9_complainOfWaiting_11 (by decide) (fun hn => ?_) (fun a7 ha7 => ?_)
  · have hf := wd_on_n hn hf
    subst hn
    have hl : lv_has ls 5 [(0, .ref x0), (1, va_rf x1), (2, .int x2), (3, va_rf none)] := hl
    have hZ : wd_Z E w0 R s w H locs cells slots [(some x0, 10), (x1, 3), (none, 5)] := hZ
    refine lv_iload_n hx hb dX9_complainOfWaiting_39 rfl (lv_at hl 2 rfl) ?_
    obtain ⟨rfl, rfl⟩ := Prod.mk.inj (Option.some.inj hf)
    exact z_iret hx hb hr hlocks hZ trivial dX9_complainOfWaiting_40
  · have hf := wd_on_s ha7 hf
    subst ha7
    have hl : lv_has ls 5 [(0, .ref x0), (1, va_rf x1), (2, .int x2), (3, .ref a7)] := hl
    have hZ : wd_Z E w0 R s w H locs cells slots [(some x0, 10), (x1, 3), (some a7, 5)] := hZ
    refine lv_aload_n hx hb dX9_complainOfWaiting_14 rfl (lv_at hl 3 rfl) ?_
    refine z_getR (tk := 4) fd_413 rfl hx hb hts hown hK hZ (hZ.k 2 rfl rfl) tw_724 dX9_complainOfWaiting_15 (fun hZ => ?_)
    obtain ⟨v8, e9, hf⟩ := wd_let_e hf
    rw [e9]
    rw [e9] at hZ
    refine z_astore (lv' := [(4, va_rf v8), (0, .ref x0), (1, va_rf x1), (2, .int x2), (3, .ref a7)]) hx hb dX9_complainOfWaiting_18 hl (by decide) rfl (fun ls hl => ?_)
    refine lv_aload_n hx hb dX9_complainOfWaiting_20 rfl (lv_at hl 1 rfl) ?_
    refine z_aload_n hx hb dX9_complainOfWaiting_21 rfl (lv_at hl 2 rfl) ?_
    refine lv_aload_n hx hb dX9_complainOfWaiting_22 rfl (lv_at hl 1 rfl) ?_
    refine z_aload_n hx hb dX9_complainOfWaiting_23 rfl (lv_at hl 2 rfl) ?_
    refine lv_aload_n hx hb dX9_complainOfWaiting_24 rfl (lv_at hl 4 rfl) ?_
    refine lv_iconst (v := 4) hx hb dX9_complainOfWaiting_25 (by decide) ?_
    refine lv_iconst (v := 1) hx hb dX9_complainOfWaiting_26 (by decide) ?_
    obtain ⟨r12, w10, hc11, hf⟩ := wd_b2_e hf
    refine z_callV (ci := 9) (As := [va_rf x1, va_rf (some a7), .int (4 : Int32), .int (1 : Int32)]) (rest := [va_rf x1, .ref x0]) (c_X9_complain l E n w x0 x1 (some a7) (4 : Int32) (1 : Int32) r12 w10 (hZ.k 1 rfl rfl) (fun q hq => hZ.k 2 rfl hq) (fun q hq => by cases hq; exact (hZ.k 3 rfl rfl)) hc11) mo_X9_complain rfl (by decide) rfl tw_779 tw_14 tw_777 hx hb hml hts hown hK ⟨Nat.le_trans (by decide) hR.1, Nat.le_trans (by decide) hR.2⟩ hZ (hZ.k 1 rfl rfl) rfl hl.1 rfl (by simp [va_rf_cat, Value.category]) rfl dX9_complainOfWaiting_27 (fun H locs cells slots hX hZ => ?_)
    have hZ := hZ.add (by decide) hX
    obtain ⟨w13, hc14, hf⟩ := Option.bind_eq_some_iff.mp hf
    refine z_callV (ci := 9) (As := [va_rf x1, va_rf r12]) (rest := []) (c_X9_goOut l E n w10 x0 x1 r12 w13 (hZ.k 2 rfl rfl) (fun q hq => hZ.k 3 rfl hq) (fun q hq => hZ.k 0 rfl hq) hc14) mo_X9_goOut rfl (by decide) rfl tw_759 tw_11 tw_757 hx hb hml hts hown hK ⟨Nat.le_trans (by decide) hR.1, Nat.le_trans (by decide) hR.2⟩ hZ (hZ.k 2 rfl rfl) rfl hl.1 rfl (Nat.le_of_ble_eq_true rfl) rfl dX9_complainOfWaiting_30 (fun H locs cells slots hX hZ => ?_)
    refine z_aload hx hb dX9_complainOfWaiting_33 (lv_at hl 0 rfl) ?_
    refine z_astore_n (lv' := [(3, va_rf v8), (4, va_rf v8), (0, .ref x0), (1, va_rf x1), (2, .int x2)]) hx hb dX9_complainOfWaiting_35 rfl hl (by decide) rfl (fun ls hl => ?_)
    refine lv_goto (tgt := 10) hx hb dX9_complainOfWaiting_36 (by decide) ?_
    exact hrec10 x0 x1 x2 v8 w13 _ _ _ _ _ ⟨hZ.1, hZ.2.1, hZ.2.2.1, hZ.2.2.2.1, (List.forall_mem_cons.mpr ⟨⟨by decide, (fun q hq => by cases hq; exact (hZ.k 2 rfl rfl))⟩, (List.forall_mem_cons.mpr ⟨⟨by decide, (fun q hq => hZ.k 3 rfl hq)⟩, (List.forall_mem_cons.mpr ⟨⟨by decide, (fun q hq => hZ.k 1 rfl hq)⟩, (fun _ hq => absurd hq List.not_mem_nil)⟩)⟩)⟩), hZ.2.2.2.2.2⟩ (lv_sub hl [2, 3, 4, 0] rfl) hf

theorem v_X9_complainOfWaiting_l10 {p : Program} {l : Launch} {e : Env} {R : Room} {s : State} {m : MethodId} {args : Array Value} {below : List Frame} {meth : Method} {c : Code} {E : wd_E} {w0 : Wd} {r' : Int32} {w' : Wd} (n : Nat) (C : wd_X p s m args meth c cX9_complainOfWaiting RX9 5 (some .int) "complainOfWaiting" E) (hR : 6 ≤ R.frames ∧ 149 ≤ R.locals) : ∀ (k : Nat) (x0 : Nat) (x1 : Option Nat) (x2 : Int32) (x3 : Option Nat) (w : Wd) (H : Heap) (locs : List Loc) (cells slots : Nat) (ls : Array Slot), wd_Z E w0 R s w H locs cells slots [(some x0, 10), (x1, 3), (x3, 5)] → lv_has ls 5 [(0, .ref x0), (1, va_rf x1), (2, .int x2), (3, va_rf x3)] → wd_lp5 (f_X9_complainOfWaiting_l10 n) k x0 x1 x2 x3 w = some (r', w') → W p l e R s m args below meth c H locs cells slots (wd_fin E w0 (some (.int r')) w' True R args s below) (F0 m 10 ls []) := by
  intro k
  induction k with
  | zero => intro _ _ _ _ _ _ _ _ _ _ _ _ hf; cases hf
  | succ k ih =>
    intro x0 x1 x2 x3 w H locs cells slots ls hZ hl hf
    exact v_X9_complainOfWaiting_b10 n C hR (wd_lp5 (f_X9_complainOfWaiting_l10 n) k) ih x0 x1 x2 x3 w H locs cells slots ls hZ hl hf

set_option maxHeartbeats 4000000 in
set_option maxRecDepth 100000 in
theorem c_X9_complainOfWaiting (l : Launch) (E : wd_E) (n : Nat) (w : Wd) (this : Nat) (p0 : Option Nat) (r' : Int32) (w' : Wd) (k_this : wd_K w this = 10) (k_p0 : ∀ q, p0 = some q → wd_K w q = 3) (hf : f_X9_complainOfWaiting n w this p0 = some (r', w')) : wd_C l E yX9_complainOfWaiting cX9_complainOfWaiting 5 (some .int) 6 149 [.ref this, va_rf p0] w (some (.int r')) w' True := by
  refine wd_ofW (own := RX9) (nm := "complainOfWaiting") (ks := [(some this, 10), (p0, 3)]) (lv := [(0, .ref this), (1, va_rf p0)]) (by decide) rfl rfl (by simp [lg_sl, va_rf_cat, Value.category]) (by simp [lv_args, va_rf_cat, Value.category]) (List.forall_mem_cons.mpr ⟨⟨by decide, fun q hq => by cases hq; exact k_this⟩, (List.forall_mem_cons.mpr ⟨⟨by decide, k_p0⟩, (fun _ hq => absurd hq List.not_mem_nil)⟩)⟩) ?_
  intro p e s m args below meth c R H ls C hR hZ hl
  obtain ⟨hx, hb, hr, hml, hts, hown, hlocks, hmn, hK⟩ := id C
  unfold f_X9_complainOfWaiting at hf
  refine z_aload_n hx hb dX9_complainOfWaiting_0 rfl (lv_at hl 1 rfl) ?_
  obtain ⟨a1, ha1, hf⟩ := Option.bind_eq_some_iff.mp hf
  subst ha1
  have hl : lv_has ls 5 [(0, .ref this), (1, .ref a1)] := hl
  have hZ : wd_Z E w R s w H locs cells slots [(some this, 10), (some a1, 3)] := hZ
  refine z_getI fd_201 rfl hx hb hts hown hK hZ (hZ.k 1 rfl rfl) tw_209 dX9_complainOfWaiting_1 ?_
  obtain ⟨v2, e3, hf⟩ := wd_let_e hf
  rw [e3]
  refine lv_istore_n (lv' := [(2, .int v2), (0, .ref this), (1, .ref a1)]) hx hb dX9_complainOfWaiting_4 rfl hl (by decide) rfl (fun ls hl => ?_)
  refine lv_aload_n hx hb dX9_complainOfWaiting_5 rfl (lv_at hl 2 rfl) ?_
  obtain ⟨r6, w4, hc5, hf⟩ := wd_b2_e hf
  refine z_callV (ci := 2) (As := []) (rest := []) (c_X2_takeWaiting l E n w a1 r6 w4 (hZ.k 1 rfl rfl) hc5) mo_X2_takeWaiting rfl (by decide) rfl tw_894 tw_895 tw_893 hx hb hml hts hown hK ⟨Nat.le_trans (by decide) hR.1, Nat.le_trans (by decide) hR.2⟩ hZ (hZ.k 1 rfl rfl) rfl hl.1 rfl (Nat.le_of_ble_eq_true rfl) rfl dX9_complainOfWaiting_6 (fun H locs cells slots hX hZ => ?_)
  have hZ := hZ.add (by decide) hX
  refine z_astore_n (lv' := [(3, va_rf r6), (2, .int v2), (0, .ref this), (1, .ref a1)]) hx hb dX9_complainOfWaiting_9 rfl hl (by decide) rfl (fun ls hl => ?_)
  exact v_X9_complainOfWaiting_l10 n C hR n this (some a1) v2 r6 w4 _ _ _ _ _ ⟨hZ.1, hZ.2.1, hZ.2.2.1, hZ.2.2.2.1, (List.forall_mem_cons.mpr ⟨⟨by decide, (fun q hq => by cases hq; exact (hZ.k 1 rfl rfl))⟩, (List.forall_mem_cons.mpr ⟨⟨by decide, (fun q hq => by cases hq; exact (hZ.k 2 rfl rfl))⟩, (List.forall_mem_cons.mpr ⟨⟨by decide, (fun q hq => hZ.k 0 rfl hq)⟩, (fun _ hq => absurd hq List.not_mem_nil)⟩)⟩)⟩), hZ.2.2.2.2.2⟩ (lv_sub hl [2, 3, 1, 0] rfl) hf

def f_X10_init (n : Nat) (w : Wd) (this : Nat) (p0 : Option Nat) : Option Wd :=
  wd_gd (wd_M w = 0 ∨ wd_S w < 8) <|
  wd_let (wd_H w) fun a2 =>
  wd_let (wd_nw w 10 0 8) fun w4 =>
  Option.bind (f_X9_init n w4 a2 p0) fun w6 =>
  wd_let (wd_sR w6 1004 this (some a2)) fun w8 =>
  some w8
set_option maxHeartbeats 4000000 in
set_option maxRecDepth 100000 in
theorem c_X10_init (l : Launch) (E : wd_E) (n : Nat) (w : Wd) (this : Nat) (p0 : Option Nat) (w' : Wd) (k_this : wd_K w this = 11) (k_p0 : ∀ q, p0 = some q → wd_K w q = 6) (hf : f_X10_init n w this p0 = some w') : wd_C l E yX10_init cX10_init 2 none 4 88 [.ref this, va_rf p0] w none w' True := by
  refine wd_ofW (own := RX10) (nm := "<init>") (ks := [(some this, 11), (p0, 6)]) (lv := [(0, .ref this), (1, va_rf p0)]) (by decide) rfl rfl (by simp [lg_sl, va_rf_cat, Value.category]) (by simp [lv_args, va_rf_cat, Value.category]) (List.forall_mem_cons.mpr ⟨⟨by decide, fun q hq => by cases hq; exact k_this⟩, (List.forall_mem_cons.mpr ⟨⟨by decide, k_p0⟩, (fun _ hq => absurd hq List.not_mem_nil)⟩)⟩) ?_
  intro p e s m args below meth c R H ls C hR hZ hl
  obtain ⟨hx, hb, hr, hml, hts, hown, hlocks, hmn, hK⟩ := id C
  unfold f_X10_init at hf
  refine lv_aload_n hx hb dX10_init_0 rfl (lv_at hl 0 rfl) ?_
  refine W.objInit hx hb hown (hts _ tw_277) (hts _ tw_54) (hts _ tw_55) rfl (by rw [hml]; exact hl.1) rfl dX10_init_1 (Nat.le_trans (by decide) hR.1) (Nat.le_trans (Nat.le_of_ble_eq_true rfl) hR.2) ?_
  refine W.eq (g2 := F0 m 4 ls []) rfl ?_
  refine lv_aload_n hx hb dX10_init_4 rfl (lv_at hl 0 rfl) ?_
  obtain ⟨h1, hf⟩ := wd_gd_e hf
  refine z_new cok_9 hx hb hts hown hK hZ tw_278 tw_138 tw_31 h1 dX10_init_5 (fun H cells slots hZ => ?_)
  obtain ⟨a2, e3, hf⟩ := wd_let_e hf
  rw [e3]
  rw [e3] at hZ
  obtain ⟨w4, e5, hf⟩ := wd_let_e hf
  rw [e5] at hZ
  refine lv_dup hx hb dX10_init_8 rfl ?_
  refine z_aload_n hx hb dX10_init_9 rfl (lv_at hl 1 rfl) ?_
  obtain ⟨w6, hc7, hf⟩ := Option.bind_eq_some_iff.mp hf
  refine z_callI (As := [va_rf p0]) (rest := [.ref a2, .ref this]) (c_X9_init l E n w4 a2 p0 w6 (hZ.k 0 rfl rfl) (fun q hq => hZ.k 2 rfl hq) hc7) mo_X9_init rfl tw_140 tw_279 hx hb hml hts hown hK ⟨Nat.le_trans (by decide) hR.1, Nat.le_trans (by decide) hR.2⟩ hZ rfl hl.1 rfl (Nat.le_of_ble_eq_true rfl) dX10_init_10 (fun H locs cells slots hX hZ => ?_)
  refine z_putFR (r := (some a2)) rfl hmn rfl fd_1004 cok_10 (tk := 9) rfl (fun q hq => by cases hq; exact (hZ.k 0 rfl rfl)) rfl rfl (wd_obO _) hx hb hts hown hK hZ (hZ.k 1 rfl rfl) tw_288 dX10_init_13 (fun H locs hZ => ?_)
  obtain ⟨w8, e9, hf⟩ := wd_let_e hf
  rw [e9] at hZ
  obtain rfl := Option.some.inj hf
  exact z_vret hx hb hr hlocks hZ trivial dX10_init_16

def f_X10_begin (n : Nat) (w : Wd) (this : Nat) (p0 : Option Nat) : Option Wd :=
  Option.bind (wd_R w 1004 this) fun a1 =>
  Option.bind (f_X9_takeOver n w a1 p0) fun w2 =>
  some w2
set_option maxHeartbeats 4000000 in
set_option maxRecDepth 100000 in
theorem c_X10_begin (l : Launch) (E : wd_E) (n : Nat) (w : Wd) (this : Nat) (p0 : Option Nat) (w' : Wd) (k_this : wd_K w this = 11) (k_p0 : ∀ q, p0 = some q → wd_K w q = 10) (hf : f_X10_begin n w this p0 = some w') : wd_C l E yX10_begin cX10_begin 2 none 3 103 [.ref this, va_rf p0] w none w' True := by
  refine wd_ofW (own := RX10) (nm := "begin") (ks := [(some this, 11), (p0, 10)]) (lv := [(0, .ref this), (1, va_rf p0)]) (by decide) rfl rfl (by simp [lg_sl, va_rf_cat, Value.category]) (by simp [lv_args, va_rf_cat, Value.category]) (List.forall_mem_cons.mpr ⟨⟨by decide, fun q hq => by cases hq; exact k_this⟩, (List.forall_mem_cons.mpr ⟨⟨by decide, k_p0⟩, (fun _ hq => absurd hq List.not_mem_nil)⟩)⟩) ?_
  intro p e s m args below meth c R H ls C hR hZ hl
  obtain ⟨hx, hb, hr, hml, hts, hown, hlocks, hmn, hK⟩ := id C
  unfold f_X10_begin at hf
  refine lv_aload_n hx hb dX10_begin_0 rfl (lv_at hl 0 rfl) ?_
  refine z_getR (tk := 9) fd_1004 rfl hx hb hts hown hK hZ (hZ.k 0 rfl rfl) tw_288 dX10_begin_1 (fun hZ => ?_)
  refine z_aload_n hx hb dX10_begin_4 rfl (lv_at hl 1 rfl) ?_
  obtain ⟨a1, ha1, hf⟩ := Option.bind_eq_some_iff.mp hf
  have hZ := hZ.add (r := some a1) (k := 10) (by decide) (fun q hq => by cases hq; exact hZ.k 0 rfl ha1)
  rw [ha1]
  obtain ⟨w2, hc3, hf⟩ := Option.bind_eq_some_iff.mp hf
  refine z_callV (ci := 9) (As := [va_rf p0]) (rest := []) (c_X9_takeOver l E n w a1 p0 w2 (hZ.k 0 rfl rfl) (fun q hq => hZ.k 3 rfl hq) hc3) mo_X9_takeOver rfl (by decide) rfl tw_1049 tw_1050 tw_1048 hx hb hml hts hown hK ⟨Nat.le_trans (by decide) hR.1, Nat.le_trans (by decide) hR.2⟩ hZ (hZ.k 0 rfl rfl) rfl hl.1 rfl (Nat.le_of_ble_eq_true rfl) rfl dX10_begin_5 (fun H locs cells slots hX hZ => ?_)
  obtain rfl := Option.some.inj hf
  exact z_vret hx hb hr hlocks hZ trivial dX10_begin_8

