/-! ===== meanings and contracts, laid by wip/p33/gen ===== -/
def f_X11_addRoute (n : Nat) (w : Wd) (this : Nat) (p0 : Int32) (p1 : Int32) (p2 : Int32) (p3 : Int32) : Option (Int32 × Wd) :=
  wd_b2 (f_X11_hostOf n w this p0) fun r3 w1 =>
  Option.bind r3 fun a4 =>
  wd_let (wd_R w1 200 a4) fun v5 =>
  Option.bind (f_X11_needAddress n w1 p1) fun w7 =>
  Option.bind (f_X11_needLength n w7 p2) fun w9 =>
  Option.bind v5 fun a11 =>
  wd_b2 (f_X3_mayLeadVia n w9 a11 p3) fun r14 w12 =>
  if r14 = 0 then
    none
  else
    wd_b2 (f_X3_putRoute n w12 a11 p1 p2 p3) fun r18 w16 =>
    if 0 ≤ r18 then
      some (r18, w16)
    else
      none
set_option maxHeartbeats 4000000 in
set_option maxRecDepth 100000 in
theorem c_X11_addRoute (l : Launch) (E : wd_E) (n : Nat) (w : Wd) (this : Nat) (p0 : Int32) (p1 : Int32) (p2 : Int32) (p3 : Int32) (r' : Int32) (w' : Wd) (k_this : wd_K w this = 12) (hf : f_X11_addRoute n w this p0 p1 p2 p3 = some (r', w')) : wd_C l E yX11_addRoute cX11_addRoute 7 (some .int) 5 119 [.ref this, .int p0, .int p1, .int p2, .int p3] w (some (.int r')) w' True := by
  refine wd_ofW (own := RX11) (nm := "addRoute") (ks := [(some this, 12)]) (lv := [(0, .ref this), (1, .int p0), (2, .int p1), (3, .int p2), (4, .int p3)]) (by decide) rfl rfl (Nat.le_of_ble_eq_true rfl) rfl (List.forall_mem_cons.mpr ⟨⟨by decide, fun q hq => by cases hq; exact k_this⟩, (fun _ hq => absurd hq List.not_mem_nil)⟩) ?_
  intro p e s m args below meth c R H ls C hR hZ hl
  obtain ⟨hx, hb, hr, hml, hts, hown, hlocks, hmn, hK⟩ := id C
  unfold f_X11_addRoute at hf
  refine lv_aload_n hx hb dX11_addRoute_0 rfl (lv_at hl 0 rfl) ?_
  refine lv_iload_n hx hb dX11_addRoute_1 rfl (lv_at hl 1 rfl) ?_
  obtain ⟨r3, w1, hc2, hf⟩ := wd_b2_e hf
  refine z_callV (ci := 11) (As := [.int p0]) (rest := []) (c_X11_hostOf l E n w this p0 r3 w1 (hZ.k 0 rfl rfl) hc2) mo_X11_hostOf rfl (by decide) rfl tw_448 tw_2 tw_446 hx hb hml hts hown hK ⟨Nat.le_trans (by decide) hR.1, Nat.le_trans (by decide) hR.2⟩ hZ (hZ.k 0 rfl rfl) rfl hl.1 rfl (Nat.le_of_ble_eq_true rfl) rfl dX11_addRoute_2 (fun H locs cells slots hX hZ => ?_)
  have hZ := hZ.add (by decide) hX
  obtain ⟨a4, ha4, hf⟩ := Option.bind_eq_some_iff.mp hf
  subst ha4
  have hl : lv_has ls 7 [(0, .ref this), (1, .int p0), (2, .int p1), (3, .int p2), (4, .int p3)] := hl
  have hZ : wd_Z E w R s w1 H locs cells slots [(some a4, 3), (some this, 12)] := hZ
  refine z_getR (tk := 3) fd_200 rfl hx hb hts hown hK hZ (hZ.k 0 rfl rfl) tw_205 dX11_addRoute_5 (fun hZ => ?_)
  obtain ⟨v5, e6, hf⟩ := wd_let_e hf
  rw [e6]
  rw [e6] at hZ
  refine z_astore (lv' := [(5, va_rf v5), (0, .ref this), (1, .int p0), (2, .int p1), (3, .int p2), (4, .int p3)]) hx hb dX11_addRoute_8 hl (by decide) rfl (fun ls hl => ?_)
  refine lv_iload_n hx hb dX11_addRoute_10 rfl (lv_at hl 3 rfl) ?_
  obtain ⟨w7, hc8, hf⟩ := Option.bind_eq_some_iff.mp hf
  refine z_callS (As := [.int p1]) (rest := []) (c_X11_needAddress l E n w1 p1 w7  hc8) mo_X11_needAddress tw_535 tw_534 hx hb hml hts hown hK ⟨Nat.le_trans (by decide) hR.1, Nat.le_trans (by decide) hR.2⟩ hZ rfl hl.1 rfl (Nat.le_of_ble_eq_true rfl) rfl dX11_addRoute_11 (fun H locs cells slots hX hZ => ?_)
  refine lv_iload_n hx hb dX11_addRoute_14 rfl (lv_at hl 4 rfl) ?_
  obtain ⟨w9, hc10, hf⟩ := Option.bind_eq_some_iff.mp hf
  refine z_callS (As := [.int p2]) (rest := []) (c_X11_needLength l E n w7 p2 w9  hc10) mo_X11_needLength tw_539 tw_538 hx hb hml hts hown hK ⟨Nat.le_trans (by decide) hR.1, Nat.le_trans (by decide) hR.2⟩ hZ rfl hl.1 rfl (Nat.le_of_ble_eq_true rfl) rfl dX11_addRoute_15 (fun H locs cells slots hX hZ => ?_)
  refine z_aload hx hb dX11_addRoute_18 (lv_at hl 0 rfl) ?_
  refine lv_iload hx hb dX11_addRoute_20 (lv_at hl 5 rfl) ?_
  obtain ⟨a11, ha11, hf⟩ := Option.bind_eq_some_iff.mp hf
  subst ha11
  have hl : lv_has ls 7 [(5, .ref a11), (0, .ref this), (1, .int p0), (2, .int p1), (3, .int p2), (4, .int p3)] := hl
  have hZ : wd_Z E w R s w9 H locs cells slots [(some a11, 4), (some a4, 3), (some this, 12)] := hZ
  obtain ⟨r14, w12, hc13, hf⟩ := wd_b2_e hf
  refine z_callV (ci := 3) (As := [.int p3]) (rest := []) (c_X3_mayLeadVia l E n w9 a11 p3 r14 w12 (hZ.k 0 rfl rfl) hc13) mo_X3_mayLeadVia rfl (by decide) rfl tw_614 tw_615 tw_613 hx hb hml hts hown hK ⟨Nat.le_trans (by decide) hR.1, Nat.le_trans (by decide) hR.2⟩ hZ (hZ.k 0 rfl rfl) rfl hl.1 rfl (Nat.le_of_ble_eq_true rfl) rfl dX11_addRoute_22 (fun H locs cells slots hX hZ => ?_)
  refine lv_if_ne (tgt := 38) hx hb dX11_addRoute_25 (by decide) (fun h15 => ?_) (fun h15 => ?_)
  · have hf := wd_ite_n h15 hf
    refine lv_aload hx hb dX11_addRoute_38 (lv_at hl 0 rfl) ?_
    refine lv_iload_n hx hb dX11_addRoute_40 rfl (lv_at hl 3 rfl) ?_
    refine lv_iload_n hx hb dX11_addRoute_41 rfl (lv_at hl 4 rfl) ?_
    refine lv_iload hx hb dX11_addRoute_42 (lv_at hl 5 rfl) ?_
    obtain ⟨r18, w16, hc17, hf⟩ := wd_b2_e hf
    refine z_callV (ci := 3) (As := [.int p1, .int p2, .int p3]) (rest := []) (c_X3_putRoute l E n w12 a11 p1 p2 p3 r18 w16 (hZ.k 0 rfl rfl) hc17) mo_X3_putRoute rfl (by decide) rfl tw_619 tw_620 tw_618 hx hb hml hts hown hK ⟨Nat.le_trans (by decide) hR.1, Nat.le_trans (by decide) hR.2⟩ hZ (hZ.k 0 rfl rfl) rfl hl.1 rfl (Nat.le_of_ble_eq_true rfl) rfl dX11_addRoute_44 (fun H locs cells slots hX hZ => ?_)
    refine lv_istore (lv' := [(6, .int r18), (5, .ref a11), (0, .ref this), (1, .int p0), (2, .int p1), (3, .int p2), (4, .int p3)]) hx hb dX11_addRoute_47 hl (by decide) rfl (fun ls hl => ?_)
    refine lv_iload hx hb dX11_addRoute_49 (lv_at hl 0 rfl) ?_
    refine lv_if_ge (tgt := 64) hx hb dX11_addRoute_51 (by decide) (fun h19 => ?_) (fun h19 => ?_)
    · have hf := wd_ite_p h19 hf
      refine lv_iload hx hb dX11_addRoute_64 (lv_at hl 0 rfl) ?_
      obtain ⟨rfl, rfl⟩ := Prod.mk.inj (Option.some.inj hf)
      exact z_iret hx hb hr hlocks hZ trivial dX11_addRoute_66
    · have hf := wd_ite_n h19 hf
      cases hf
  · have hf := wd_ite_p h15 hf
    cases hf

def f_X11_setForwarding (n : Nat) (w : Wd) (this : Nat) (p0 : Int32) (p1 : Int32) : Option (Int32 × Wd) :=
  wd_b2 (f_X11_hostOf n w this p0) fun r3 w1 =>
  Option.bind r3 fun a4 =>
  wd_let (wd_R w1 200 a4) fun v5 =>
  Option.bind v5 fun a7 =>
  wd_let (wd_I w1 301 a7) fun v8 =>
  wd_gd (¬ (p1 = 0 ∨ p1 = 1)) <|
  wd_let (wd_sI w1 301 a7 p1) fun w11 =>
  wd_gd (¬ (v8 = 0 ∨ v8 = 1)) <|
  some (v8, w11)
set_option maxHeartbeats 4000000 in
set_option maxRecDepth 100000 in
theorem c_X11_setForwarding (l : Launch) (E : wd_E) (n : Nat) (w : Wd) (this : Nat) (p0 : Int32) (p1 : Int32) (r' : Int32) (w' : Wd) (k_this : wd_K w this = 12) (hf : f_X11_setForwarding n w this p0 p1 = some (r', w')) : wd_C l E yX11_setForwarding cX11_setForwarding 5 (some .boolean) 2 43 [.ref this, .int p0, .int p1] w (some (.int r')) w' True := by
  refine wd_ofW (own := RX11) (nm := "setForwarding") (ks := [(some this, 12)]) (lv := [(0, .ref this), (1, .int p0), (2, .int p1)]) (by decide) rfl rfl (Nat.le_of_ble_eq_true rfl) rfl (List.forall_mem_cons.mpr ⟨⟨by decide, fun q hq => by cases hq; exact k_this⟩, (fun _ hq => absurd hq List.not_mem_nil)⟩) ?_
  intro p e s m args below meth c R H ls C hR hZ hl
  obtain ⟨hx, hb, hr, hml, hts, hown, hlocks, hmn, hK⟩ := id C
  unfold f_X11_setForwarding at hf
  refine lv_aload_n hx hb dX11_setForwarding_0 rfl (lv_at hl 0 rfl) ?_
  refine lv_iload_n hx hb dX11_setForwarding_1 rfl (lv_at hl 1 rfl) ?_
  obtain ⟨r3, w1, hc2, hf⟩ := wd_b2_e hf
  refine z_callV (ci := 11) (As := [.int p0]) (rest := []) (c_X11_hostOf l E n w this p0 r3 w1 (hZ.k 0 rfl rfl) hc2) mo_X11_hostOf rfl (by decide) rfl tw_448 tw_2 tw_446 hx hb hml hts hown hK ⟨Nat.le_trans (by decide) hR.1, Nat.le_trans (by decide) hR.2⟩ hZ (hZ.k 0 rfl rfl) rfl hl.1 rfl (Nat.le_of_ble_eq_true rfl) rfl dX11_setForwarding_2 (fun H locs cells slots hX hZ => ?_)
  have hZ := hZ.add (by decide) hX
  obtain ⟨a4, ha4, hf⟩ := Option.bind_eq_some_iff.mp hf
  subst ha4
  have hl : lv_has ls 5 [(0, .ref this), (1, .int p0), (2, .int p1)] := hl
  have hZ : wd_Z E w R s w1 H locs cells slots [(some a4, 3), (some this, 12)] := hZ
  refine z_getR (tk := 3) fd_200 rfl hx hb hts hown hK hZ (hZ.k 0 rfl rfl) tw_205 dX11_setForwarding_5 (fun hZ => ?_)
  obtain ⟨v5, e6, hf⟩ := wd_let_e hf
  rw [e6]
  rw [e6] at hZ
  refine z_astore_n (lv' := [(3, va_rf v5), (0, .ref this), (1, .int p0), (2, .int p1)]) hx hb dX11_setForwarding_8 rfl hl (by decide) rfl (fun ls hl => ?_)
  refine z_aload_n hx hb dX11_setForwarding_9 rfl (lv_at hl 0 rfl) ?_
  obtain ⟨a7, ha7, hf⟩ := Option.bind_eq_some_iff.mp hf
  subst ha7
  have hl : lv_has ls 5 [(3, .ref a7), (0, .ref this), (1, .int p0), (2, .int p1)] := hl
  have hZ : wd_Z E w R s w1 H locs cells slots [(some a7, 4), (some a4, 3), (some this, 12)] := hZ
  refine z_getI fd_301 rfl hx hb hts hown hK hZ (hZ.k 0 rfl rfl) tw_77 dX11_setForwarding_10 ?_
  obtain ⟨v8, e9, hf⟩ := wd_let_e hf
  rw [e9]
  refine lv_istore (lv' := [(4, .int v8), (3, .ref a7), (0, .ref this), (1, .int p0), (2, .int p1)]) hx hb dX11_setForwarding_13 hl (by decide) rfl (fun ls hl => ?_)
  refine lv_aload_n hx hb dX11_setForwarding_15 rfl (lv_at hl 1 rfl) ?_
  refine lv_iload_n hx hb dX11_setForwarding_16 rfl (lv_at hl 4 rfl) ?_
  obtain ⟨h10, hf⟩ := wd_gd_e hf
  refine z_putI fd_301 cok_3 rfl rfl rfl (wd_zn h10) (wd_zf h10) hx hb hts hown hK hZ (hZ.k 0 rfl rfl) tw_77 dX11_setForwarding_17 (fun H locs hZ => ?_)
  obtain ⟨w11, e12, hf⟩ := wd_let_e hf
  rw [e12] at hZ
  refine lv_iload hx hb dX11_setForwarding_20 (lv_at hl 0 rfl) ?_
  obtain ⟨h13, hf⟩ := wd_gd_e hf
  obtain ⟨rfl, rfl⟩ := Prod.mk.inj (Option.some.inj hf)
  exact z_zret (wd_zn h13) hx hb hr hlocks hZ trivial dX11_setForwarding_22

def f_X11_needTtl_j11 (n : Nat) (w : Wd) : Option Wd :=
  none
def f_X11_needTtl (n : Nat) (w : Wd) (p0 : Int32) : Option Wd :=
  if p0 < (1 : Int32) then
    f_X11_needTtl_j11 n w
  else
    if p0 ≤ (40 : Int32) then
      some w
    else
      f_X11_needTtl_j11 n w
set_option maxHeartbeats 4000000 in
set_option maxRecDepth 100000 in
theorem v_X11_needTtl_j11 {p : Program} {l : Launch} {e : Env} {R : Room} {s : State} {m : MethodId} {args : Array Value} {below : List Frame} {meth : Method} {c : Code} {E : wd_E} {w0 : Wd} {w' : Wd} (n : Nat) (C : wd_X p s m args meth c cX11_needTtl RX11 1 none "needTtl" E) (hR : 0 ≤ R.frames ∧ 0 ≤ R.locals) (w : Wd) (H : Heap) (locs : List Loc) (cells slots : Nat) (ls : Array Slot) (hZ : wd_Z E w0 R s w H locs cells slots []) (hl : lv_has ls 1 []) (hf : f_X11_needTtl_j11 n w = some w') : W p l e R s m args below meth c H locs cells slots (wd_fin E w0 none w' True R args s below) (F0 m 11 ls []) := by
  obtain ⟨hx, hb, hr, hml, hts, hown, hlocks, hmn, hK⟩ := id C
  unfold f_X11_needTtl_j11 at hf
  cases hf

set_option maxHeartbeats 4000000 in
set_option maxRecDepth 100000 in
theorem c_X11_needTtl (l : Launch) (E : wd_E) (n : Nat) (w : Wd) (p0 : Int32) (w' : Wd)  (hf : f_X11_needTtl n w p0 = some w') : wd_C l E yX11_needTtl cX11_needTtl 1 none 0 0 [.int p0] w none w' True := by
  refine wd_ofW (own := RX11) (nm := "needTtl") (ks := []) (lv := [(0, .int p0)]) (by decide) rfl rfl (Nat.le_of_ble_eq_true rfl) rfl (fun _ hq => absurd hq List.not_mem_nil) ?_
  intro p e s m args below meth c R H ls C hR hZ hl
  obtain ⟨hx, hb, hr, hml, hts, hown, hlocks, hmn, hK⟩ := id C
  unfold f_X11_needTtl at hf
  refine lv_iload_n hx hb dX11_needTtl_0 rfl (lv_at hl 0 rfl) ?_
  refine lv_iconst (v := 1) hx hb dX11_needTtl_1 (by decide) ?_
  refine lv_icmp_lt (tgt := 11) hx hb dX11_needTtl_2 (by decide) (fun h1 => ?_) (fun h1 => ?_)
  · have hf := wd_ite_p h1 hf
    exact v_X11_needTtl_j11 n C hR w _ _ _ _ _ ⟨hZ.1, hZ.2.1, hZ.2.2.1, hZ.2.2.2.1, (fun _ hq => absurd hq List.not_mem_nil), hZ.2.2.2.2.2⟩ (lv_sub hl [] rfl) hf
  · have hf := wd_ite_n h1 hf
    refine lv_iload_n hx hb dX11_needTtl_5 rfl (lv_at hl 0 rfl) ?_
    refine lv_bipush (v := 40) hx hb dX11_needTtl_6 (by decide) ?_
    refine lv_icmp_le (tgt := 22) hx hb dX11_needTtl_8 (by decide) (fun h2 => ?_) (fun h2 => ?_)
    · have hf := wd_ite_p h2 hf
      obtain rfl := Option.some.inj hf
      exact z_vret hx hb hr hlocks hZ trivial dX11_needTtl_22
    · have hf := wd_ite_n h2 hf
      exact v_X11_needTtl_j11 n C hR w _ _ _ _ _ ⟨hZ.1, hZ.2.1, hZ.2.2.1, hZ.2.2.2.1, (fun _ hq => absurd hq List.not_mem_nil), hZ.2.2.2.2.2⟩ (lv_sub hl [] rfl) hf

def f_X11_send_j24 (n : Nat) (w : Wd) : Option (Int32 × Wd) :=
  none
def f_X11_send_j54 (n : Nat) (y0 : Int32) (y1 : Option Nat) (y2 : Option Nat) (x2 : Int32) (x4 : Int32) (x5 : Int32) (x6 : Int32) (w : Wd) : Option (Int32 × Wd) :=
  Option.bind y2 fun a11 =>
  wd_b2 (f_X9_launch n w a11 y1 y0 x2 x4 x5 x6) fun r14 w12 =>
  some (r14, w12)
def f_X11_send (n : Nat) (w : Wd) (this : Nat) (p0 : Int32) (p1 : Int32) (p2 : Int32) (p3 : Int32) (p4 : Int32) (p5 : Int32) : Option (Int32 × Wd) :=
  wd_b2 (f_X11_hostOf n w this p0) fun r3 w1 =>
  Option.bind (f_X11_needAddress n w1 p1) fun w4 =>
  if p3 < 0 then
    f_X11_send_j24 n w4
  else
    if p3 ≤ (400 : Int32) then
      Option.bind (f_X11_needTtl n w4 p4) fun w8 =>
      if p2 = 0 then
        f_X11_send_j54 n (0 : Int32) r3 (wd_R w8 1101 this) p1 p3 p4 p5 w8
      else
        f_X11_send_j54 n (1 : Int32) r3 (wd_R w8 1101 this) p1 p3 p4 p5 w8
    else
      f_X11_send_j24 n w4
set_option maxHeartbeats 4000000 in
set_option maxRecDepth 100000 in
theorem v_X11_send_j24 {p : Program} {l : Launch} {e : Env} {R : Room} {s : State} {m : MethodId} {args : Array Value} {below : List Frame} {meth : Method} {c : Code} {E : wd_E} {w0 : Wd} {r' : Int32} {w' : Wd} (n : Nat) (C : wd_X p s m args meth c cX11_send RX11 8 (some .int) "send" E) (hR : 7 ≤ R.frames ∧ 178 ≤ R.locals) (w : Wd) (H : Heap) (locs : List Loc) (cells slots : Nat) (ls : Array Slot) (hZ : wd_Z E w0 R s w H locs cells slots []) (hl : lv_has ls 8 []) (hf : f_X11_send_j24 n w = some (r', w')) : W p l e R s m args below meth c H locs cells slots (wd_fin E w0 (some (.int r')) w' True R args s below) (F0 m 24 ls []) := by
  obtain ⟨hx, hb, hr, hml, hts, hown, hlocks, hmn, hK⟩ := id C
  unfold f_X11_send_j24 at hf
  cases hf

set_option maxHeartbeats 4000000 in
set_option maxRecDepth 100000 in
theorem v_X11_send_j54 {p : Program} {l : Launch} {e : Env} {R : Room} {s : State} {m : MethodId} {args : Array Value} {below : List Frame} {meth : Method} {c : Code} {E : wd_E} {w0 : Wd} {r' : Int32} {w' : Wd} (n : Nat) (C : wd_X p s m args meth c cX11_send RX11 8 (some .int) "send" E) (hR : 7 ≤ R.frames ∧ 178 ≤ R.locals) (y0 : Int32) (y1 : Option Nat) (y2 : Option Nat) (x2 : Int32) (x4 : Int32) (x5 : Int32) (x6 : Int32) (w : Wd) (H : Heap) (locs : List Loc) (cells slots : Nat) (ls : Array Slot) (hZ : wd_Z E w0 R s w H locs cells slots [(y1, 3), (y2, 10)]) (hl : lv_has ls 8 [(2, .int x2), (4, .int x4), (5, .int x5), (6, .int x6)]) (hf : f_X11_send_j54 n y0 y1 y2 x2 x4 x5 x6 w = some (r', w')) : W p l e R s m args below meth c H locs cells slots (wd_fin E w0 (some (.int r')) w' True R args s below) (F0 m 54 ls [.int y0, va_rf y1, va_rf y2]) := by
  obtain ⟨hx, hb, hr, hml, hts, hown, hlocks, hmn, hK⟩ := id C
  unfold f_X11_send_j54 at hf
  refine lv_iload_n hx hb dX11_send_54 rfl (lv_at hl 0 rfl) ?_
  refine lv_iload hx hb dX11_send_55 (lv_at hl 1 rfl) ?_
  refine lv_iload hx hb dX11_send_57 (lv_at hl 2 rfl) ?_
  refine lv_iload hx hb dX11_send_59 (lv_at hl 3 rfl) ?_
  obtain ⟨a11, ha11, hf⟩ := Option.bind_eq_some_iff.mp hf
  subst ha11
  have hl : lv_has ls 8 [(2, .int x2), (4, .int x4), (5, .int x5), (6, .int x6)] := hl
  have hZ : wd_Z E w0 R s w H locs cells slots [(y1, 3), (some a11, 10)] := hZ
  obtain ⟨r14, w12, hc13, hf⟩ := wd_b2_e hf
  refine z_callV (ci := 9) (As := [va_rf y1, .int y0, .int x2, .int x4, .int x5, .int x6]) (rest := []) (c_X9_launch l E n w a11 y1 y0 x2 x4 x5 x6 r14 w12 (hZ.k 1 rfl rfl) (fun q hq => hZ.k 0 rfl hq) hc13) mo_X9_launch rfl (by decide) rfl tw_642 tw_643 tw_641 hx hb hml hts hown hK ⟨Nat.le_trans (by decide) hR.1, Nat.le_trans (by decide) hR.2⟩ hZ (hZ.k 1 rfl rfl) rfl hl.1 rfl (Nat.le_of_ble_eq_true rfl) rfl dX11_send_61 (fun H locs cells slots hX hZ => ?_)
  obtain ⟨rfl, rfl⟩ := Prod.mk.inj (Option.some.inj hf)
  exact z_iret hx hb hr hlocks hZ trivial dX11_send_64

set_option maxHeartbeats 4000000 in
set_option maxRecDepth 100000 in
theorem c_X11_send (l : Launch) (E : wd_E) (n : Nat) (w : Wd) (this : Nat) (p0 : Int32) (p1 : Int32) (p2 : Int32) (p3 : Int32) (p4 : Int32) (p5 : Int32) (r' : Int32) (w' : Wd) (k_this : wd_K w this = 12) (hf : f_X11_send n w this p0 p1 p2 p3 p4 p5 = some (r', w')) : wd_C l E yX11_send cX11_send 8 (some .int) 7 178 [.ref this, .int p0, .int p1, .int p2, .int p3, .int p4, .int p5] w (some (.int r')) w' True := by
  refine wd_ofW (own := RX11) (nm := "send") (ks := [(some this, 12)]) (lv := [(0, .ref this), (1, .int p0), (2, .int p1), (3, .int p2), (4, .int p3), (5, .int p4), (6, .int p5)]) (by decide) rfl rfl (Nat.le_of_ble_eq_true rfl) rfl (List.forall_mem_cons.mpr ⟨⟨by decide, fun q hq => by cases hq; exact k_this⟩, (fun _ hq => absurd hq List.not_mem_nil)⟩) ?_
  intro p e s m args below meth c R H ls C hR hZ hl
  obtain ⟨hx, hb, hr, hml, hts, hown, hlocks, hmn, hK⟩ := id C
  unfold f_X11_send at hf
  refine lv_aload_n hx hb dX11_send_0 rfl (lv_at hl 0 rfl) ?_
  refine lv_iload_n hx hb dX11_send_1 rfl (lv_at hl 1 rfl) ?_
  obtain ⟨r3, w1, hc2, hf⟩ := wd_b2_e hf
  refine z_callV (ci := 11) (As := [.int p0]) (rest := []) (c_X11_hostOf l E n w this p0 r3 w1 (hZ.k 0 rfl rfl) hc2) mo_X11_hostOf rfl (by decide) rfl tw_448 tw_2 tw_446 hx hb hml hts hown hK ⟨Nat.le_trans (by decide) hR.1, Nat.le_trans (by decide) hR.2⟩ hZ (hZ.k 0 rfl rfl) rfl hl.1 rfl (Nat.le_of_ble_eq_true rfl) rfl dX11_send_2 (fun H locs cells slots hX hZ => ?_)
  have hZ := hZ.add (by decide) hX
  refine z_astore (lv' := [(7, va_rf r3), (0, .ref this), (1, .int p0), (2, .int p1), (3, .int p2), (4, .int p3), (5, .int p4), (6, .int p5)]) hx hb dX11_send_5 hl (by decide) rfl (fun ls hl => ?_)
  refine lv_iload_n hx hb dX11_send_7 rfl (lv_at hl 3 rfl) ?_
  obtain ⟨w4, hc5, hf⟩ := Option.bind_eq_some_iff.mp hf
  refine z_callS (As := [.int p1]) (rest := []) (c_X11_needAddress l E n w1 p1 w4  hc5) mo_X11_needAddress tw_535 tw_534 hx hb hml hts hown hK ⟨Nat.le_trans (by decide) hR.1, Nat.le_trans (by decide) hR.2⟩ hZ rfl hl.1 rfl (Nat.le_of_ble_eq_true rfl) rfl dX11_send_8 (fun H locs cells slots hX hZ => ?_)
  refine lv_iload hx hb dX11_send_11 (lv_at hl 5 rfl) ?_
  refine lv_if_lt (tgt := 24) hx hb dX11_send_13 (by decide) (fun h6 => ?_) (fun h6 => ?_)
  · have hf := wd_ite_p h6 hf
    exact v_X11_send_j24 n C hR w4 _ _ _ _ _ ⟨hZ.1, hZ.2.1, hZ.2.2.1, hZ.2.2.2.1, (fun _ hq => absurd hq List.not_mem_nil), hZ.2.2.2.2.2⟩ (lv_sub hl [] rfl) hf
  · have hf := wd_ite_n h6 hf
    refine lv_iload hx hb dX11_send_16 (lv_at hl 5 rfl) ?_
    refine lv_sipush (v := 400) hx hb dX11_send_18 (by decide) ?_
    refine lv_icmp_le (tgt := 34) hx hb dX11_send_21 (by decide) (fun h7 => ?_) (fun h7 => ?_)
    · have hf := wd_ite_p h7 hf
      refine lv_iload hx hb dX11_send_34 (lv_at hl 6 rfl) ?_
      obtain ⟨w8, hc9, hf⟩ := Option.bind_eq_some_iff.mp hf
      refine z_callS (As := [.int p4]) (rest := []) (c_X11_needTtl l E n w4 p4 w8  hc9) mo_X11_needTtl tw_638 tw_637 hx hb hml hts hown hK ⟨Nat.le_trans (by decide) hR.1, Nat.le_trans (by decide) hR.2⟩ hZ rfl hl.1 rfl (Nat.le_of_ble_eq_true rfl) rfl dX11_send_36 (fun H locs cells slots hX hZ => ?_)
      refine lv_aload_n hx hb dX11_send_39 rfl (lv_at hl 1 rfl) ?_
      refine z_getR (tk := 9) fd_1101 rfl hx hb hts hown hK hZ (hZ.k 1 rfl rfl) tw_307 dX11_send_40 (fun hZ => ?_)
      refine z_aload hx hb dX11_send_43 (lv_at hl 0 rfl) ?_
      refine lv_iload_n hx hb dX11_send_45 rfl (lv_at hl 4 rfl) ?_
      refine lv_if_eq (tgt := 53) hx hb dX11_send_46 (by decide) (fun h10 => ?_) (fun h10 => ?_)
      · have hf := wd_ite_p h10 hf
        refine lv_iconst (v := 0) hx hb dX11_send_53 (by decide) ?_
        exact v_X11_send_j54 n C hR (0 : Int32) r3 (wd_R w8 1101 this) p1 p3 p4 p5 w8 _ _ _ _ _ ⟨hZ.1, hZ.2.1, hZ.2.2.1, hZ.2.2.2.1, (List.forall_mem_cons.mpr ⟨⟨by decide, (fun q hq => hZ.k 1 rfl hq)⟩, (List.forall_mem_cons.mpr ⟨⟨by decide, (fun q hq => hZ.k 0 rfl hq)⟩, (fun _ hq => absurd hq List.not_mem_nil)⟩)⟩), hZ.2.2.2.2.2⟩ (lv_sub hl [3, 5, 6, 7] rfl) hf
      · have hf := wd_ite_n h10 hf
        refine lv_iconst (v := 1) hx hb dX11_send_49 (by decide) ?_
        refine lv_goto (tgt := 54) hx hb dX11_send_50 (by decide) ?_
        exact v_X11_send_j54 n C hR (1 : Int32) r3 (wd_R w8 1101 this) p1 p3 p4 p5 w8 _ _ _ _ _ ⟨hZ.1, hZ.2.1, hZ.2.2.1, hZ.2.2.2.1, (List.forall_mem_cons.mpr ⟨⟨by decide, (fun q hq => hZ.k 1 rfl hq)⟩, (List.forall_mem_cons.mpr ⟨⟨by decide, (fun q hq => hZ.k 0 rfl hq)⟩, (fun _ hq => absurd hq List.not_mem_nil)⟩)⟩), hZ.2.2.2.2.2⟩ (lv_sub hl [3, 5, 6, 7] rfl) hf
    · have hf := wd_ite_n h7 hf
      exact v_X11_send_j24 n C hR w4 _ _ _ _ _ ⟨hZ.1, hZ.2.1, hZ.2.2.1, hZ.2.2.2.1, (fun _ hq => absurd hq List.not_mem_nil), hZ.2.2.2.2.2⟩ (lv_sub hl [] rfl) hf

def f_X11_step_j11 (n : Nat) (w : Wd) : Option (Int32 × Wd) :=
  none
def f_X11_step_j55 (n : Nat) (x0 : Nat) (w : Wd) : Option (Int32 × Wd) :=
  Option.bind (wd_R w 1101 x0) fun a4 =>
  Option.bind (wd_R w 900 a4) fun a5 =>
  some ((wd_I w 801 a5), w)
def f_X11_step_l23 (n : Nat) (rec23 : Nat → Int32 → Int32 → Wd → Option (Int32 × Wd)) (x0 : Nat) (x1 : Int32) (x2 : Int32) (w : Wd) : Option (Int32 × Wd) :=
  if x1 ≤ x2 then
    f_X11_step_j55 n x0 w
  else
    Option.bind (wd_R w 1101 x0) fun a6 =>
    Option.bind (wd_R w 900 a6) fun a7 =>
    if (wd_I w 801 a7) ≤ 0 then
      f_X11_step_j55 n x0 w
    else
      Option.bind (wd_R w 1101 x0) fun a9 =>
      wd_b2 (f_X9_deliverNext n w a9) fun r12 w10 =>
      wd_let (x2 + 1) fun v13 =>
      rec23 x0 x1 v13 w10
def f_X11_step (n : Nat) (w : Wd) (this : Nat) (p0 : Int32) : Option (Int32 × Wd) :=
  if p0 < (1 : Int32) then
    f_X11_step_j11 n w
  else
    if p0 ≤ (60 : Int32) then
      wd_lp4 (f_X11_step_l23 n) n this p0 (0 : Int32) w
    else
      f_X11_step_j11 n w
set_option maxHeartbeats 4000000 in
set_option maxRecDepth 100000 in
theorem v_X11_step_j11 {p : Program} {l : Launch} {e : Env} {R : Room} {s : State} {m : MethodId} {args : Array Value} {below : List Frame} {meth : Method} {c : Code} {E : wd_E} {w0 : Wd} {r' : Int32} {w' : Wd} (n : Nat) (C : wd_X p s m args meth c cX11_step RX11 3 (some .int) "step" E) (hR : 7 ≤ R.frames ∧ 171 ≤ R.locals) (w : Wd) (H : Heap) (locs : List Loc) (cells slots : Nat) (ls : Array Slot) (hZ : wd_Z E w0 R s w H locs cells slots []) (hl : lv_has ls 3 []) (hf : f_X11_step_j11 n w = some (r', w')) : W p l e R s m args below meth c H locs cells slots (wd_fin E w0 (some (.int r')) w' True R args s below) (F0 m 11 ls []) := by
  obtain ⟨hx, hb, hr, hml, hts, hown, hlocks, hmn, hK⟩ := id C
  unfold f_X11_step_j11 at hf
  cases hf

set_option maxHeartbeats 4000000 in
set_option maxRecDepth 100000 in
theorem v_X11_step_j55 {p : Program} {l : Launch} {e : Env} {R : Room} {s : State} {m : MethodId} {args : Array Value} {below : List Frame} {meth : Method} {c : Code} {E : wd_E} {w0 : Wd} {r' : Int32} {w' : Wd} (n : Nat) (C : wd_X p s m args meth c cX11_step RX11 3 (some .int) "step" E) (hR : 7 ≤ R.frames ∧ 171 ≤ R.locals) (x0 : Nat) (w : Wd) (H : Heap) (locs : List Loc) (cells slots : Nat) (ls : Array Slot) (hZ : wd_Z E w0 R s w H locs cells slots [(some x0, 12)]) (hl : lv_has ls 3 [(0, .ref x0)]) (hf : f_X11_step_j55 n x0 w = some (r', w')) : W p l e R s m args below meth c H locs cells slots (wd_fin E w0 (some (.int r')) w' True R args s below) (F0 m 55 ls []) := by
  obtain ⟨hx, hb, hr, hml, hts, hown, hlocks, hmn, hK⟩ := id C
  unfold f_X11_step_j55 at hf
  refine lv_aload_n hx hb dX11_step_55 rfl (lv_at hl 0 rfl) ?_
  refine z_getR (tk := 9) fd_1101 rfl hx hb hts hown hK hZ (hZ.k 0 rfl rfl) tw_307 dX11_step_56 (fun hZ => ?_)
  obtain ⟨a4, ha4, hf⟩ := Option.bind_eq_some_iff.mp hf
  have hZ := hZ.add (r := some a4) (k := 10) (by decide) (fun q hq => by cases hq; exact hZ.k 0 rfl ha4)
  rw [ha4]
  refine z_getR (tk := 8) fd_900 rfl hx hb hts hown hK hZ (hZ.k 0 rfl rfl) tw_244 dX11_step_59 (fun hZ => ?_)
  obtain ⟨a5, ha5, hf⟩ := Option.bind_eq_some_iff.mp hf
  have hZ := hZ.add (r := some a5) (k := 9) (by decide) (fun q hq => by cases hq; exact hZ.k 0 rfl ha5)
  rw [ha5]
  refine z_getI fd_801 rfl hx hb hts hown hK hZ (hZ.k 0 rfl rfl) tw_152 dX11_step_62 ?_
  obtain ⟨rfl, rfl⟩ := Prod.mk.inj (Option.some.inj hf)
  exact z_iret hx hb hr hlocks hZ trivial dX11_step_65

set_option maxHeartbeats 4000000 in
set_option maxRecDepth 100000 in
theorem v_X11_step_b23 {p : Program} {l : Launch} {e : Env} {R : Room} {s : State} {m : MethodId} {args : Array Value} {below : List Frame} {meth : Method} {c : Code} {E : wd_E} {w0 : Wd} {r' : Int32} {w' : Wd} (n : Nat) (C : wd_X p s m args meth c cX11_step RX11 3 (some .int) "step" E) (hR : 7 ≤ R.frames ∧ 171 ≤ R.locals) (rec23 : Nat → Int32 → Int32 → Wd → Option (Int32 × Wd)) (hrec23 : ∀ (x0_ : Nat) (x1_ : Int32) (x2_ : Int32) (w_ : Wd) (H : Heap) (locs : List Loc) (cells slots : Nat) (ls : Array Slot), wd_Z E w0 R s w_ H locs cells slots [(some x0_, 12)] → lv_has ls 3 [(0, .ref x0_), (1, .int x1_), (2, .int x2_)] → rec23 x0_ x1_ x2_ w_ = some (r', w') → W p l e R s m args below meth c H locs cells slots (wd_fin E w0 (some (.int r')) w' True R args s below) (F0 m 23 ls [])) (x0 : Nat) (x1 : Int32) (x2 : Int32) (w : Wd) (H : Heap) (locs : List Loc) (cells slots : Nat) (ls : Array Slot) (hZ : wd_Z E w0 R s w H locs cells slots [(some x0, 12)]) (hl : lv_has ls 3 [(0, .ref x0), (1, .int x1), (2, .int x2)]) (hf : f_X11_step_l23 n rec23 x0 x1 x2 w = some (r', w')) : W p l e R s m args below meth c H locs cells slots (wd_fin E w0 (some (.int r')) w' True R args s below) (F0 m 23 ls []) := by
  obtain ⟨hx, hb, hr, hml, hts, hown, hlocks, hmn, hK⟩ := id C
  unfold f_X11_step_l23 at hf
  refine lv_iload_n hx hb dX11_step_23 rfl (lv_at hl 2 rfl) ?_
  refine lv_iload_n hx hb dX11_step_24 rfl (lv_at hl 1 rfl) ?_
  refine lv_icmp_ge (tgt := 55) hx hb dX11_step_25 (by decide) (fun h3 => ?_) (fun h3 => ?_)
  · have hf := wd_ite_p h3 hf
    exact v_X11_step_j55 n C hR x0 w _ _ _ _ _ ⟨hZ.1, hZ.2.1, hZ.2.2.1, hZ.2.2.2.1, (List.forall_mem_cons.mpr ⟨⟨by decide, (fun q hq => by cases hq; exact (hZ.k 0 rfl rfl))⟩, (fun _ hq => absurd hq List.not_mem_nil)⟩), hZ.2.2.2.2.2⟩ (lv_sub hl [0] rfl) hf
  · have hf := wd_ite_n h3 hf
    refine lv_aload_n hx hb dX11_step_28 rfl (lv_at hl 0 rfl) ?_
    refine z_getR (tk := 9) fd_1101 rfl hx hb hts hown hK hZ (hZ.k 0 rfl rfl) tw_307 dX11_step_29 (fun hZ => ?_)
    obtain ⟨a6, ha6, hf⟩ := Option.bind_eq_some_iff.mp hf
    have hZ := hZ.add (r := some a6) (k := 10) (by decide) (fun q hq => by cases hq; exact hZ.k 0 rfl ha6)
    rw [ha6]
    refine z_getR (tk := 8) fd_900 rfl hx hb hts hown hK hZ (hZ.k 0 rfl rfl) tw_244 dX11_step_32 (fun hZ => ?_)
    obtain ⟨a7, ha7, hf⟩ := Option.bind_eq_some_iff.mp hf
    have hZ := hZ.add (r := some a7) (k := 9) (by decide) (fun q hq => by cases hq; exact hZ.k 0 rfl ha7)
    rw [ha7]
    refine z_getI fd_801 rfl hx hb hts hown hK hZ (hZ.k 0 rfl rfl) tw_152 dX11_step_35 ?_
    refine lv_if_le (tgt := 55) hx hb dX11_step_38 (by decide) (fun h8 => ?_) (fun h8 => ?_)
    · have hf := wd_ite_p h8 hf
      exact v_X11_step_j55 n C hR x0 w _ _ _ _ _ ⟨hZ.1, hZ.2.1, hZ.2.2.1, hZ.2.2.2.1, (List.forall_mem_cons.mpr ⟨⟨by decide, (fun q hq => by cases hq; exact (hZ.k 4 rfl rfl))⟩, (fun _ hq => absurd hq List.not_mem_nil)⟩), hZ.2.2.2.2.2⟩ (lv_sub hl [0] rfl) hf
    · have hf := wd_ite_n h8 hf
      refine lv_aload_n hx hb dX11_step_41 rfl (lv_at hl 0 rfl) ?_
      refine z_getR (tk := 9) fd_1101 rfl hx hb hts hown hK hZ (hZ.k 4 rfl rfl) tw_307 dX11_step_42 (fun hZ => ?_)
      obtain ⟨a9, ha9, hf⟩ := Option.bind_eq_some_iff.mp hf
      have hZ := hZ.add (r := some a9) (k := 10) (by decide) (fun q hq => by cases hq; exact hZ.k 0 rfl ha9)
      rw [ha9]
      obtain ⟨r12, w10, hc11, hf⟩ := wd_b2_e hf
      refine z_callV (ci := 9) (As := []) (rest := []) (c_X9_deliverNext l E n w a9 r12 w10 (hZ.k 0 rfl rfl) hc11) mo_X9_deliverNext rfl (by decide) rfl tw_867 tw_868 tw_866 hx hb hml hts hown hK ⟨Nat.le_trans (by decide) hR.1, Nat.le_trans (by decide) hR.2⟩ hZ (hZ.k 0 rfl rfl) rfl hl.1 rfl (Nat.le_of_ble_eq_true rfl) rfl dX11_step_45 (fun H locs cells slots hX hZ => ?_)
      refine lv_pop hx hb dX11_step_48 rfl ?_
      obtain ⟨v13, e14, hf⟩ := wd_let_e hf
      refine lv_iinc (k := 2) (v := v13) (lv' := [(2, .int v13), (0, .ref x0), (1, .int x1)]) hx hb dX11_step_49 hl rfl (by rw [← e14]; rfl) (by decide) rfl (fun ls hl => ?_)
      refine lv_goto (tgt := 23) hx hb dX11_step_52 (by decide) ?_
      exact hrec23 x0 x1 v13 w10 _ _ _ _ _ ⟨hZ.1, hZ.2.1, hZ.2.2.1, hZ.2.2.2.1, (List.forall_mem_cons.mpr ⟨⟨by decide, (fun q hq => by cases hq; exact (hZ.k 6 rfl rfl))⟩, (fun _ hq => absurd hq List.not_mem_nil)⟩), hZ.2.2.2.2.2⟩ (lv_sub hl [1, 2, 0] rfl) hf

theorem v_X11_step_l23 {p : Program} {l : Launch} {e : Env} {R : Room} {s : State} {m : MethodId} {args : Array Value} {below : List Frame} {meth : Method} {c : Code} {E : wd_E} {w0 : Wd} {r' : Int32} {w' : Wd} (n : Nat) (C : wd_X p s m args meth c cX11_step RX11 3 (some .int) "step" E) (hR : 7 ≤ R.frames ∧ 171 ≤ R.locals) : ∀ (k : Nat) (x0 : Nat) (x1 : Int32) (x2 : Int32) (w : Wd) (H : Heap) (locs : List Loc) (cells slots : Nat) (ls : Array Slot), wd_Z E w0 R s w H locs cells slots [(some x0, 12)] → lv_has ls 3 [(0, .ref x0), (1, .int x1), (2, .int x2)] → wd_lp4 (f_X11_step_l23 n) k x0 x1 x2 w = some (r', w') → W p l e R s m args below meth c H locs cells slots (wd_fin E w0 (some (.int r')) w' True R args s below) (F0 m 23 ls []) := by
  intro k
  induction k with
  | zero => intro _ _ _ _ _ _ _ _ _ _ _ hf; cases hf
  | succ k ih =>
    intro x0 x1 x2 w H locs cells slots ls hZ hl hf
    exact v_X11_step_b23 n C hR (wd_lp4 (f_X11_step_l23 n) k) ih x0 x1 x2 w H locs cells slots ls hZ hl hf

set_option maxHeartbeats 4000000 in
set_option maxRecDepth 100000 in
theorem c_X11_step (l : Launch) (E : wd_E) (n : Nat) (w : Wd) (this : Nat) (p0 : Int32) (r' : Int32) (w' : Wd) (k_this : wd_K w this = 12) (hf : f_X11_step n w this p0 = some (r', w')) : wd_C l E yX11_step cX11_step 3 (some .int) 7 171 [.ref this, .int p0] w (some (.int r')) w' True := by
  refine wd_ofW (own := RX11) (nm := "step") (ks := [(some this, 12)]) (lv := [(0, .ref this), (1, .int p0)]) (by decide) rfl rfl (Nat.le_of_ble_eq_true rfl) rfl (List.forall_mem_cons.mpr ⟨⟨by decide, fun q hq => by cases hq; exact k_this⟩, (fun _ hq => absurd hq List.not_mem_nil)⟩) ?_
  intro p e s m args below meth c R H ls C hR hZ hl
  obtain ⟨hx, hb, hr, hml, hts, hown, hlocks, hmn, hK⟩ := id C
  unfold f_X11_step at hf
  refine lv_iload_n hx hb dX11_step_0 rfl (lv_at hl 1 rfl) ?_
  refine lv_iconst (v := 1) hx hb dX11_step_1 (by decide) ?_
  refine lv_icmp_lt (tgt := 11) hx hb dX11_step_2 (by decide) (fun h1 => ?_) (fun h1 => ?_)
  · have hf := wd_ite_p h1 hf
    exact v_X11_step_j11 n C hR w _ _ _ _ _ ⟨hZ.1, hZ.2.1, hZ.2.2.1, hZ.2.2.2.1, (fun _ hq => absurd hq List.not_mem_nil), hZ.2.2.2.2.2⟩ (lv_sub hl [] rfl) hf
  · have hf := wd_ite_n h1 hf
    refine lv_iload_n hx hb dX11_step_5 rfl (lv_at hl 1 rfl) ?_
    refine lv_bipush (v := 60) hx hb dX11_step_6 (by decide) ?_
    refine lv_icmp_le (tgt := 21) hx hb dX11_step_8 (by decide) (fun h2 => ?_) (fun h2 => ?_)
    · have hf := wd_ite_p h2 hf
      refine lv_iconst (v := 0) hx hb dX11_step_21 (by decide) ?_
      refine lv_istore_n (lv' := [(2, .int (0 : Int32)), (0, .ref this), (1, .int p0)]) hx hb dX11_step_22 rfl hl (by decide) rfl (fun ls hl => ?_)
      exact v_X11_step_l23 n C hR n this p0 (0 : Int32) w _ _ _ _ _ ⟨hZ.1, hZ.2.1, hZ.2.2.1, hZ.2.2.2.1, (List.forall_mem_cons.mpr ⟨⟨by decide, (fun q hq => by cases hq; exact (hZ.k 0 rfl rfl))⟩, (fun _ hq => absurd hq List.not_mem_nil)⟩), hZ.2.2.2.2.2⟩ (lv_sub hl [1, 2, 0] rfl) hf
    · have hf := wd_ite_n h2 hf
      exact v_X11_step_j11 n C hR w _ _ _ _ _ ⟨hZ.1, hZ.2.1, hZ.2.2.1, hZ.2.2.2.1, (fun _ hq => absurd hq List.not_mem_nil), hZ.2.2.2.2.2⟩ (lv_sub hl [] rfl) hf

def f_X11_forget (n : Nat) (w : Wd) (this : Nat) (p0 : Int32) : Option (Int32 × Wd) :=
  wd_b2 (f_X11_hostOf n w this p0) fun r3 w1 =>
  Option.bind r3 fun a4 =>
  wd_b2 (f_X2_clearKnown n w1 a4) fun r7 w5 =>
  some (r7, w5)
set_option maxHeartbeats 4000000 in
set_option maxRecDepth 100000 in
theorem c_X11_forget (l : Launch) (E : wd_E) (n : Nat) (w : Wd) (this : Nat) (p0 : Int32) (r' : Int32) (w' : Wd) (k_this : wd_K w this = 12) (hf : f_X11_forget n w this p0 = some (r', w')) : wd_C l E yX11_forget cX11_forget 2 (some .int) 2 43 [.ref this, .int p0] w (some (.int r')) w' True := by
  refine wd_ofW (own := RX11) (nm := "forget") (ks := [(some this, 12)]) (lv := [(0, .ref this), (1, .int p0)]) (by decide) rfl rfl (Nat.le_of_ble_eq_true rfl) rfl (List.forall_mem_cons.mpr ⟨⟨by decide, fun q hq => by cases hq; exact k_this⟩, (fun _ hq => absurd hq List.not_mem_nil)⟩) ?_
  intro p e s m args below meth c R H ls C hR hZ hl
  obtain ⟨hx, hb, hr, hml, hts, hown, hlocks, hmn, hK⟩ := id C
  unfold f_X11_forget at hf
  refine lv_aload_n hx hb dX11_forget_0 rfl (lv_at hl 0 rfl) ?_
  refine lv_iload_n hx hb dX11_forget_1 rfl (lv_at hl 1 rfl) ?_
  obtain ⟨r3, w1, hc2, hf⟩ := wd_b2_e hf
  refine z_callV (ci := 11) (As := [.int p0]) (rest := []) (c_X11_hostOf l E n w this p0 r3 w1 (hZ.k 0 rfl rfl) hc2) mo_X11_hostOf rfl (by decide) rfl tw_448 tw_2 tw_446 hx hb hml hts hown hK ⟨Nat.le_trans (by decide) hR.1, Nat.le_trans (by decide) hR.2⟩ hZ (hZ.k 0 rfl rfl) rfl hl.1 rfl (Nat.le_of_ble_eq_true rfl) rfl dX11_forget_2 (fun H locs cells slots hX hZ => ?_)
  have hZ := hZ.add (by decide) hX
  obtain ⟨a4, ha4, hf⟩ := Option.bind_eq_some_iff.mp hf
  subst ha4
  have hl : lv_has ls 2 [(0, .ref this), (1, .int p0)] := hl
  have hZ : wd_Z E w R s w1 H locs cells slots [(some a4, 3), (some this, 12)] := hZ
  obtain ⟨r7, w5, hc6, hf⟩ := wd_b2_e hf
  refine z_callV (ci := 2) (As := []) (rest := []) (c_X2_clearKnown l E n w1 a4 r7 w5 (hZ.k 0 rfl rfl) hc6) mo_X2_clearKnown rfl (by decide) rfl tw_950 tw_951 tw_949 hx hb hml hts hown hK ⟨Nat.le_trans (by decide) hR.1, Nat.le_trans (by decide) hR.2⟩ hZ (hZ.k 0 rfl rfl) rfl hl.1 rfl (Nat.le_of_ble_eq_true rfl) rfl dX11_forget_5 (fun H locs cells slots hX hZ => ?_)
  obtain ⟨rfl, rfl⟩ := Prod.mk.inj (Option.some.inj hf)
  exact z_iret hx hb hr hlocks hZ trivial dX11_forget_8

def f_X11_giveUp (n : Nat) (w : Wd) (this : Nat) (p0 : Int32) : Option (Int32 × Wd) :=
  wd_b2 (f_X11_hostOf n w this p0) fun r3 w1 =>
  Option.bind (wd_R w 1101 this) fun a4 =>
  wd_b2 (f_X9_complainOfWaiting n w1 a4 r3) fun r7 w5 =>
  some (r7, w5)
set_option maxHeartbeats 4000000 in
set_option maxRecDepth 100000 in
theorem c_X11_giveUp (l : Launch) (E : wd_E) (n : Nat) (w : Wd) (this : Nat) (p0 : Int32) (r' : Int32) (w' : Wd) (k_this : wd_K w this = 12) (hf : f_X11_giveUp n w this p0 = some (r', w')) : wd_C l E yX11_giveUp cX11_giveUp 2 (some .int) 7 173 [.ref this, .int p0] w (some (.int r')) w' True := by
  refine wd_ofW (own := RX11) (nm := "giveUp") (ks := [(some this, 12)]) (lv := [(0, .ref this), (1, .int p0)]) (by decide) rfl rfl (Nat.le_of_ble_eq_true rfl) rfl (List.forall_mem_cons.mpr ⟨⟨by decide, fun q hq => by cases hq; exact k_this⟩, (fun _ hq => absurd hq List.not_mem_nil)⟩) ?_
  intro p e s m args below meth c R H ls C hR hZ hl
  obtain ⟨hx, hb, hr, hml, hts, hown, hlocks, hmn, hK⟩ := id C
  unfold f_X11_giveUp at hf
  refine lv_aload_n hx hb dX11_giveUp_0 rfl (lv_at hl 0 rfl) ?_
  refine z_getR (tk := 9) fd_1101 rfl hx hb hts hown hK hZ (hZ.k 0 rfl rfl) tw_307 dX11_giveUp_1 (fun hZ => ?_)
  refine lv_aload_n hx hb dX11_giveUp_4 rfl (lv_at hl 0 rfl) ?_
  refine lv_iload_n hx hb dX11_giveUp_5 rfl (lv_at hl 1 rfl) ?_
  obtain ⟨r3, w1, hc2, hf⟩ := wd_b2_e hf
  refine z_callV (ci := 11) (As := [.int p0]) (rest := [va_rf (wd_R w 1101 this)]) (c_X11_hostOf l E n w this p0 r3 w1 (hZ.k 1 rfl rfl) hc2) mo_X11_hostOf rfl (by decide) rfl tw_448 tw_2 tw_446 hx hb hml hts hown hK ⟨Nat.le_trans (by decide) hR.1, Nat.le_trans (by decide) hR.2⟩ hZ (hZ.k 1 rfl rfl) rfl hl.1 rfl (by simp [va_rf_cat, Value.category]) rfl dX11_giveUp_6 (fun H locs cells slots hX hZ => ?_)
  have hZ := hZ.add (by decide) hX
  obtain ⟨a4, ha4, hf⟩ := Option.bind_eq_some_iff.mp hf
  have hZ := hZ.add (r := some a4) (k := 10) (by decide) (fun q hq => by cases hq; exact hZ.k 1 rfl ha4)
  rw [ha4]
  obtain ⟨r7, w5, hc6, hf⟩ := wd_b2_e hf
  refine z_callV (ci := 9) (As := [va_rf r3]) (rest := []) (c_X9_complainOfWaiting l E n w1 a4 r3 r7 w5 (hZ.k 0 rfl rfl) (fun q hq => hZ.k 1 rfl hq) hc6) mo_X9_complainOfWaiting rfl (by decide) rfl tw_966 tw_967 tw_965 hx hb hml hts hown hK ⟨Nat.le_trans (by decide) hR.1, Nat.le_trans (by decide) hR.2⟩ hZ (hZ.k 0 rfl rfl) rfl hl.1 rfl (Nat.le_of_ble_eq_true rfl) rfl dX11_giveUp_9 (fun H locs cells slots hX hZ => ?_)
  obtain ⟨rfl, rfl⟩ := Prod.mk.inj (Option.some.inj hf)
  exact z_iret hx hb hr hlocks hZ trivial dX11_giveUp_12

def f_X11_machines (n : Nat) (w : Wd) (this : Nat) : Option (Int32 × Wd) :=
  Option.bind (wd_R w 1100 this) fun a1 =>
  some ((wd_I w 503 a1), w)
set_option maxHeartbeats 4000000 in
set_option maxRecDepth 100000 in
theorem c_X11_machines (l : Launch) (E : wd_E) (n : Nat) (w : Wd) (this : Nat) (r' : Int32) (w' : Wd) (k_this : wd_K w this = 12) (hf : f_X11_machines n w this = some (r', w')) : wd_C l E yX11_machines cX11_machines 1 (some .int) 0 0 [.ref this] w (some (.int r')) w' True := by
  refine wd_ofW (own := RX11) (nm := "machines") (ks := [(some this, 12)]) (lv := [(0, .ref this)]) (by decide) rfl rfl (Nat.le_of_ble_eq_true rfl) rfl (List.forall_mem_cons.mpr ⟨⟨by decide, fun q hq => by cases hq; exact k_this⟩, (fun _ hq => absurd hq List.not_mem_nil)⟩) ?_
  intro p e s m args below meth c R H ls C hR hZ hl
  obtain ⟨hx, hb, hr, hml, hts, hown, hlocks, hmn, hK⟩ := id C
  unfold f_X11_machines at hf
  refine lv_aload_n hx hb dX11_machines_0 rfl (lv_at hl 0 rfl) ?_
  refine z_getR (tk := 5) fd_1100 rfl hx hb hts hown hK hZ (hZ.k 0 rfl rfl) tw_306 dX11_machines_1 (fun hZ => ?_)
  obtain ⟨a1, ha1, hf⟩ := Option.bind_eq_some_iff.mp hf
  have hZ := hZ.add (r := some a1) (k := 6) (by decide) (fun q hq => by cases hq; exact hZ.k 0 rfl ha1)
  rw [ha1]
  refine z_getI fd_503 rfl hx hb hts hown hK hZ (hZ.k 0 rfl rfl) tw_124 dX11_machines_4 ?_
  obtain ⟨rfl, rfl⟩ := Prod.mk.inj (Option.some.inj hf)
  exact z_iret hx hb hr hlocks hZ trivial dX11_machines_7

def f_X11_packets (n : Nat) (w : Wd) (this : Nat) : Option (Int32 × Wd) :=
  Option.bind (wd_R w 1101 this) fun a1 =>
  some ((wd_I w 901 a1), w)
set_option maxHeartbeats 4000000 in
set_option maxRecDepth 100000 in
theorem c_X11_packets (l : Launch) (E : wd_E) (n : Nat) (w : Wd) (this : Nat) (r' : Int32) (w' : Wd) (k_this : wd_K w this = 12) (hf : f_X11_packets n w this = some (r', w')) : wd_C l E yX11_packets cX11_packets 1 (some .int) 0 0 [.ref this] w (some (.int r')) w' True := by
  refine wd_ofW (own := RX11) (nm := "packets") (ks := [(some this, 12)]) (lv := [(0, .ref this)]) (by decide) rfl rfl (Nat.le_of_ble_eq_true rfl) rfl (List.forall_mem_cons.mpr ⟨⟨by decide, fun q hq => by cases hq; exact k_this⟩, (fun _ hq => absurd hq List.not_mem_nil)⟩) ?_
  intro p e s m args below meth c R H ls C hR hZ hl
  obtain ⟨hx, hb, hr, hml, hts, hown, hlocks, hmn, hK⟩ := id C
  unfold f_X11_packets at hf
  refine lv_aload_n hx hb dX11_packets_0 rfl (lv_at hl 0 rfl) ?_
  refine z_getR (tk := 9) fd_1101 rfl hx hb hts hown hK hZ (hZ.k 0 rfl rfl) tw_307 dX11_packets_1 (fun hZ => ?_)
  obtain ⟨a1, ha1, hf⟩ := Option.bind_eq_some_iff.mp hf
  have hZ := hZ.add (r := some a1) (k := 10) (by decide) (fun q hq => by cases hq; exact hZ.k 0 rfl ha1)
  rw [ha1]
  refine z_getI fd_901 rfl hx hb hts hown hK hZ (hZ.k 0 rfl rfl) tw_246 dX11_packets_4 ?_
  obtain ⟨rfl, rfl⟩ := Prod.mk.inj (Option.some.inj hf)
  exact z_iret hx hb hr hlocks hZ trivial dX11_packets_7

def f_X11_steps (n : Nat) (w : Wd) (this : Nat) : Option (Int32 × Wd) :=
  Option.bind (wd_R w 1101 this) fun a1 =>
  some ((wd_I w 902 a1), w)
set_option maxHeartbeats 4000000 in
set_option maxRecDepth 100000 in
theorem c_X11_steps (l : Launch) (E : wd_E) (n : Nat) (w : Wd) (this : Nat) (r' : Int32) (w' : Wd) (k_this : wd_K w this = 12) (hf : f_X11_steps n w this = some (r', w')) : wd_C l E yX11_steps cX11_steps 1 (some .int) 0 0 [.ref this] w (some (.int r')) w' True := by
  refine wd_ofW (own := RX11) (nm := "steps") (ks := [(some this, 12)]) (lv := [(0, .ref this)]) (by decide) rfl rfl (Nat.le_of_ble_eq_true rfl) rfl (List.forall_mem_cons.mpr ⟨⟨by decide, fun q hq => by cases hq; exact k_this⟩, (fun _ hq => absurd hq List.not_mem_nil)⟩) ?_
  intro p e s m args below meth c R H ls C hR hZ hl
  obtain ⟨hx, hb, hr, hml, hts, hown, hlocks, hmn, hK⟩ := id C
  unfold f_X11_steps at hf
  refine lv_aload_n hx hb dX11_steps_0 rfl (lv_at hl 0 rfl) ?_
  refine z_getR (tk := 9) fd_1101 rfl hx hb hts hown hK hZ (hZ.k 0 rfl rfl) tw_307 dX11_steps_1 (fun hZ => ?_)
  obtain ⟨a1, ha1, hf⟩ := Option.bind_eq_some_iff.mp hf
  have hZ := hZ.add (r := some a1) (k := 10) (by decide) (fun q hq => by cases hq; exact hZ.k 0 rfl ha1)
  rw [ha1]
  refine z_getI fd_902 rfl hx hb hts hown hK hZ (hZ.k 0 rfl rfl) tw_247 dX11_steps_4 ?_
  obtain ⟨rfl, rfl⟩ := Prod.mk.inj (Option.some.inj hf)
  exact z_iret hx hb hr hlocks hZ trivial dX11_steps_7

def f_X11_gone (n : Nat) (w : Wd) (this : Nat) : Option (Int32 × Wd) :=
  Option.bind (wd_R w 1101 this) fun a1 =>
  wd_b2 (f_X9_goneInAll n w a1) fun r4 w2 =>
  some (r4, w2)
set_option maxHeartbeats 4000000 in
set_option maxRecDepth 100000 in
theorem c_X11_gone (l : Launch) (E : wd_E) (n : Nat) (w : Wd) (this : Nat) (r' : Int32) (w' : Wd) (k_this : wd_K w this = 12) (hf : f_X11_gone n w this = some (r', w')) : wd_C l E yX11_gone cX11_gone 1 (some .int) 1 22 [.ref this] w (some (.int r')) w' True := by
  refine wd_ofW (own := RX11) (nm := "gone") (ks := [(some this, 12)]) (lv := [(0, .ref this)]) (by decide) rfl rfl (Nat.le_of_ble_eq_true rfl) rfl (List.forall_mem_cons.mpr ⟨⟨by decide, fun q hq => by cases hq; exact k_this⟩, (fun _ hq => absurd hq List.not_mem_nil)⟩) ?_
  intro p e s m args below meth c R H ls C hR hZ hl
  obtain ⟨hx, hb, hr, hml, hts, hown, hlocks, hmn, hK⟩ := id C
  unfold f_X11_gone at hf
  refine lv_aload_n hx hb dX11_gone_0 rfl (lv_at hl 0 rfl) ?_
  refine z_getR (tk := 9) fd_1101 rfl hx hb hts hown hK hZ (hZ.k 0 rfl rfl) tw_307 dX11_gone_1 (fun hZ => ?_)
  obtain ⟨a1, ha1, hf⟩ := Option.bind_eq_some_iff.mp hf
  have hZ := hZ.add (r := some a1) (k := 10) (by decide) (fun q hq => by cases hq; exact hZ.k 0 rfl ha1)
  rw [ha1]
  obtain ⟨r4, w2, hc3, hf⟩ := wd_b2_e hf
  refine z_callV (ci := 9) (As := []) (rest := []) (c_X9_goneInAll l E n w a1 r4 w2 (hZ.k 0 rfl rfl) hc3) mo_X9_goneInAll rfl (by decide) rfl tw_427 tw_428 tw_426 hx hb hml hts hown hK ⟨Nat.le_trans (by decide) hR.1, Nat.le_trans (by decide) hR.2⟩ hZ (hZ.k 0 rfl rfl) rfl hl.1 rfl (Nat.le_of_ble_eq_true rfl) rfl dX11_gone_4 (fun H locs cells slots hX hZ => ?_)
  obtain ⟨rfl, rfl⟩ := Prod.mk.inj (Option.some.inj hf)
  exact z_iret hx hb hr hlocks hZ trivial dX11_gone_7

def f_X11_frames (n : Nat) (w : Wd) (this : Nat) : Option (Int32 × Wd) :=
  Option.bind (wd_R w 1101 this) fun a1 =>
  Option.bind (wd_R w 900 a1) fun a2 =>
  some ((wd_I w 801 a2), w)
set_option maxHeartbeats 4000000 in
set_option maxRecDepth 100000 in
theorem c_X11_frames (l : Launch) (E : wd_E) (n : Nat) (w : Wd) (this : Nat) (r' : Int32) (w' : Wd) (k_this : wd_K w this = 12) (hf : f_X11_frames n w this = some (r', w')) : wd_C l E yX11_frames cX11_frames 1 (some .int) 0 0 [.ref this] w (some (.int r')) w' True := by
  refine wd_ofW (own := RX11) (nm := "frames") (ks := [(some this, 12)]) (lv := [(0, .ref this)]) (by decide) rfl rfl (Nat.le_of_ble_eq_true rfl) rfl (List.forall_mem_cons.mpr ⟨⟨by decide, fun q hq => by cases hq; exact k_this⟩, (fun _ hq => absurd hq List.not_mem_nil)⟩) ?_
  intro p e s m args below meth c R H ls C hR hZ hl
  obtain ⟨hx, hb, hr, hml, hts, hown, hlocks, hmn, hK⟩ := id C
  unfold f_X11_frames at hf
  refine lv_aload_n hx hb dX11_frames_0 rfl (lv_at hl 0 rfl) ?_
  refine z_getR (tk := 9) fd_1101 rfl hx hb hts hown hK hZ (hZ.k 0 rfl rfl) tw_307 dX11_frames_1 (fun hZ => ?_)
  obtain ⟨a1, ha1, hf⟩ := Option.bind_eq_some_iff.mp hf
  have hZ := hZ.add (r := some a1) (k := 10) (by decide) (fun q hq => by cases hq; exact hZ.k 0 rfl ha1)
  rw [ha1]
  refine z_getR (tk := 8) fd_900 rfl hx hb hts hown hK hZ (hZ.k 0 rfl rfl) tw_244 dX11_frames_4 (fun hZ => ?_)
  obtain ⟨a2, ha2, hf⟩ := Option.bind_eq_some_iff.mp hf
  have hZ := hZ.add (r := some a2) (k := 9) (by decide) (fun q hq => by cases hq; exact hZ.k 0 rfl ha2)
  rw [ha2]
  refine z_getI fd_801 rfl hx hb hts hown hK hZ (hZ.k 0 rfl rfl) tw_152 dX11_frames_7 ?_
  obtain ⟨rfl, rfl⟩ := Prod.mk.inj (Option.some.inj hf)
  exact z_iret hx hb hr hlocks hZ trivial dX11_frames_10

def f_X11_needPart_j9 (n : Nat) (w : Wd) : Option Wd :=
  none
def f_X11_needPart (n : Nat) (w : Wd) (p0 : Int32) (p1 : Int32) : Option Wd :=
  if p0 < 0 then
    f_X11_needPart_j9 n w
  else
    if p0 < p1 then
      some w
    else
      f_X11_needPart_j9 n w
set_option maxHeartbeats 4000000 in
set_option maxRecDepth 100000 in
theorem v_X11_needPart_j9 {p : Program} {l : Launch} {e : Env} {R : Room} {s : State} {m : MethodId} {args : Array Value} {below : List Frame} {meth : Method} {c : Code} {E : wd_E} {w0 : Wd} {w' : Wd} (n : Nat) (C : wd_X p s m args meth c cX11_needPart RX11 2 none "needPart" E) (hR : 0 ≤ R.frames ∧ 0 ≤ R.locals) (w : Wd) (H : Heap) (locs : List Loc) (cells slots : Nat) (ls : Array Slot) (hZ : wd_Z E w0 R s w H locs cells slots []) (hl : lv_has ls 2 []) (hf : f_X11_needPart_j9 n w = some w') : W p l e R s m args below meth c H locs cells slots (wd_fin E w0 none w' True R args s below) (F0 m 9 ls []) := by
  obtain ⟨hx, hb, hr, hml, hts, hown, hlocks, hmn, hK⟩ := id C
  unfold f_X11_needPart_j9 at hf
  cases hf

set_option maxHeartbeats 4000000 in
set_option maxRecDepth 100000 in
theorem c_X11_needPart (l : Launch) (E : wd_E) (n : Nat) (w : Wd) (p0 : Int32) (p1 : Int32) (w' : Wd)  (hf : f_X11_needPart n w p0 p1 = some w') : wd_C l E yX11_needPart cX11_needPart 2 none 0 0 [.int p0, .int p1] w none w' True := by
  refine wd_ofW (own := RX11) (nm := "needPart") (ks := []) (lv := [(0, .int p0), (1, .int p1)]) (by decide) rfl rfl (Nat.le_of_ble_eq_true rfl) rfl (fun _ hq => absurd hq List.not_mem_nil) ?_
  intro p e s m args below meth c R H ls C hR hZ hl
  obtain ⟨hx, hb, hr, hml, hts, hown, hlocks, hmn, hK⟩ := id C
  unfold f_X11_needPart at hf
  refine lv_iload_n hx hb dX11_needPart_0 rfl (lv_at hl 0 rfl) ?_
  refine lv_if_lt (tgt := 9) hx hb dX11_needPart_1 (by decide) (fun h1 => ?_) (fun h1 => ?_)
  · have hf := wd_ite_p h1 hf
    exact v_X11_needPart_j9 n C hR w _ _ _ _ _ ⟨hZ.1, hZ.2.1, hZ.2.2.1, hZ.2.2.2.1, (fun _ hq => absurd hq List.not_mem_nil), hZ.2.2.2.2.2⟩ (lv_sub hl [] rfl) hf
  · have hf := wd_ite_n h1 hf
    refine lv_iload_n hx hb dX11_needPart_4 rfl (lv_at hl 0 rfl) ?_
    refine lv_iload_n hx hb dX11_needPart_5 rfl (lv_at hl 1 rfl) ?_
    refine lv_icmp_lt (tgt := 20) hx hb dX11_needPart_6 (by decide) (fun h2 => ?_) (fun h2 => ?_)
    · have hf := wd_ite_p h2 hf
      obtain rfl := Option.some.inj hf
      exact z_vret hx hb hr hlocks hZ trivial dX11_needPart_20
    · have hf := wd_ite_n h2 hf
      exact v_X11_needPart_j9 n C hR w _ _ _ _ _ ⟨hZ.1, hZ.2.1, hZ.2.2.1, hZ.2.2.2.1, (fun _ hq => absurd hq List.not_mem_nil), hZ.2.2.2.2.2⟩ (lv_sub hl [] rfl) hf

def f_X11_frame (n : Nat) (w : Wd) (this : Nat) (p0 : Int32) (p1 : Int32) : Option (Int32 × Wd) :=
  Option.bind (wd_R w 1101 this) fun a1 =>
  Option.bind (wd_R w 900 a1) fun a2 =>
  wd_b2 (f_X8_find n w a2 p0) fun r5 w3 =>
  wd_on r5 (
    none)
    (fun a6 =>
    Option.bind (f_X11_needPart n w3 p1 (8 : Int32)) fun w7 =>
    wd_b2 (f_X0_part n w7 a6 p1) fun r11 w9 =>
    some (r11, w9))
set_option maxHeartbeats 4000000 in
set_option maxRecDepth 100000 in
theorem c_X11_frame (l : Launch) (E : wd_E) (n : Nat) (w : Wd) (this : Nat) (p0 : Int32) (p1 : Int32) (r' : Int32) (w' : Wd) (k_this : wd_K w this = 12) (hf : f_X11_frame n w this p0 p1 = some (r', w')) : wd_C l E yX11_frame cX11_frame 4 (some .int) 2 42 [.ref this, .int p0, .int p1] w (some (.int r')) w' True := by
  refine wd_ofW (own := RX11) (nm := "frame") (ks := [(some this, 12)]) (lv := [(0, .ref this), (1, .int p0), (2, .int p1)]) (by decide) rfl rfl (Nat.le_of_ble_eq_true rfl) rfl (List.forall_mem_cons.mpr ⟨⟨by decide, fun q hq => by cases hq; exact k_this⟩, (fun _ hq => absurd hq List.not_mem_nil)⟩) ?_
  intro p e s m args below meth c R H ls C hR hZ hl
  obtain ⟨hx, hb, hr, hml, hts, hown, hlocks, hmn, hK⟩ := id C
  unfold f_X11_frame at hf
  refine lv_aload_n hx hb dX11_frame_0 rfl (lv_at hl 0 rfl) ?_
  refine z_getR (tk := 9) fd_1101 rfl hx hb hts hown hK hZ (hZ.k 0 rfl rfl) tw_307 dX11_frame_1 (fun hZ => ?_)
  obtain ⟨a1, ha1, hf⟩ := Option.bind_eq_some_iff.mp hf
  have hZ := hZ.add (r := some a1) (k := 10) (by decide) (fun q hq => by cases hq; exact hZ.k 0 rfl ha1)
  rw [ha1]
  refine z_getR (tk := 8) fd_900 rfl hx hb hts hown hK hZ (hZ.k 0 rfl rfl) tw_244 dX11_frame_4 (fun hZ => ?_)
  refine lv_iload_n hx hb dX11_frame_7 rfl (lv_at hl 1 rfl) ?_
  obtain ⟨a2, ha2, hf⟩ := Option.bind_eq_some_iff.mp hf
  have hZ := hZ.add (r := some a2) (k := 9) (by decide) (fun q hq => by cases hq; exact hZ.k 0 rfl ha2)
  rw [ha2]
  obtain ⟨r5, w3, hc4, hf⟩ := wd_b2_e hf
  refine z_callV (ci := 8) (As := [.int p0]) (rest := []) (c_X8_find l E n w a2 p0 r5 w3 (hZ.k 0 rfl rfl) hc4) mo_X8_find rfl (by decide) rfl tw_1033 tw_1034 tw_1032 hx hb hml hts hown hK ⟨Nat.le_trans (by decide) hR.1, Nat.le_trans (by decide) hR.2⟩ hZ (hZ.k 0 rfl rfl) rfl hl.1 rfl (Nat.le_of_ble_eq_true rfl) rfl dX11_frame_8 (fun H locs cells slots hX hZ => ?_)
  have hZ := hZ.add (by decide) hX
  refine z_astore_n (lv' := [(3, va_rf r5), (0, .ref this), (1, .int p0), (2, .int p1)]) hx hb dX11_frame_11 rfl hl (by decide) rfl (fun ls hl => ?_)
  refine z_aload_n hx hb dX11_frame_12 rfl (lv_at hl 0 rfl) ?_
  refine z_ifnonnull (tgt := 26) hx hb dX11_frame_13 (by decide) (fun a6 ha6 => ?_) (fun hn => ?_)
  · have hf := wd_on_s ha6 hf
    subst ha6
    have hl : lv_has ls 4 [(3, .ref a6), (0, .ref this), (1, .int p0), (2, .int p1)] := hl
    have hZ : wd_Z E w R s w3 H locs cells slots [(some a6, 1), (some a2, 9), ((wd_R w 900 a1), 9), (some a1, 10), ((wd_R w 1101 this), 10), (some this, 12)] := hZ
    refine lv_iload_n hx hb dX11_frame_26 rfl (lv_at hl 3 rfl) ?_
    refine lv_bipush (v := 8) hx hb dX11_frame_27 (by decide) ?_
    obtain ⟨w7, hc8, hf⟩ := Option.bind_eq_some_iff.mp hf
    refine z_callS (As := [.int p1, .int (8 : Int32)]) (rest := []) (c_X11_needPart l E n w3 p1 (8 : Int32) w7  hc8) mo_X11_needPart tw_1008 tw_1007 hx hb hml hts hown hK ⟨Nat.le_trans (by decide) hR.1, Nat.le_trans (by decide) hR.2⟩ hZ rfl hl.1 rfl (Nat.le_of_ble_eq_true rfl) rfl dX11_frame_29 (fun H locs cells slots hX hZ => ?_)
    refine lv_aload_n hx hb dX11_frame_32 rfl (lv_at hl 0 rfl) ?_
    refine lv_iload_n hx hb dX11_frame_33 rfl (lv_at hl 3 rfl) ?_
    obtain ⟨r11, w9, hc10, hf⟩ := wd_b2_e hf
    refine z_callV (ci := 0) (As := [.int p1]) (rest := []) (c_X0_part l E n w7 a6 p1 r11 w9 (hZ.k 0 rfl rfl) hc10) mo_X0_part rfl (by decide) rfl tw_431 tw_432 tw_430 hx hb hml hts hown hK ⟨Nat.le_trans (by decide) hR.1, Nat.le_trans (by decide) hR.2⟩ hZ (hZ.k 0 rfl rfl) rfl hl.1 rfl (Nat.le_of_ble_eq_true rfl) rfl dX11_frame_34 (fun H locs cells slots hX hZ => ?_)
    obtain ⟨rfl, rfl⟩ := Prod.mk.inj (Option.some.inj hf)
    exact z_iret hx hb hr hlocks hZ trivial dX11_frame_37
  · have hf := wd_on_n hn hf
    subst hn
    have hl : lv_has ls 4 [(3, va_rf none), (0, .ref this), (1, .int p0), (2, .int p1)] := hl
    have hZ : wd_Z E w R s w3 H locs cells slots [(none, 1), (some a2, 9), ((wd_R w 900 a1), 9), (some a1, 10), ((wd_R w 1101 this), 10), (some this, 12)] := hZ
    cases hf

def f_X11_knows (n : Nat) (w : Wd) (this : Nat) (p0 : Int32) (p1 : Int32) : Option (Int32 × Wd) :=
  wd_b2 (f_X11_hostOf n w this p0) fun r3 w1 =>
  Option.bind (f_X11_needAddress n w1 p1) fun w4 =>
  Option.bind r3 fun a6 =>
  wd_b2 (f_X2_knownMark n w4 a6 p1) fun r9 w7 =>
  some (r9, w7)
set_option maxHeartbeats 4000000 in
set_option maxRecDepth 100000 in
theorem c_X11_knows (l : Launch) (E : wd_E) (n : Nat) (w : Wd) (this : Nat) (p0 : Int32) (p1 : Int32) (r' : Int32) (w' : Wd) (k_this : wd_K w this = 12) (hf : f_X11_knows n w this p0 p1 = some (r', w')) : wd_C l E yX11_knows cX11_knows 4 (some .int) 2 43 [.ref this, .int p0, .int p1] w (some (.int r')) w' True := by
  refine wd_ofW (own := RX11) (nm := "knows") (ks := [(some this, 12)]) (lv := [(0, .ref this), (1, .int p0), (2, .int p1)]) (by decide) rfl rfl (Nat.le_of_ble_eq_true rfl) rfl (List.forall_mem_cons.mpr ⟨⟨by decide, fun q hq => by cases hq; exact k_this⟩, (fun _ hq => absurd hq List.not_mem_nil)⟩) ?_
  intro p e s m args below meth c R H ls C hR hZ hl
  obtain ⟨hx, hb, hr, hml, hts, hown, hlocks, hmn, hK⟩ := id C
  unfold f_X11_knows at hf
  refine lv_aload_n hx hb dX11_knows_0 rfl (lv_at hl 0 rfl) ?_
  refine lv_iload_n hx hb dX11_knows_1 rfl (lv_at hl 1 rfl) ?_
  obtain ⟨r3, w1, hc2, hf⟩ := wd_b2_e hf
  refine z_callV (ci := 11) (As := [.int p0]) (rest := []) (c_X11_hostOf l E n w this p0 r3 w1 (hZ.k 0 rfl rfl) hc2) mo_X11_hostOf rfl (by decide) rfl tw_448 tw_2 tw_446 hx hb hml hts hown hK ⟨Nat.le_trans (by decide) hR.1, Nat.le_trans (by decide) hR.2⟩ hZ (hZ.k 0 rfl rfl) rfl hl.1 rfl (Nat.le_of_ble_eq_true rfl) rfl dX11_knows_2 (fun H locs cells slots hX hZ => ?_)
  have hZ := hZ.add (by decide) hX
  refine z_astore_n (lv' := [(3, va_rf r3), (0, .ref this), (1, .int p0), (2, .int p1)]) hx hb dX11_knows_5 rfl hl (by decide) rfl (fun ls hl => ?_)
  refine lv_iload_n hx hb dX11_knows_6 rfl (lv_at hl 3 rfl) ?_
  obtain ⟨w4, hc5, hf⟩ := Option.bind_eq_some_iff.mp hf
  refine z_callS (As := [.int p1]) (rest := []) (c_X11_needAddress l E n w1 p1 w4  hc5) mo_X11_needAddress tw_535 tw_534 hx hb hml hts hown hK ⟨Nat.le_trans (by decide) hR.1, Nat.le_trans (by decide) hR.2⟩ hZ rfl hl.1 rfl (Nat.le_of_ble_eq_true rfl) rfl dX11_knows_7 (fun H locs cells slots hX hZ => ?_)
  refine z_aload_n hx hb dX11_knows_10 rfl (lv_at hl 0 rfl) ?_
  refine lv_iload_n hx hb dX11_knows_11 rfl (lv_at hl 3 rfl) ?_
  obtain ⟨a6, ha6, hf⟩ := Option.bind_eq_some_iff.mp hf
  subst ha6
  have hl : lv_has ls 4 [(3, .ref a6), (0, .ref this), (1, .int p0), (2, .int p1)] := hl
  have hZ : wd_Z E w R s w4 H locs cells slots [(some a6, 3), (some this, 12)] := hZ
  obtain ⟨r9, w7, hc8, hf⟩ := wd_b2_e hf
  refine z_callV (ci := 2) (As := [.int p1]) (rest := []) (c_X2_knownMark l E n w4 a6 p1 r9 w7 (hZ.k 0 rfl rfl) hc8) mo_X2_knownMark rfl (by decide) rfl tw_492 tw_493 tw_491 hx hb hml hts hown hK ⟨Nat.le_trans (by decide) hR.1, Nat.le_trans (by decide) hR.2⟩ hZ (hZ.k 0 rfl rfl) rfl hl.1 rfl (Nat.le_of_ble_eq_true rfl) rfl dX11_knows_12 (fun H locs cells slots hX hZ => ?_)
  obtain ⟨rfl, rfl⟩ := Prod.mk.inj (Option.some.inj hf)
  exact z_iret hx hb hr hlocks hZ trivial dX11_knows_15

def f_X11_waiting (n : Nat) (w : Wd) (this : Nat) (p0 : Int32) : Option (Int32 × Wd) :=
  wd_b2 (f_X11_hostOf n w this p0) fun r3 w1 =>
  Option.bind r3 fun a4 =>
  some ((wd_I w1 201 a4), w1)
set_option maxHeartbeats 4000000 in
set_option maxRecDepth 100000 in
theorem c_X11_waiting (l : Launch) (E : wd_E) (n : Nat) (w : Wd) (this : Nat) (p0 : Int32) (r' : Int32) (w' : Wd) (k_this : wd_K w this = 12) (hf : f_X11_waiting n w this p0 = some (r', w')) : wd_C l E yX11_waiting cX11_waiting 2 (some .int) 2 43 [.ref this, .int p0] w (some (.int r')) w' True := by
  refine wd_ofW (own := RX11) (nm := "waiting") (ks := [(some this, 12)]) (lv := [(0, .ref this), (1, .int p0)]) (by decide) rfl rfl (Nat.le_of_ble_eq_true rfl) rfl (List.forall_mem_cons.mpr ⟨⟨by decide, fun q hq => by cases hq; exact k_this⟩, (fun _ hq => absurd hq List.not_mem_nil)⟩) ?_
  intro p e s m args below meth c R H ls C hR hZ hl
  obtain ⟨hx, hb, hr, hml, hts, hown, hlocks, hmn, hK⟩ := id C
  unfold f_X11_waiting at hf
  refine lv_aload_n hx hb dX11_waiting_0 rfl (lv_at hl 0 rfl) ?_
  refine lv_iload_n hx hb dX11_waiting_1 rfl (lv_at hl 1 rfl) ?_
  obtain ⟨r3, w1, hc2, hf⟩ := wd_b2_e hf
  refine z_callV (ci := 11) (As := [.int p0]) (rest := []) (c_X11_hostOf l E n w this p0 r3 w1 (hZ.k 0 rfl rfl) hc2) mo_X11_hostOf rfl (by decide) rfl tw_448 tw_2 tw_446 hx hb hml hts hown hK ⟨Nat.le_trans (by decide) hR.1, Nat.le_trans (by decide) hR.2⟩ hZ (hZ.k 0 rfl rfl) rfl hl.1 rfl (Nat.le_of_ble_eq_true rfl) rfl dX11_waiting_2 (fun H locs cells slots hX hZ => ?_)
  have hZ := hZ.add (by decide) hX
  obtain ⟨a4, ha4, hf⟩ := Option.bind_eq_some_iff.mp hf
  subst ha4
  have hl : lv_has ls 2 [(0, .ref this), (1, .int p0)] := hl
  have hZ : wd_Z E w R s w1 H locs cells slots [(some a4, 3), (some this, 12)] := hZ
  refine z_getI fd_201 rfl hx hb hts hown hK hZ (hZ.k 0 rfl rfl) tw_208 dX11_waiting_5 ?_
  obtain ⟨rfl, rfl⟩ := Prod.mk.inj (Option.some.inj hf)
  exact z_iret hx hb hr hlocks hZ trivial dX11_waiting_8

def f_X11_heaps (n : Nat) (w : Wd) (this : Nat) (p0 : Int32) : Option (Int32 × Wd) :=
  wd_b2 (f_X11_hostOf n w this p0) fun r3 w1 =>
  Option.bind r3 fun a4 =>
  some ((wd_I w1 202 a4), w1)
set_option maxHeartbeats 4000000 in
set_option maxRecDepth 100000 in
theorem c_X11_heaps (l : Launch) (E : wd_E) (n : Nat) (w : Wd) (this : Nat) (p0 : Int32) (r' : Int32) (w' : Wd) (k_this : wd_K w this = 12) (hf : f_X11_heaps n w this p0 = some (r', w')) : wd_C l E yX11_heaps cX11_heaps 2 (some .int) 2 43 [.ref this, .int p0] w (some (.int r')) w' True := by
  refine wd_ofW (own := RX11) (nm := "heaps") (ks := [(some this, 12)]) (lv := [(0, .ref this), (1, .int p0)]) (by decide) rfl rfl (Nat.le_of_ble_eq_true rfl) rfl (List.forall_mem_cons.mpr ⟨⟨by decide, fun q hq => by cases hq; exact k_this⟩, (fun _ hq => absurd hq List.not_mem_nil)⟩) ?_
  intro p e s m args below meth c R H ls C hR hZ hl
  obtain ⟨hx, hb, hr, hml, hts, hown, hlocks, hmn, hK⟩ := id C
  unfold f_X11_heaps at hf
  refine lv_aload_n hx hb dX11_heaps_0 rfl (lv_at hl 0 rfl) ?_
  refine lv_iload_n hx hb dX11_heaps_1 rfl (lv_at hl 1 rfl) ?_
  obtain ⟨r3, w1, hc2, hf⟩ := wd_b2_e hf
  refine z_callV (ci := 11) (As := [.int p0]) (rest := []) (c_X11_hostOf l E n w this p0 r3 w1 (hZ.k 0 rfl rfl) hc2) mo_X11_hostOf rfl (by decide) rfl tw_448 tw_2 tw_446 hx hb hml hts hown hK ⟨Nat.le_trans (by decide) hR.1, Nat.le_trans (by decide) hR.2⟩ hZ (hZ.k 0 rfl rfl) rfl hl.1 rfl (Nat.le_of_ble_eq_true rfl) rfl dX11_heaps_2 (fun H locs cells slots hX hZ => ?_)
  have hZ := hZ.add (by decide) hX
  obtain ⟨a4, ha4, hf⟩ := Option.bind_eq_some_iff.mp hf
  subst ha4
  have hl : lv_has ls 2 [(0, .ref this), (1, .int p0)] := hl
  have hZ : wd_Z E w R s w1 H locs cells slots [(some a4, 3), (some this, 12)] := hZ
  refine z_getI fd_202 rfl hx hb hts hown hK hZ (hZ.k 0 rfl rfl) tw_211 dX11_heaps_5 ?_
  obtain ⟨rfl, rfl⟩ := Prod.mk.inj (Option.some.inj hf)
  exact z_iret hx hb hr hlocks hZ trivial dX11_heaps_8

def f_X11_noted (n : Nat) (w : Wd) (this : Nat) (p0 : Int32) : Option (Int32 × Wd) :=
  wd_b2 (f_X11_hostOf n w this p0) fun r3 w1 =>
  Option.bind r3 fun a4 =>
  some ((wd_I w1 203 a4), w1)
set_option maxHeartbeats 4000000 in
set_option maxRecDepth 100000 in
theorem c_X11_noted (l : Launch) (E : wd_E) (n : Nat) (w : Wd) (this : Nat) (p0 : Int32) (r' : Int32) (w' : Wd) (k_this : wd_K w this = 12) (hf : f_X11_noted n w this p0 = some (r', w')) : wd_C l E yX11_noted cX11_noted 2 (some .int) 2 43 [.ref this, .int p0] w (some (.int r')) w' True := by
  refine wd_ofW (own := RX11) (nm := "noted") (ks := [(some this, 12)]) (lv := [(0, .ref this), (1, .int p0)]) (by decide) rfl rfl (Nat.le_of_ble_eq_true rfl) rfl (List.forall_mem_cons.mpr ⟨⟨by decide, fun q hq => by cases hq; exact k_this⟩, (fun _ hq => absurd hq List.not_mem_nil)⟩) ?_
  intro p e s m args below meth c R H ls C hR hZ hl
  obtain ⟨hx, hb, hr, hml, hts, hown, hlocks, hmn, hK⟩ := id C
  unfold f_X11_noted at hf
  refine lv_aload_n hx hb dX11_noted_0 rfl (lv_at hl 0 rfl) ?_
  refine lv_iload_n hx hb dX11_noted_1 rfl (lv_at hl 1 rfl) ?_
  obtain ⟨r3, w1, hc2, hf⟩ := wd_b2_e hf
  refine z_callV (ci := 11) (As := [.int p0]) (rest := []) (c_X11_hostOf l E n w this p0 r3 w1 (hZ.k 0 rfl rfl) hc2) mo_X11_hostOf rfl (by decide) rfl tw_448 tw_2 tw_446 hx hb hml hts hown hK ⟨Nat.le_trans (by decide) hR.1, Nat.le_trans (by decide) hR.2⟩ hZ (hZ.k 0 rfl rfl) rfl hl.1 rfl (Nat.le_of_ble_eq_true rfl) rfl dX11_noted_2 (fun H locs cells slots hX hZ => ?_)
  have hZ := hZ.add (by decide) hX
  obtain ⟨a4, ha4, hf⟩ := Option.bind_eq_some_iff.mp hf
  subst ha4
  have hl : lv_has ls 2 [(0, .ref this), (1, .int p0)] := hl
  have hZ : wd_Z E w R s w1 H locs cells slots [(some a4, 3), (some this, 12)] := hZ
  refine z_getI fd_203 rfl hx hb hts hown hK hZ (hZ.k 0 rfl rfl) tw_214 dX11_noted_5 ?_
  obtain ⟨rfl, rfl⟩ := Prod.mk.inj (Option.some.inj hf)
  exact z_iret hx hb hr hlocks hZ trivial dX11_noted_8

def f_X11_note (n : Nat) (w : Wd) (this : Nat) (p0 : Int32) (p1 : Int32) (p2 : Int32) : Option (Int32 × Wd) :=
  wd_b2 (f_X11_hostOf n w this p0) fun r3 w1 =>
  Option.bind r3 fun a4 =>
  wd_b2 (f_X2_isTold n w1 a4 p1) fun r7 w5 =>
  if r7 = 0 then
    none
  else
    Option.bind (f_X11_needPart n w5 p2 (6 : Int32)) fun w9 =>
    wd_b2 (f_X2_notePart n w9 a4 p1 p2) fun r13 w11 =>
    some (r13, w11)
set_option maxHeartbeats 4000000 in
set_option maxRecDepth 100000 in
theorem c_X11_note (l : Launch) (E : wd_E) (n : Nat) (w : Wd) (this : Nat) (p0 : Int32) (p1 : Int32) (p2 : Int32) (r' : Int32) (w' : Wd) (k_this : wd_K w this = 12) (hf : f_X11_note n w this p0 p1 p2 = some (r', w')) : wd_C l E yX11_note cX11_note 5 (some .int) 2 43 [.ref this, .int p0, .int p1, .int p2] w (some (.int r')) w' True := by
  refine wd_ofW (own := RX11) (nm := "note") (ks := [(some this, 12)]) (lv := [(0, .ref this), (1, .int p0), (2, .int p1), (3, .int p2)]) (by decide) rfl rfl (Nat.le_of_ble_eq_true rfl) rfl (List.forall_mem_cons.mpr ⟨⟨by decide, fun q hq => by cases hq; exact k_this⟩, (fun _ hq => absurd hq List.not_mem_nil)⟩) ?_
  intro p e s m args below meth c R H ls C hR hZ hl
  obtain ⟨hx, hb, hr, hml, hts, hown, hlocks, hmn, hK⟩ := id C
  unfold f_X11_note at hf
  refine lv_aload_n hx hb dX11_note_0 rfl (lv_at hl 0 rfl) ?_
  refine lv_iload_n hx hb dX11_note_1 rfl (lv_at hl 1 rfl) ?_
  obtain ⟨r3, w1, hc2, hf⟩ := wd_b2_e hf
  refine z_callV (ci := 11) (As := [.int p0]) (rest := []) (c_X11_hostOf l E n w this p0 r3 w1 (hZ.k 0 rfl rfl) hc2) mo_X11_hostOf rfl (by decide) rfl tw_448 tw_2 tw_446 hx hb hml hts hown hK ⟨Nat.le_trans (by decide) hR.1, Nat.le_trans (by decide) hR.2⟩ hZ (hZ.k 0 rfl rfl) rfl hl.1 rfl (Nat.le_of_ble_eq_true rfl) rfl dX11_note_2 (fun H locs cells slots hX hZ => ?_)
  have hZ := hZ.add (by decide) hX
  refine z_astore (lv' := [(4, va_rf r3), (0, .ref this), (1, .int p0), (2, .int p1), (3, .int p2)]) hx hb dX11_note_5 hl (by decide) rfl (fun ls hl => ?_)
  refine z_aload hx hb dX11_note_7 (lv_at hl 0 rfl) ?_
  refine lv_iload_n hx hb dX11_note_9 rfl (lv_at hl 3 rfl) ?_
  obtain ⟨a4, ha4, hf⟩ := Option.bind_eq_some_iff.mp hf
  subst ha4
  have hl : lv_has ls 5 [(4, .ref a4), (0, .ref this), (1, .int p0), (2, .int p1), (3, .int p2)] := hl
  have hZ : wd_Z E w R s w1 H locs cells slots [(some a4, 3), (some this, 12)] := hZ
  obtain ⟨r7, w5, hc6, hf⟩ := wd_b2_e hf
  refine z_callV (ci := 2) (As := [.int p1]) (rest := []) (c_X2_isTold l E n w1 a4 p1 r7 w5 (hZ.k 0 rfl rfl) hc6) mo_X2_isTold rfl (by decide) rfl tw_475 tw_476 tw_474 hx hb hml hts hown hK ⟨Nat.le_trans (by decide) hR.1, Nat.le_trans (by decide) hR.2⟩ hZ (hZ.k 0 rfl rfl) rfl hl.1 rfl (Nat.le_of_ble_eq_true rfl) rfl dX11_note_10 (fun H locs cells slots hX hZ => ?_)
  refine lv_if_ne (tgt := 26) hx hb dX11_note_13 (by decide) (fun h8 => ?_) (fun h8 => ?_)
  · have hf := wd_ite_n h8 hf
    refine lv_iload_n hx hb dX11_note_26 rfl (lv_at hl 4 rfl) ?_
    refine lv_bipush (v := 6) hx hb dX11_note_27 (by decide) ?_
    obtain ⟨w9, hc10, hf⟩ := Option.bind_eq_some_iff.mp hf
    refine z_callS (As := [.int p2, .int (6 : Int32)]) (rest := []) (c_X11_needPart l E n w5 p2 (6 : Int32) w9  hc10) mo_X11_needPart tw_1008 tw_1007 hx hb hml hts hown hK ⟨Nat.le_trans (by decide) hR.1, Nat.le_trans (by decide) hR.2⟩ hZ rfl hl.1 rfl (Nat.le_of_ble_eq_true rfl) rfl dX11_note_29 (fun H locs cells slots hX hZ => ?_)
    refine lv_aload hx hb dX11_note_32 (lv_at hl 0 rfl) ?_
    refine lv_iload_n hx hb dX11_note_34 rfl (lv_at hl 3 rfl) ?_
    refine lv_iload_n hx hb dX11_note_35 rfl (lv_at hl 4 rfl) ?_
    obtain ⟨r13, w11, hc12, hf⟩ := wd_b2_e hf
    refine z_callV (ci := 2) (As := [.int p1, .int p2]) (rest := []) (c_X2_notePart l E n w9 a4 p1 p2 r13 w11 (hZ.k 0 rfl rfl) hc12) mo_X2_notePart rfl (by decide) rfl tw_479 tw_480 tw_478 hx hb hml hts hown hK ⟨Nat.le_trans (by decide) hR.1, Nat.le_trans (by decide) hR.2⟩ hZ (hZ.k 0 rfl rfl) rfl hl.1 rfl (Nat.le_of_ble_eq_true rfl) rfl dX11_note_36 (fun H locs cells slots hX hZ => ?_)
    obtain ⟨rfl, rfl⟩ := Prod.mk.inj (Option.some.inj hf)
    exact z_iret hx hb hr hlocks hZ trivial dX11_note_39
  · have hf := wd_ite_p h8 hf
    cases hf

def f_X11_way (n : Nat) (w : Wd) (this : Nat) (p0 : Int32) (p1 : Int32) (p2 : Int32) : Option (Int32 × Wd) :=
  wd_b2 (f_X11_hostOf n w this p0) fun r3 w1 =>
  Option.bind r3 fun a4 =>
  wd_let (wd_R w1 200 a4) fun v5 =>
  Option.bind (f_X11_needAddress n w1 p1) fun w7 =>
  Option.bind (f_X11_needPart n w7 p2 (3 : Int32)) fun w9 =>
  if p2 = 0 then
    Option.bind v5 fun a21 =>
    wd_b2 (f_X3_portTo n w9 a21 p1) fun r24 w22 =>
    some (r24, w22)
  else
    if p2 = (1 : Int32) then
      Option.bind v5 fun a17 =>
      wd_b2 (f_X3_hopTo n w9 a17 p1) fun r20 w18 =>
      some (r20, w18)
    else
      Option.bind v5 fun a13 =>
      wd_b2 (f_X3_lengthTo n w9 a13 p1) fun r16 w14 =>
      some (r16, w14)
set_option maxHeartbeats 4000000 in
set_option maxRecDepth 100000 in
theorem c_X11_way (l : Launch) (E : wd_E) (n : Nat) (w : Wd) (this : Nat) (p0 : Int32) (p1 : Int32) (p2 : Int32) (r' : Int32) (w' : Wd) (k_this : wd_K w this = 12) (hf : f_X11_way n w this p0 p1 p2 = some (r', w')) : wd_C l E yX11_way cX11_way 5 (some .int) 2 43 [.ref this, .int p0, .int p1, .int p2] w (some (.int r')) w' True := by
  refine wd_ofW (own := RX11) (nm := "way") (ks := [(some this, 12)]) (lv := [(0, .ref this), (1, .int p0), (2, .int p1), (3, .int p2)]) (by decide) rfl rfl (Nat.le_of_ble_eq_true rfl) rfl (List.forall_mem_cons.mpr ⟨⟨by decide, fun q hq => by cases hq; exact k_this⟩, (fun _ hq => absurd hq List.not_mem_nil)⟩) ?_
  intro p e s m args below meth c R H ls C hR hZ hl
  obtain ⟨hx, hb, hr, hml, hts, hown, hlocks, hmn, hK⟩ := id C
  unfold f_X11_way at hf
  refine lv_aload_n hx hb dX11_way_0 rfl (lv_at hl 0 rfl) ?_
  refine lv_iload_n hx hb dX11_way_1 rfl (lv_at hl 1 rfl) ?_
  obtain ⟨r3, w1, hc2, hf⟩ := wd_b2_e hf
  refine z_callV (ci := 11) (As := [.int p0]) (rest := []) (c_X11_hostOf l E n w this p0 r3 w1 (hZ.k 0 rfl rfl) hc2) mo_X11_hostOf rfl (by decide) rfl tw_448 tw_2 tw_446 hx hb hml hts hown hK ⟨Nat.le_trans (by decide) hR.1, Nat.le_trans (by decide) hR.2⟩ hZ (hZ.k 0 rfl rfl) rfl hl.1 rfl (Nat.le_of_ble_eq_true rfl) rfl dX11_way_2 (fun H locs cells slots hX hZ => ?_)
  have hZ := hZ.add (by decide) hX
  obtain ⟨a4, ha4, hf⟩ := Option.bind_eq_some_iff.mp hf
  subst ha4
  have hl : lv_has ls 5 [(0, .ref this), (1, .int p0), (2, .int p1), (3, .int p2)] := hl
  have hZ : wd_Z E w R s w1 H locs cells slots [(some a4, 3), (some this, 12)] := hZ
  refine z_getR (tk := 3) fd_200 rfl hx hb hts hown hK hZ (hZ.k 0 rfl rfl) tw_205 dX11_way_5 (fun hZ => ?_)
  obtain ⟨v5, e6, hf⟩ := wd_let_e hf
  rw [e6]
  rw [e6] at hZ
  refine z_astore (lv' := [(4, va_rf v5), (0, .ref this), (1, .int p0), (2, .int p1), (3, .int p2)]) hx hb dX11_way_8 hl (by decide) rfl (fun ls hl => ?_)
  refine lv_iload_n hx hb dX11_way_10 rfl (lv_at hl 3 rfl) ?_
  obtain ⟨w7, hc8, hf⟩ := Option.bind_eq_some_iff.mp hf
  refine z_callS (As := [.int p1]) (rest := []) (c_X11_needAddress l E n w1 p1 w7  hc8) mo_X11_needAddress tw_535 tw_534 hx hb hml hts hown hK ⟨Nat.le_trans (by decide) hR.1, Nat.le_trans (by decide) hR.2⟩ hZ rfl hl.1 rfl (Nat.le_of_ble_eq_true rfl) rfl dX11_way_11 (fun H locs cells slots hX hZ => ?_)
  refine lv_iload_n hx hb dX11_way_14 rfl (lv_at hl 4 rfl) ?_
  refine lv_iconst (v := 3) hx hb dX11_way_15 (by decide) ?_
  obtain ⟨w9, hc10, hf⟩ := Option.bind_eq_some_iff.mp hf
  refine z_callS (As := [.int p2, .int (3 : Int32)]) (rest := []) (c_X11_needPart l E n w7 p2 (3 : Int32) w9  hc10) mo_X11_needPart tw_1008 tw_1007 hx hb hml hts hown hK ⟨Nat.le_trans (by decide) hR.1, Nat.le_trans (by decide) hR.2⟩ hZ rfl hl.1 rfl (Nat.le_of_ble_eq_true rfl) rfl dX11_way_16 (fun H locs cells slots hX hZ => ?_)
  refine lv_iload_n hx hb dX11_way_19 rfl (lv_at hl 4 rfl) ?_
  refine lv_if_ne (tgt := 30) hx hb dX11_way_20 (by decide) (fun h11 => ?_) (fun h11 => ?_)
  · have hf := wd_ite_n h11 hf
    refine lv_iload_n hx hb dX11_way_30 rfl (lv_at hl 4 rfl) ?_
    refine lv_iconst (v := 1) hx hb dX11_way_31 (by decide) ?_
    refine lv_icmp_ne (tgt := 44) hx hb dX11_way_32 (by decide) (fun h12 => ?_) (fun h12 => ?_)
    · have hf := wd_ite_n h12 hf
      refine z_aload hx hb dX11_way_44 (lv_at hl 0 rfl) ?_
      refine lv_iload_n hx hb dX11_way_46 rfl (lv_at hl 3 rfl) ?_
      obtain ⟨a13, ha13, hf⟩ := Option.bind_eq_some_iff.mp hf
      subst ha13
      have hl : lv_has ls 5 [(4, .ref a13), (0, .ref this), (1, .int p0), (2, .int p1), (3, .int p2)] := hl
      have hZ : wd_Z E w R s w9 H locs cells slots [(some a13, 4), (some a4, 3), (some this, 12)] := hZ
      obtain ⟨r16, w14, hc15, hf⟩ := wd_b2_e hf
      refine z_callV (ci := 3) (As := [.int p1]) (rest := []) (c_X3_lengthTo l E n w9 a13 p1 r16 w14 (hZ.k 0 rfl rfl) hc15) mo_X3_lengthTo rfl (by decide) rfl tw_1022 tw_1023 tw_1021 hx hb hml hts hown hK ⟨Nat.le_trans (by decide) hR.1, Nat.le_trans (by decide) hR.2⟩ hZ (hZ.k 0 rfl rfl) rfl hl.1 rfl (Nat.le_of_ble_eq_true rfl) rfl dX11_way_47 (fun H locs cells slots hX hZ => ?_)
      obtain ⟨rfl, rfl⟩ := Prod.mk.inj (Option.some.inj hf)
      exact z_iret hx hb hr hlocks hZ trivial dX11_way_50
    · have hf := wd_ite_p h12 hf
      refine z_aload hx hb dX11_way_35 (lv_at hl 0 rfl) ?_
      refine lv_iload_n hx hb dX11_way_37 rfl (lv_at hl 3 rfl) ?_
      obtain ⟨a17, ha17, hf⟩ := Option.bind_eq_some_iff.mp hf
      subst ha17
      have hl : lv_has ls 5 [(4, .ref a17), (0, .ref this), (1, .int p0), (2, .int p1), (3, .int p2)] := hl
      have hZ : wd_Z E w R s w9 H locs cells slots [(some a17, 4), (some a4, 3), (some this, 12)] := hZ
      obtain ⟨r20, w18, hc19, hf⟩ := wd_b2_e hf
      refine z_callV (ci := 3) (As := [.int p1]) (rest := []) (c_X3_hopTo l E n w9 a17 p1 r20 w18 (hZ.k 0 rfl rfl) hc19) mo_X3_hopTo rfl (by decide) rfl tw_657 tw_658 tw_1020 hx hb hml hts hown hK ⟨Nat.le_trans (by decide) hR.1, Nat.le_trans (by decide) hR.2⟩ hZ (hZ.k 0 rfl rfl) rfl hl.1 rfl (Nat.le_of_ble_eq_true rfl) rfl dX11_way_38 (fun H locs cells slots hX hZ => ?_)
      refine lv_goto (tgt := 50) hx hb dX11_way_41 (by decide) ?_
      obtain ⟨rfl, rfl⟩ := Prod.mk.inj (Option.some.inj hf)
      exact z_iret hx hb hr hlocks hZ trivial dX11_way_50
  · have hf := wd_ite_p h11 hf
    refine z_aload hx hb dX11_way_23 (lv_at hl 0 rfl) ?_
    refine lv_iload_n hx hb dX11_way_25 rfl (lv_at hl 3 rfl) ?_
    obtain ⟨a21, ha21, hf⟩ := Option.bind_eq_some_iff.mp hf
    subst ha21
    have hl : lv_has ls 5 [(4, .ref a21), (0, .ref this), (1, .int p0), (2, .int p1), (3, .int p2)] := hl
    have hZ : wd_Z E w R s w9 H locs cells slots [(some a21, 4), (some a4, 3), (some this, 12)] := hZ
    obtain ⟨r24, w22, hc23, hf⟩ := wd_b2_e hf
    refine z_callV (ci := 3) (As := [.int p1]) (rest := []) (c_X3_portTo l E n w9 a21 p1 r24 w22 (hZ.k 0 rfl rfl) hc23) mo_X3_portTo rfl (by decide) rfl tw_653 tw_654 tw_1019 hx hb hml hts hown hK ⟨Nat.le_trans (by decide) hR.1, Nat.le_trans (by decide) hR.2⟩ hZ (hZ.k 0 rfl rfl) rfl hl.1 rfl (Nat.le_of_ble_eq_true rfl) rfl dX11_way_26 (fun H locs cells slots hX hZ => ?_)
    obtain ⟨rfl, rfl⟩ := Prod.mk.inj (Option.some.inj hf)
    exact z_iret hx hb hr hlocks hZ trivial dX11_way_29

def f_X11_carried (n : Nat) (w : Wd) (this : Nat) (p0 : Int32) : Option (Int32 × Wd) :=
  Option.bind (f_X11_needCable n w this p0) fun w1 =>
  Option.bind (wd_R w1 1101 this) fun a3 =>
  wd_b2 (f_X9_carriedOn n w1 a3 p0) fun r6 w4 =>
  some (r6, w4)
set_option maxHeartbeats 4000000 in
set_option maxRecDepth 100000 in
theorem c_X11_carried (l : Launch) (E : wd_E) (n : Nat) (w : Wd) (this : Nat) (p0 : Int32) (r' : Int32) (w' : Wd) (k_this : wd_K w this = 12) (hf : f_X11_carried n w this p0 = some (r', w')) : wd_C l E yX11_carried cX11_carried 2 (some .int) 1 21 [.ref this, .int p0] w (some (.int r')) w' True := by
  refine wd_ofW (own := RX11) (nm := "carried") (ks := [(some this, 12)]) (lv := [(0, .ref this), (1, .int p0)]) (by decide) rfl rfl (Nat.le_of_ble_eq_true rfl) rfl (List.forall_mem_cons.mpr ⟨⟨by decide, fun q hq => by cases hq; exact k_this⟩, (fun _ hq => absurd hq List.not_mem_nil)⟩) ?_
  intro p e s m args below meth c R H ls C hR hZ hl
  obtain ⟨hx, hb, hr, hml, hts, hown, hlocks, hmn, hK⟩ := id C
  unfold f_X11_carried at hf
  refine lv_aload_n hx hb dX11_carried_0 rfl (lv_at hl 0 rfl) ?_
  refine lv_iload_n hx hb dX11_carried_1 rfl (lv_at hl 1 rfl) ?_
  obtain ⟨w1, hc2, hf⟩ := Option.bind_eq_some_iff.mp hf
  refine z_callV (ci := 11) (As := [.int p0]) (rest := []) (c_X11_needCable l E n w this p0 w1 (hZ.k 0 rfl rfl) hc2) mo_X11_needCable rfl (by decide) rfl tw_531 tw_4 tw_529 hx hb hml hts hown hK ⟨Nat.le_trans (by decide) hR.1, Nat.le_trans (by decide) hR.2⟩ hZ (hZ.k 0 rfl rfl) rfl hl.1 rfl (Nat.le_of_ble_eq_true rfl) rfl dX11_carried_2 (fun H locs cells slots hX hZ => ?_)
  refine lv_aload_n hx hb dX11_carried_5 rfl (lv_at hl 0 rfl) ?_
  refine z_getR (tk := 9) fd_1101 rfl hx hb hts hown hK hZ (hZ.k 0 rfl rfl) tw_307 dX11_carried_6 (fun hZ => ?_)
  refine lv_iload_n hx hb dX11_carried_9 rfl (lv_at hl 1 rfl) ?_
  obtain ⟨a3, ha3, hf⟩ := Option.bind_eq_some_iff.mp hf
  have hZ := hZ.add (r := some a3) (k := 10) (by decide) (fun q hq => by cases hq; exact hZ.k 0 rfl ha3)
  rw [ha3]
  obtain ⟨r6, w4, hc5, hf⟩ := wd_b2_e hf
  refine z_callV (ci := 9) (As := [.int p0]) (rest := []) (c_X9_carriedOn l E n w1 a3 p0 r6 w4 (hZ.k 0 rfl rfl) hc5) mo_X9_carriedOn rfl (by decide) rfl tw_443 tw_444 tw_442 hx hb hml hts hown hK ⟨Nat.le_trans (by decide) hR.1, Nat.le_trans (by decide) hR.2⟩ hZ (hZ.k 0 rfl rfl) rfl hl.1 rfl (Nat.le_of_ble_eq_true rfl) rfl dX11_carried_10 (fun H locs cells slots hX hZ => ?_)
  obtain ⟨rfl, rfl⟩ := Prod.mk.inj (Option.some.inj hf)
  exact z_iret hx hb hr hlocks hZ trivial dX11_carried_13

def f_X11_use (n : Nat) (w : Wd) (this : Nat) : Option (UInt64 × Wd) :=
  Option.bind (wd_R w 1101 this) fun a1 =>
  if (wd_I w 902 a1) = 0 then
    some (FP.dconst0, w)
  else
    Option.bind (wd_R w 1101 this) fun a3 =>
    Option.bind (wd_R w 1101 this) fun a4 =>
    wd_gd (¬ (FP.ddiv (FP.i2d (wd_I w 903 a3)) (FP.i2d (wd_I w 902 a4)) &&& 9223372036854775807 ≤ 9218868437227405312)) <|
    some ((FP.ddiv (FP.i2d (wd_I w 903 a3)) (FP.i2d (wd_I w 902 a4))), w)
set_option maxHeartbeats 4000000 in
set_option maxRecDepth 100000 in
theorem c_X11_use (l : Launch) (E : wd_E) (n : Nat) (w : Wd) (this : Nat) (r' : UInt64) (w' : Wd) (k_this : wd_K w this = 12) (hf : f_X11_use n w this = some (r', w')) : wd_C l E yX11_use cX11_use 1 (some .double) 0 0 [.ref this] w (some (.double r')) w' True := by
  refine wd_ofW (own := RX11) (nm := "use") (ks := [(some this, 12)]) (lv := [(0, .ref this)]) (by decide) rfl rfl (Nat.le_of_ble_eq_true rfl) rfl (List.forall_mem_cons.mpr ⟨⟨by decide, fun q hq => by cases hq; exact k_this⟩, (fun _ hq => absurd hq List.not_mem_nil)⟩) ?_
  intro p e s m args below meth c R H ls C hR hZ hl
  obtain ⟨hx, hb, hr, hml, hts, hown, hlocks, hmn, hK⟩ := id C
  unfold f_X11_use at hf
  refine lv_aload_n hx hb dX11_use_0 rfl (lv_at hl 0 rfl) ?_
  refine z_getR (tk := 9) fd_1101 rfl hx hb hts hown hK hZ (hZ.k 0 rfl rfl) tw_307 dX11_use_1 (fun hZ => ?_)
  obtain ⟨a1, ha1, hf⟩ := Option.bind_eq_some_iff.mp hf
  have hZ := hZ.add (r := some a1) (k := 10) (by decide) (fun q hq => by cases hq; exact hZ.k 0 rfl ha1)
  rw [ha1]
  refine z_getI fd_902 rfl hx hb hts hown hK hZ (hZ.k 0 rfl rfl) tw_247 dX11_use_4 ?_
  refine lv_if_ne (tgt := 12) hx hb dX11_use_7 (by decide) (fun h2 => ?_) (fun h2 => ?_)
  · have hf := wd_ite_n h2 hf
    refine lv_aload_n hx hb dX11_use_12 rfl (lv_at hl 0 rfl) ?_
    refine z_getR (tk := 9) fd_1101 rfl hx hb hts hown hK hZ (hZ.k 2 rfl rfl) tw_307 dX11_use_13 (fun hZ => ?_)
    obtain ⟨a3, ha3, hf⟩ := Option.bind_eq_some_iff.mp hf
    have hZ := hZ.add (r := some a3) (k := 10) (by decide) (fun q hq => by cases hq; exact hZ.k 0 rfl ha3)
    rw [ha3]
    refine z_getI fd_903 rfl hx hb hts hown hK hZ (hZ.k 0 rfl rfl) tw_250 dX11_use_16 ?_
    refine lv_i2d hx hb dX11_use_19 ?_
    refine lv_aload_n hx hb dX11_use_20 rfl (lv_at hl 0 rfl) ?_
    refine z_getR (tk := 9) fd_1101 rfl hx hb hts hown hK hZ (hZ.k 4 rfl rfl) tw_307 dX11_use_21 (fun hZ => ?_)
    obtain ⟨a4, ha4, hf⟩ := Option.bind_eq_some_iff.mp hf
    have hZ := hZ.add (r := some a4) (k := 10) (by decide) (fun q hq => by cases hq; exact hZ.k 0 rfl ha4)
    rw [ha4]
    refine z_getI fd_902 rfl hx hb hts hown hK hZ (hZ.k 0 rfl rfl) tw_247 dX11_use_24 ?_
    refine lv_i2d hx hb dX11_use_27 ?_
    obtain ⟨h5, hf⟩ := wd_gd_e hf
    refine lv_ddiv hx hb dX11_use_28 (wd_nan h5) ?_
    obtain ⟨rfl, rfl⟩ := Prod.mk.inj (Option.some.inj hf)
    exact z_dret hx hb hr hlocks hZ trivial dX11_use_29
  · have hf := wd_ite_p h2 hf
    refine lv_dconst0 hx hb dX11_use_10 ?_
    obtain ⟨rfl, rfl⟩ := Prod.mk.inj (Option.some.inj hf)
    exact z_dret hx hb hr hlocks hZ trivial dX11_use_11

def f_X11_whoTells (n : Nat) (w : Wd) (this : Nat) (p0 : Int32) (p1 : Int32) (p2 : Int32) : Option (Int32 × Wd) :=
  wd_b2 (f_X11_hostOf n w this p0) fun r3 w1 =>
  Option.bind (f_X11_needAddress n w1 p1) fun w4 =>
  Option.bind (f_X11_needTtl n w4 p2) fun w6 =>
  Option.bind (wd_R w6 1102 this) fun a8 =>
  Option.bind (f_X10_begin n w6 a8 (wd_R w6 1101 this)) fun w9 =>
  Option.bind (wd_R w9 1102 this) fun a11 =>
  Option.bind (f_X10_ask n w9 a11 p0 p1 (8 : Int32) p2 (0 : Int32)) fun w12 =>
  Option.bind (wd_R w12 1102 this) fun a14 =>
  some ((wd_I w12 1002 a14), w12)
set_option maxHeartbeats 4000000 in
set_option maxRecDepth 100000 in
theorem c_X11_whoTells (l : Launch) (E : wd_E) (n : Nat) (w : Wd) (this : Nat) (p0 : Int32) (p1 : Int32) (p2 : Int32) (r' : Int32) (w' : Wd) (k_this : wd_K w this = 12) (hf : f_X11_whoTells n w this p0 p1 p2 = some (r', w')) : wd_C l E yX11_whoTells cX11_whoTells 4 (some .int) 8 205 [.ref this, .int p0, .int p1, .int p2] w (some (.int r')) w' True := by
  refine wd_ofW (own := RX11) (nm := "whoTells") (ks := [(some this, 12)]) (lv := [(0, .ref this), (1, .int p0), (2, .int p1), (3, .int p2)]) (by decide) rfl rfl (Nat.le_of_ble_eq_true rfl) rfl (List.forall_mem_cons.mpr ⟨⟨by decide, fun q hq => by cases hq; exact k_this⟩, (fun _ hq => absurd hq List.not_mem_nil)⟩) ?_
  intro p e s m args below meth c R H ls C hR hZ hl
  obtain ⟨hx, hb, hr, hml, hts, hown, hlocks, hmn, hK⟩ := id C
  unfold f_X11_whoTells at hf
  refine lv_aload_n hx hb dX11_whoTells_0 rfl (lv_at hl 0 rfl) ?_
  refine lv_iload_n hx hb dX11_whoTells_1 rfl (lv_at hl 1 rfl) ?_
  obtain ⟨r3, w1, hc2, hf⟩ := wd_b2_e hf
  refine z_callV (ci := 11) (As := [.int p0]) (rest := []) (c_X11_hostOf l E n w this p0 r3 w1 (hZ.k 0 rfl rfl) hc2) mo_X11_hostOf rfl (by decide) rfl tw_448 tw_2 tw_446 hx hb hml hts hown hK ⟨Nat.le_trans (by decide) hR.1, Nat.le_trans (by decide) hR.2⟩ hZ (hZ.k 0 rfl rfl) rfl hl.1 rfl (Nat.le_of_ble_eq_true rfl) rfl dX11_whoTells_2 (fun H locs cells slots hX hZ => ?_)
  have hZ := hZ.add (by decide) hX
  refine lv_pop hx hb dX11_whoTells_5 (va_rf_cat _) ?_
  refine lv_iload_n hx hb dX11_whoTells_6 rfl (lv_at hl 2 rfl) ?_
  obtain ⟨w4, hc5, hf⟩ := Option.bind_eq_some_iff.mp hf
  refine z_callS (As := [.int p1]) (rest := []) (c_X11_needAddress l E n w1 p1 w4  hc5) mo_X11_needAddress tw_535 tw_534 hx hb hml hts hown hK ⟨Nat.le_trans (by decide) hR.1, Nat.le_trans (by decide) hR.2⟩ hZ rfl hl.1 rfl (Nat.le_of_ble_eq_true rfl) rfl dX11_whoTells_7 (fun H locs cells slots hX hZ => ?_)
  refine lv_iload_n hx hb dX11_whoTells_10 rfl (lv_at hl 3 rfl) ?_
  obtain ⟨w6, hc7, hf⟩ := Option.bind_eq_some_iff.mp hf
  refine z_callS (As := [.int p2]) (rest := []) (c_X11_needTtl l E n w4 p2 w6  hc7) mo_X11_needTtl tw_638 tw_637 hx hb hml hts hown hK ⟨Nat.le_trans (by decide) hR.1, Nat.le_trans (by decide) hR.2⟩ hZ rfl hl.1 rfl (Nat.le_of_ble_eq_true rfl) rfl dX11_whoTells_11 (fun H locs cells slots hX hZ => ?_)
  refine lv_aload_n hx hb dX11_whoTells_14 rfl (lv_at hl 0 rfl) ?_
  refine z_getR (tk := 10) fd_1102 rfl hx hb hts hown hK hZ (hZ.k 1 rfl rfl) tw_308 dX11_whoTells_15 (fun hZ => ?_)
  refine lv_aload_n hx hb dX11_whoTells_18 rfl (lv_at hl 0 rfl) ?_
  refine z_getR (tk := 9) fd_1101 rfl hx hb hts hown hK hZ (hZ.k 2 rfl rfl) tw_307 dX11_whoTells_19 (fun hZ => ?_)
  obtain ⟨a8, ha8, hf⟩ := Option.bind_eq_some_iff.mp hf
  have hZ := hZ.add (r := some a8) (k := 11) (by decide) (fun q hq => by cases hq; exact hZ.k 1 rfl ha8)
  rw [ha8]
  obtain ⟨w9, hc10, hf⟩ := Option.bind_eq_some_iff.mp hf
  refine z_callV (ci := 10) (As := [va_rf (wd_R w6 1101 this)]) (rest := []) (c_X10_begin l E n w6 a8 (wd_R w6 1101 this) w9 (hZ.k 0 rfl rfl) (fun q hq => hZ.k 1 rfl hq) hc10) mo_X10_begin rfl (by decide) rfl tw_1045 tw_1046 tw_1044 hx hb hml hts hown hK ⟨Nat.le_trans (by decide) hR.1, Nat.le_trans (by decide) hR.2⟩ hZ (hZ.k 0 rfl rfl) rfl hl.1 rfl (Nat.le_of_ble_eq_true rfl) rfl dX11_whoTells_22 (fun H locs cells slots hX hZ => ?_)
  refine lv_aload_n hx hb dX11_whoTells_25 rfl (lv_at hl 0 rfl) ?_
  refine z_getR (tk := 10) fd_1102 rfl hx hb hts hown hK hZ (hZ.k 4 rfl rfl) tw_308 dX11_whoTells_26 (fun hZ => ?_)
  refine lv_iload_n hx hb dX11_whoTells_29 rfl (lv_at hl 1 rfl) ?_
  refine lv_iload_n hx hb dX11_whoTells_30 rfl (lv_at hl 2 rfl) ?_
  refine lv_bipush (v := 8) hx hb dX11_whoTells_31 (by decide) ?_
  refine lv_iload_n hx hb dX11_whoTells_33 rfl (lv_at hl 3 rfl) ?_
  refine lv_iconst (v := 0) hx hb dX11_whoTells_34 (by decide) ?_
  obtain ⟨a11, ha11, hf⟩ := Option.bind_eq_some_iff.mp hf
  have hZ := hZ.add (r := some a11) (k := 11) (by decide) (fun q hq => by cases hq; exact hZ.k 0 rfl ha11)
  rw [ha11]
  obtain ⟨w12, hc13, hf⟩ := Option.bind_eq_some_iff.mp hf
  refine z_callV (ci := 10) (As := [.int p0, .int p1, .int (8 : Int32), .int p2, .int (0 : Int32)]) (rest := []) (c_X10_ask l E n w9 a11 p0 p1 (8 : Int32) p2 (0 : Int32) w12 (hZ.k 0 rfl rfl) hc13) mo_X10_ask rfl (by decide) rfl tw_1060 tw_1061 tw_1059 hx hb hml hts hown hK ⟨Nat.le_trans (by decide) hR.1, Nat.le_trans (by decide) hR.2⟩ hZ (hZ.k 0 rfl rfl) rfl hl.1 rfl (Nat.le_of_ble_eq_true rfl) rfl dX11_whoTells_35 (fun H locs cells slots hX hZ => ?_)
  refine lv_aload_n hx hb dX11_whoTells_38 rfl (lv_at hl 0 rfl) ?_
  refine z_getR (tk := 10) fd_1102 rfl hx hb hts hown hK hZ (hZ.k 6 rfl rfl) tw_308 dX11_whoTells_39 (fun hZ => ?_)
  obtain ⟨a14, ha14, hf⟩ := Option.bind_eq_some_iff.mp hf
  have hZ := hZ.add (r := some a14) (k := 11) (by decide) (fun q hq => by cases hq; exact hZ.k 0 rfl ha14)
  rw [ha14]
  refine z_getI fd_1002 rfl hx hb hts hown hK hZ (hZ.k 0 rfl rfl) tw_285 dX11_whoTells_42 ?_
  obtain ⟨rfl, rfl⟩ := Prod.mk.inj (Option.some.inj hf)
  exact z_iret hx hb hr hlocks hZ trivial dX11_whoTells_45

def f_X11_hops_l12 (n : Nat) (rec12 : Nat → Int32 → Int32 → Int32 → Wd → Option (Int32 × Wd)) (x0 : Nat) (x1 : Int32) (x2 : Int32) (x3 : Int32) (w : Wd) : Option (Int32 × Wd) :=
  if (12 : Int32) < x3 then
    some ((-1 : Int32), w)
  else
    Option.bind (wd_R w 1102 x0) fun a7 =>
    Option.bind (f_X10_begin n w a7 (wd_R w 1101 x0)) fun w8 =>
    Option.bind (wd_R w8 1102 x0) fun a10 =>
    Option.bind (f_X10_ask n w8 a10 x1 x2 (8 : Int32) x3 (0 : Int32)) fun w11 =>
    Option.bind (wd_R w11 1102 x0) fun a13 =>
    if (wd_I w11 1000 a13) = 0 then
      wd_let (x3 + 1) fun v15 =>
      rec12 x0 x1 x2 v15 w11
    else
      some (x3, w11)
def f_X11_hops (n : Nat) (w : Wd) (this : Nat) (p0 : Int32) (p1 : Int32) : Option (Int32 × Wd) :=
  wd_b2 (f_X11_hostOf n w this p0) fun r3 w1 =>
  Option.bind (f_X11_needAddress n w1 p1) fun w4 =>
  wd_lp5 (f_X11_hops_l12 n) n this p0 p1 (1 : Int32) w4
set_option maxHeartbeats 4000000 in
set_option maxRecDepth 100000 in
theorem v_X11_hops_b12 {p : Program} {l : Launch} {e : Env} {R : Room} {s : State} {m : MethodId} {args : Array Value} {below : List Frame} {meth : Method} {c : Code} {E : wd_E} {w0 : Wd} {r' : Int32} {w' : Wd} (n : Nat) (C : wd_X p s m args meth c cX11_hops RX11 4 (some .int) "hops" E) (hR : 8 ≤ R.frames ∧ 205 ≤ R.locals) (rec12 : Nat → Int32 → Int32 → Int32 → Wd → Option (Int32 × Wd)) (hrec12 : ∀ (x0_ : Nat) (x1_ : Int32) (x2_ : Int32) (x3_ : Int32) (w_ : Wd) (H : Heap) (locs : List Loc) (cells slots : Nat) (ls : Array Slot), wd_Z E w0 R s w_ H locs cells slots [(some x0_, 12)] → lv_has ls 4 [(0, .ref x0_), (1, .int x1_), (2, .int x2_), (3, .int x3_)] → rec12 x0_ x1_ x2_ x3_ w_ = some (r', w') → W p l e R s m args below meth c H locs cells slots (wd_fin E w0 (some (.int r')) w' True R args s below) (F0 m 12 ls [])) (x0 : Nat) (x1 : Int32) (x2 : Int32) (x3 : Int32) (w : Wd) (H : Heap) (locs : List Loc) (cells slots : Nat) (ls : Array Slot) (hZ : wd_Z E w0 R s w H locs cells slots [(some x0, 12)]) (hl : lv_has ls 4 [(0, .ref x0), (1, .int x1), (2, .int x2), (3, .int x3)]) (hf : f_X11_hops_l12 n rec12 x0 x1 x2 x3 w = some (r', w')) : W p l e R s m args below meth c H locs cells slots (wd_fin E w0 (some (.int r')) w' True R args s below) (F0 m 12 ls []) := by
  obtain ⟨hx, hb, hr, hml, hts, hown, hlocks, hmn, hK⟩ := id C
  unfold f_X11_hops_l12 at hf
  refine lv_iload_n hx hb dX11_hops_12 rfl (lv_at hl 3 rfl) ?_
  refine lv_bipush (v := 12) hx hb dX11_hops_13 (by decide) ?_
  refine lv_icmp_gt (tgt := 60) hx hb dX11_hops_15 (by decide) (fun h6 => ?_) (fun h6 => ?_)
  · have hf := wd_ite_p h6 hf
    refine lv_iconst (v := -1) hx hb dX11_hops_60 (by decide) ?_
    obtain ⟨rfl, rfl⟩ := Prod.mk.inj (Option.some.inj hf)
    exact z_iret hx hb hr hlocks hZ trivial dX11_hops_61
  · have hf := wd_ite_n h6 hf
    refine lv_aload_n hx hb dX11_hops_18 rfl (lv_at hl 0 rfl) ?_
    refine z_getR (tk := 10) fd_1102 rfl hx hb hts hown hK hZ (hZ.k 0 rfl rfl) tw_308 dX11_hops_19 (fun hZ => ?_)
    refine lv_aload_n hx hb dX11_hops_22 rfl (lv_at hl 0 rfl) ?_
    refine z_getR (tk := 9) fd_1101 rfl hx hb hts hown hK hZ (hZ.k 1 rfl rfl) tw_307 dX11_hops_23 (fun hZ => ?_)
    obtain ⟨a7, ha7, hf⟩ := Option.bind_eq_some_iff.mp hf
    have hZ := hZ.add (r := some a7) (k := 11) (by decide) (fun q hq => by cases hq; exact hZ.k 1 rfl ha7)
    rw [ha7]
    obtain ⟨w8, hc9, hf⟩ := Option.bind_eq_some_iff.mp hf
    refine z_callV (ci := 10) (As := [va_rf (wd_R w 1101 x0)]) (rest := []) (c_X10_begin l E n w a7 (wd_R w 1101 x0) w8 (hZ.k 0 rfl rfl) (fun q hq => hZ.k 1 rfl hq) hc9) mo_X10_begin rfl (by decide) rfl tw_1045 tw_1046 tw_1044 hx hb hml hts hown hK ⟨Nat.le_trans (by decide) hR.1, Nat.le_trans (by decide) hR.2⟩ hZ (hZ.k 0 rfl rfl) rfl hl.1 rfl (Nat.le_of_ble_eq_true rfl) rfl dX11_hops_26 (fun H locs cells slots hX hZ => ?_)
    refine lv_aload_n hx hb dX11_hops_29 rfl (lv_at hl 0 rfl) ?_
    refine z_getR (tk := 10) fd_1102 rfl hx hb hts hown hK hZ (hZ.k 3 rfl rfl) tw_308 dX11_hops_30 (fun hZ => ?_)
    refine lv_iload_n hx hb dX11_hops_33 rfl (lv_at hl 1 rfl) ?_
    refine lv_iload_n hx hb dX11_hops_34 rfl (lv_at hl 2 rfl) ?_
    refine lv_bipush (v := 8) hx hb dX11_hops_35 (by decide) ?_
    refine lv_iload_n hx hb dX11_hops_37 rfl (lv_at hl 3 rfl) ?_
    refine lv_iconst (v := 0) hx hb dX11_hops_38 (by decide) ?_
    obtain ⟨a10, ha10, hf⟩ := Option.bind_eq_some_iff.mp hf
    have hZ := hZ.add (r := some a10) (k := 11) (by decide) (fun q hq => by cases hq; exact hZ.k 0 rfl ha10)
    rw [ha10]
    obtain ⟨w11, hc12, hf⟩ := Option.bind_eq_some_iff.mp hf
    refine z_callV (ci := 10) (As := [.int x1, .int x2, .int (8 : Int32), .int x3, .int (0 : Int32)]) (rest := []) (c_X10_ask l E n w8 a10 x1 x2 (8 : Int32) x3 (0 : Int32) w11 (hZ.k 0 rfl rfl) hc12) mo_X10_ask rfl (by decide) rfl tw_1060 tw_1061 tw_1059 hx hb hml hts hown hK ⟨Nat.le_trans (by decide) hR.1, Nat.le_trans (by decide) hR.2⟩ hZ (hZ.k 0 rfl rfl) rfl hl.1 rfl (Nat.le_of_ble_eq_true rfl) rfl dX11_hops_39 (fun H locs cells slots hX hZ => ?_)
    refine lv_aload_n hx hb dX11_hops_42 rfl (lv_at hl 0 rfl) ?_
    refine z_getR (tk := 10) fd_1102 rfl hx hb hts hown hK hZ (hZ.k 5 rfl rfl) tw_308 dX11_hops_43 (fun hZ => ?_)
    obtain ⟨a13, ha13, hf⟩ := Option.bind_eq_some_iff.mp hf
    have hZ := hZ.add (r := some a13) (k := 11) (by decide) (fun q hq => by cases hq; exact hZ.k 0 rfl ha13)
    rw [ha13]
    refine z_getI fd_1000 rfl hx hb hts hown hK hZ (hZ.k 0 rfl rfl) tw_281 dX11_hops_46 ?_
    refine lv_if_eq (tgt := 54) hx hb dX11_hops_49 (by decide) (fun h14 => ?_) (fun h14 => ?_)
    · have hf := wd_ite_p h14 hf
      obtain ⟨v15, e16, hf⟩ := wd_let_e hf
      refine lv_iinc (k := 3) (v := v15) (lv' := [(3, .int v15), (0, .ref x0), (1, .int x1), (2, .int x2)]) hx hb dX11_hops_54 hl rfl (by rw [← e16]; rfl) (by decide) rfl (fun ls hl => ?_)
      refine lv_goto (tgt := 12) hx hb dX11_hops_57 (by decide) ?_
      exact hrec12 x0 x1 x2 v15 w11 _ _ _ _ _ ⟨hZ.1, hZ.2.1, hZ.2.2.1, hZ.2.2.2.1, (List.forall_mem_cons.mpr ⟨⟨by decide, (fun q hq => by cases hq; exact (hZ.k 7 rfl rfl))⟩, (fun _ hq => absurd hq List.not_mem_nil)⟩), hZ.2.2.2.2.2⟩ (lv_sub hl [1, 2, 3, 0] rfl) hf
    · have hf := wd_ite_n h14 hf
      refine lv_iload_n hx hb dX11_hops_52 rfl (lv_at hl 3 rfl) ?_
      obtain ⟨rfl, rfl⟩ := Prod.mk.inj (Option.some.inj hf)
      exact z_iret hx hb hr hlocks hZ trivial dX11_hops_53

theorem v_X11_hops_l12 {p : Program} {l : Launch} {e : Env} {R : Room} {s : State} {m : MethodId} {args : Array Value} {below : List Frame} {meth : Method} {c : Code} {E : wd_E} {w0 : Wd} {r' : Int32} {w' : Wd} (n : Nat) (C : wd_X p s m args meth c cX11_hops RX11 4 (some .int) "hops" E) (hR : 8 ≤ R.frames ∧ 205 ≤ R.locals) : ∀ (k : Nat) (x0 : Nat) (x1 : Int32) (x2 : Int32) (x3 : Int32) (w : Wd) (H : Heap) (locs : List Loc) (cells slots : Nat) (ls : Array Slot), wd_Z E w0 R s w H locs cells slots [(some x0, 12)] → lv_has ls 4 [(0, .ref x0), (1, .int x1), (2, .int x2), (3, .int x3)] → wd_lp5 (f_X11_hops_l12 n) k x0 x1 x2 x3 w = some (r', w') → W p l e R s m args below meth c H locs cells slots (wd_fin E w0 (some (.int r')) w' True R args s below) (F0 m 12 ls []) := by
  intro k
  induction k with
  | zero => intro _ _ _ _ _ _ _ _ _ _ _ _ hf; cases hf
  | succ k ih =>
    intro x0 x1 x2 x3 w H locs cells slots ls hZ hl hf
    exact v_X11_hops_b12 n C hR (wd_lp5 (f_X11_hops_l12 n) k) ih x0 x1 x2 x3 w H locs cells slots ls hZ hl hf

set_option maxHeartbeats 4000000 in
set_option maxRecDepth 100000 in
theorem c_X11_hops (l : Launch) (E : wd_E) (n : Nat) (w : Wd) (this : Nat) (p0 : Int32) (p1 : Int32) (r' : Int32) (w' : Wd) (k_this : wd_K w this = 12) (hf : f_X11_hops n w this p0 p1 = some (r', w')) : wd_C l E yX11_hops cX11_hops 4 (some .int) 8 205 [.ref this, .int p0, .int p1] w (some (.int r')) w' True := by
  refine wd_ofW (own := RX11) (nm := "hops") (ks := [(some this, 12)]) (lv := [(0, .ref this), (1, .int p0), (2, .int p1)]) (by decide) rfl rfl (Nat.le_of_ble_eq_true rfl) rfl (List.forall_mem_cons.mpr ⟨⟨by decide, fun q hq => by cases hq; exact k_this⟩, (fun _ hq => absurd hq List.not_mem_nil)⟩) ?_
  intro p e s m args below meth c R H ls C hR hZ hl
  obtain ⟨hx, hb, hr, hml, hts, hown, hlocks, hmn, hK⟩ := id C
  unfold f_X11_hops at hf
  refine lv_aload_n hx hb dX11_hops_0 rfl (lv_at hl 0 rfl) ?_
  refine lv_iload_n hx hb dX11_hops_1 rfl (lv_at hl 1 rfl) ?_
  obtain ⟨r3, w1, hc2, hf⟩ := wd_b2_e hf
  refine z_callV (ci := 11) (As := [.int p0]) (rest := []) (c_X11_hostOf l E n w this p0 r3 w1 (hZ.k 0 rfl rfl) hc2) mo_X11_hostOf rfl (by decide) rfl tw_448 tw_2 tw_446 hx hb hml hts hown hK ⟨Nat.le_trans (by decide) hR.1, Nat.le_trans (by decide) hR.2⟩ hZ (hZ.k 0 rfl rfl) rfl hl.1 rfl (Nat.le_of_ble_eq_true rfl) rfl dX11_hops_2 (fun H locs cells slots hX hZ => ?_)
  have hZ := hZ.add (by decide) hX
  refine lv_pop hx hb dX11_hops_5 (va_rf_cat _) ?_
  refine lv_iload_n hx hb dX11_hops_6 rfl (lv_at hl 2 rfl) ?_
  obtain ⟨w4, hc5, hf⟩ := Option.bind_eq_some_iff.mp hf
  refine z_callS (As := [.int p1]) (rest := []) (c_X11_needAddress l E n w1 p1 w4  hc5) mo_X11_needAddress tw_535 tw_534 hx hb hml hts hown hK ⟨Nat.le_trans (by decide) hR.1, Nat.le_trans (by decide) hR.2⟩ hZ rfl hl.1 rfl (Nat.le_of_ble_eq_true rfl) rfl dX11_hops_7 (fun H locs cells slots hX hZ => ?_)
  refine lv_iconst (v := 1) hx hb dX11_hops_10 (by decide) ?_
  refine lv_istore_n (lv' := [(3, .int (1 : Int32)), (0, .ref this), (1, .int p0), (2, .int p1)]) hx hb dX11_hops_11 rfl hl (by decide) rfl (fun ls hl => ?_)
  exact v_X11_hops_l12 n C hR n this p0 p1 (1 : Int32) w4 _ _ _ _ _ ⟨hZ.1, hZ.2.1, hZ.2.2.1, hZ.2.2.2.1, (List.forall_mem_cons.mpr ⟨⟨by decide, (fun q hq => by cases hq; exact (hZ.k 1 rfl rfl))⟩, (fun _ hq => absurd hq List.not_mem_nil)⟩), hZ.2.2.2.2.2⟩ (lv_sub hl [1, 2, 3, 0] rfl) hf

