/-! ===== meanings and contracts, laid by wip/p33/gen ===== -/
def f_X11_frame (n : Nat) (w : Wd) (this : Nat) (p0 : Int32) (p1 : Int32) : Option (Int32 × Wd) :=
  Option.bind (wd_R w 1101 this) fun a1 =>
  Option.bind (wd_R w 900 a1) fun a2 =>
  wd_b2 (f_X8_find n w a2 p0) fun r5 w3 =>
  wd_on r5 (
    none)
    (fun a6 =>
    Option.bind (f_X11_needPart n w3 p1 (8 : Int32)) fun w7 =>
    wd_b2 (f_X0_part n w7 a6 p1) fun r11 w9 =>
    some (r11, w9))
set_option maxHeartbeats 4000000 in
set_option maxRecDepth 100000 in
theorem c_X11_frame (l : Launch) (E : wd_E) (n : Nat) (w : Wd) (this : Nat) (p0 : Int32) (p1 : Int32) (r' : Int32) (w' : Wd) (k_this : wd_K w this = 12) (hf : f_X11_frame n w this p0 p1 = some (r', w')) : wd_C l E yX11_frame cX11_frame 4 (some .int) 2 42 [.ref this, .int p0, .int p1] w (some (.int r')) w' True := by
  refine wd_ofW (own := RX11) (nm := "frame") (ks := [(some this, 12)]) (lv := [(0, .ref this), (1, .int p0), (2, .int p1)]) (by decide) rfl rfl (Nat.le_of_ble_eq_true rfl) rfl (List.forall_mem_cons.mpr ⟨⟨Nat.succ_ne_zero _, fun q hq => by cases hq; exact k_this⟩, (fun _ hq => absurd hq List.not_mem_nil)⟩) ?_
  intro p e s m args below meth c R H locs cells slots ls C hR hZ hl
  obtain ⟨hx, hb, hr, hml, hts, hown, hlocks, hmn, hK⟩ := id C
  unfold f_X11_frame at hf
  refine lv_aload_n (i := 0) hx hb dX11_frame_0 rfl (lv_at hl 0 rfl) ?_
  refine z_getR (tk := 9) fd_1101 rfl hx hb hts hown hK hZ (hZ.k 0 rfl rfl) tw_307 dX11_frame_1 ?_; clear hZ; intro hZ
  have hf9 := Option.bind_eq_some_iff.mp hf; clear hf; obtain ⟨a1, ha1, hf⟩ := hf9
  replace hZ := hZ.add (r := some a1) (k := 10) (Nat.succ_ne_zero _) (fun q hq => by cases hq; exact hZ.k 0 rfl ha1)
  rw [ha1]
  refine z_getR (tk := 8) fd_900 rfl hx hb hts hown hK hZ (hZ.k 0 rfl rfl) tw_244 dX11_frame_4 ?_; clear hZ; intro hZ
  refine lv_iload_n (i := 1) hx hb dX11_frame_7 rfl (lv_at hl 1 rfl) ?_
  have hf9 := Option.bind_eq_some_iff.mp hf; clear hf; obtain ⟨a2, ha2, hf⟩ := hf9
  replace hZ := hZ.add (r := some a2) (k := 9) (Nat.succ_ne_zero _) (fun q hq => by cases hq; exact hZ.k 0 rfl ha2)
  rw [ha2]
  have hf9 := wd_b2_e hf; clear hf; obtain ⟨r5, w3, hc4, hf⟩ := hf9
  refine z_callV (ci := 8) (As := [.int p0]) (rest := []) (c_X8_find l E n w a2 p0 r5 w3 (hZ.k 0 rfl rfl) hc4) mo_X8_find rfl (by decide) rfl tw_1033 tw_1034 tw_1032 hx hb hml hts hown hK ⟨Nat.le_trans (by decide) hR.1, Nat.le_trans (by decide) hR.2⟩ hZ (hZ.k 0 rfl rfl) rfl hl.1 rfl (Nat.le_of_ble_eq_true rfl) rfl dX11_frame_8 ?_; clear hZ; intro H locs cells slots hX hZ
  replace hZ := hZ.add (Nat.succ_ne_zero _) hX
  refine z_astore_n (i := 3) (lv' := [(3, va_rf r5), (0, .ref this), (1, .int p0), (2, .int p1)]) hx hb dX11_frame_11 rfl hl (by decide) rfl ?_; clear hl; intro ls hl
  refine z_aload_n (i := 3) hx hb dX11_frame_12 rfl (lv_at hl 0 rfl) ?_
  refine z_ifnonnull (tgt := 26) hx hb dX11_frame_13 (by decide) (fun a6 ha6 => ?_) (fun hn => ?_)
  · replace hf := wd_on_s ha6 hf
    subst ha6
    replace hl : lv_has ls 4 [(3, .ref a6), (0, .ref this), (1, .int p0), (2, .int p1)] := hl
    replace hZ : wd_Z E w R s w3 H locs cells slots [(some a6, 1), (some a2, 9), ((wd_R w 900 a1), 9), (some a1, 10), ((wd_R w 1101 this), 10), (some this, 12)] := hZ
    refine lv_iload_n (i := 2) hx hb dX11_frame_26 rfl (lv_at hl 3 rfl) ?_
    refine lv_bipush (v := 8) hx hb dX11_frame_27 (by decide) ?_
    have hf9 := Option.bind_eq_some_iff.mp hf; clear hf; obtain ⟨w7, hc8, hf⟩ := hf9
    refine z_callS (As := [.int p1, .int (8 : Int32)]) (rest := []) (c_X11_needPart l E n w3 p1 (8 : Int32) w7  hc8) mo_X11_needPart tw_1008 tw_1007 hx hb hml hts hown hK ⟨Nat.le_trans (by decide) hR.1, Nat.le_trans (by decide) hR.2⟩ hZ rfl hl.1 rfl (Nat.le_of_ble_eq_true rfl) rfl dX11_frame_29 ?_; clear hZ; intro H locs cells slots hX hZ
    refine lv_aload_n (i := 3) hx hb dX11_frame_32 rfl (lv_at hl 0 rfl) ?_
    refine lv_iload_n (i := 2) hx hb dX11_frame_33 rfl (lv_at hl 3 rfl) ?_
    have hf9 := wd_b2_e hf; clear hf; obtain ⟨r11, w9, hc10, hf⟩ := hf9
    refine z_callV (ci := 0) (As := [.int p1]) (rest := []) (c_X0_part l E n w7 a6 p1 r11 w9 (hZ.k 0 rfl rfl) hc10) mo_X0_part rfl (by decide) rfl tw_431 tw_432 tw_430 hx hb hml hts hown hK ⟨Nat.le_trans (by decide) hR.1, Nat.le_trans (by decide) hR.2⟩ hZ (hZ.k 0 rfl rfl) rfl hl.1 rfl (Nat.le_of_ble_eq_true rfl) rfl dX11_frame_34 ?_; clear hZ; intro H locs cells slots hX hZ
    obtain ⟨rfl, rfl⟩ := Prod.mk.inj (Option.some.inj hf)
    exact z_iret hx hb hr hlocks hZ trivial dX11_frame_37
  · replace hf := wd_on_n hn hf
    subst hn
    replace hl : lv_has ls 4 [(3, va_rf none), (0, .ref this), (1, .int p0), (2, .int p1)] := hl
    replace hZ : wd_Z E w R s w3 H locs cells slots [(none, 1), (some a2, 9), ((wd_R w 900 a1), 9), (some a1, 10), ((wd_R w 1101 this), 10), (some this, 12)] := hZ
    cases hf

def f_X11_knows (n : Nat) (w : Wd) (this : Nat) (p0 : Int32) (p1 : Int32) : Option (Int32 × Wd) :=
  wd_b2 (f_X11_hostOf n w this p0) fun r3 w1 =>
  Option.bind (f_X11_needAddress n w1 p1) fun w4 =>
  Option.bind r3 fun a6 =>
  wd_b2 (f_X2_knownMark n w4 a6 p1) fun r9 w7 =>
  some (r9, w7)
set_option maxHeartbeats 4000000 in
set_option maxRecDepth 100000 in
theorem c_X11_knows (l : Launch) (E : wd_E) (n : Nat) (w : Wd) (this : Nat) (p0 : Int32) (p1 : Int32) (r' : Int32) (w' : Wd) (k_this : wd_K w this = 12) (hf : f_X11_knows n w this p0 p1 = some (r', w')) : wd_C l E yX11_knows cX11_knows 4 (some .int) 2 43 [.ref this, .int p0, .int p1] w (some (.int r')) w' True := by
  refine wd_ofW (own := RX11) (nm := "knows") (ks := [(some this, 12)]) (lv := [(0, .ref this), (1, .int p0), (2, .int p1)]) (by decide) rfl rfl (Nat.le_of_ble_eq_true rfl) rfl (List.forall_mem_cons.mpr ⟨⟨Nat.succ_ne_zero _, fun q hq => by cases hq; exact k_this⟩, (fun _ hq => absurd hq List.not_mem_nil)⟩) ?_
  intro p e s m args below meth c R H locs cells slots ls C hR hZ hl
  obtain ⟨hx, hb, hr, hml, hts, hown, hlocks, hmn, hK⟩ := id C
  unfold f_X11_knows at hf
  refine lv_aload_n (i := 0) hx hb dX11_knows_0 rfl (lv_at hl 0 rfl) ?_
  refine lv_iload_n (i := 1) hx hb dX11_knows_1 rfl (lv_at hl 1 rfl) ?_
  have hf9 := wd_b2_e hf; clear hf; obtain ⟨r3, w1, hc2, hf⟩ := hf9
  refine z_callV (ci := 11) (As := [.int p0]) (rest := []) (c_X11_hostOf l E n w this p0 r3 w1 (hZ.k 0 rfl rfl) hc2) mo_X11_hostOf rfl (by decide) rfl tw_448 tw_2 tw_446 hx hb hml hts hown hK ⟨Nat.le_trans (by decide) hR.1, Nat.le_trans (by decide) hR.2⟩ hZ (hZ.k 0 rfl rfl) rfl hl.1 rfl (Nat.le_of_ble_eq_true rfl) rfl dX11_knows_2 ?_; clear hZ; intro H locs cells slots hX hZ
  replace hZ := hZ.add (Nat.succ_ne_zero _) hX
  refine z_astore_n (i := 3) (lv' := [(3, va_rf r3), (0, .ref this), (1, .int p0), (2, .int p1)]) hx hb dX11_knows_5 rfl hl (by decide) rfl ?_; clear hl; intro ls hl
  refine lv_iload_n (i := 2) hx hb dX11_knows_6 rfl (lv_at hl 3 rfl) ?_
  have hf9 := Option.bind_eq_some_iff.mp hf; clear hf; obtain ⟨w4, hc5, hf⟩ := hf9
  refine z_callS (As := [.int p1]) (rest := []) (c_X11_needAddress l E n w1 p1 w4  hc5) mo_X11_needAddress tw_535 tw_534 hx hb hml hts hown hK ⟨Nat.le_trans (by decide) hR.1, Nat.le_trans (by decide) hR.2⟩ hZ rfl hl.1 rfl (Nat.le_of_ble_eq_true rfl) rfl dX11_knows_7 ?_; clear hZ; intro H locs cells slots hX hZ
  refine z_aload_n (i := 3) hx hb dX11_knows_10 rfl (lv_at hl 0 rfl) ?_
  refine lv_iload_n (i := 2) hx hb dX11_knows_11 rfl (lv_at hl 3 rfl) ?_
  have hf9 := Option.bind_eq_some_iff.mp hf; clear hf; obtain ⟨a6, ha6, hf⟩ := hf9
  subst ha6
  replace hl : lv_has ls 4 [(3, .ref a6), (0, .ref this), (1, .int p0), (2, .int p1)] := hl
  replace hZ : wd_Z E w R s w4 H locs cells slots [(some a6, 3), (some this, 12)] := hZ
  have hf9 := wd_b2_e hf; clear hf; obtain ⟨r9, w7, hc8, hf⟩ := hf9
  refine z_callV (ci := 2) (As := [.int p1]) (rest := []) (c_X2_knownMark l E n w4 a6 p1 r9 w7 (hZ.k 0 rfl rfl) hc8) mo_X2_knownMark rfl (by decide) rfl tw_492 tw_493 tw_491 hx hb hml hts hown hK ⟨Nat.le_trans (by decide) hR.1, Nat.le_trans (by decide) hR.2⟩ hZ (hZ.k 0 rfl rfl) rfl hl.1 rfl (Nat.le_of_ble_eq_true rfl) rfl dX11_knows_12 ?_; clear hZ; intro H locs cells slots hX hZ
  obtain ⟨rfl, rfl⟩ := Prod.mk.inj (Option.some.inj hf)
  exact z_iret hx hb hr hlocks hZ trivial dX11_knows_15

def f_X11_waiting (n : Nat) (w : Wd) (this : Nat) (p0 : Int32) : Option (Int32 × Wd) :=
  wd_b2 (f_X11_hostOf n w this p0) fun r3 w1 =>
  Option.bind r3 fun a4 =>
  some ((wd_I w1 201 a4), w1)
set_option maxHeartbeats 4000000 in
set_option maxRecDepth 100000 in
theorem c_X11_waiting (l : Launch) (E : wd_E) (n : Nat) (w : Wd) (this : Nat) (p0 : Int32) (r' : Int32) (w' : Wd) (k_this : wd_K w this = 12) (hf : f_X11_waiting n w this p0 = some (r', w')) : wd_C l E yX11_waiting cX11_waiting 2 (some .int) 2 43 [.ref this, .int p0] w (some (.int r')) w' True := by
  refine wd_ofW (own := RX11) (nm := "waiting") (ks := [(some this, 12)]) (lv := [(0, .ref this), (1, .int p0)]) (by decide) rfl rfl (Nat.le_of_ble_eq_true rfl) rfl (List.forall_mem_cons.mpr ⟨⟨Nat.succ_ne_zero _, fun q hq => by cases hq; exact k_this⟩, (fun _ hq => absurd hq List.not_mem_nil)⟩) ?_
  intro p e s m args below meth c R H locs cells slots ls C hR hZ hl
  obtain ⟨hx, hb, hr, hml, hts, hown, hlocks, hmn, hK⟩ := id C
  unfold f_X11_waiting at hf
  refine lv_aload_n (i := 0) hx hb dX11_waiting_0 rfl (lv_at hl 0 rfl) ?_
  refine lv_iload_n (i := 1) hx hb dX11_waiting_1 rfl (lv_at hl 1 rfl) ?_
  have hf9 := wd_b2_e hf; clear hf; obtain ⟨r3, w1, hc2, hf⟩ := hf9
  refine z_callV (ci := 11) (As := [.int p0]) (rest := []) (c_X11_hostOf l E n w this p0 r3 w1 (hZ.k 0 rfl rfl) hc2) mo_X11_hostOf rfl (by decide) rfl tw_448 tw_2 tw_446 hx hb hml hts hown hK ⟨Nat.le_trans (by decide) hR.1, Nat.le_trans (by decide) hR.2⟩ hZ (hZ.k 0 rfl rfl) rfl hl.1 rfl (Nat.le_of_ble_eq_true rfl) rfl dX11_waiting_2 ?_; clear hZ; intro H locs cells slots hX hZ
  replace hZ := hZ.add (Nat.succ_ne_zero _) hX
  have hf9 := Option.bind_eq_some_iff.mp hf; clear hf; obtain ⟨a4, ha4, hf⟩ := hf9
  subst ha4
  replace hl : lv_has ls 2 [(0, .ref this), (1, .int p0)] := hl
  replace hZ : wd_Z E w R s w1 H locs cells slots [(some a4, 3), (some this, 12)] := hZ
  refine z_getI fd_201 rfl hx hb hts hown hK hZ (hZ.k 0 rfl rfl) tw_208 dX11_waiting_5 ?_
  obtain ⟨rfl, rfl⟩ := Prod.mk.inj (Option.some.inj hf)
  exact z_iret hx hb hr hlocks hZ trivial dX11_waiting_8

def f_X11_heaps (n : Nat) (w : Wd) (this : Nat) (p0 : Int32) : Option (Int32 × Wd) :=
  wd_b2 (f_X11_hostOf n w this p0) fun r3 w1 =>
  Option.bind r3 fun a4 =>
  some ((wd_I w1 202 a4), w1)
set_option maxHeartbeats 4000000 in
set_option maxRecDepth 100000 in
theorem c_X11_heaps (l : Launch) (E : wd_E) (n : Nat) (w : Wd) (this : Nat) (p0 : Int32) (r' : Int32) (w' : Wd) (k_this : wd_K w this = 12) (hf : f_X11_heaps n w this p0 = some (r', w')) : wd_C l E yX11_heaps cX11_heaps 2 (some .int) 2 43 [.ref this, .int p0] w (some (.int r')) w' True := by
  refine wd_ofW (own := RX11) (nm := "heaps") (ks := [(some this, 12)]) (lv := [(0, .ref this), (1, .int p0)]) (by decide) rfl rfl (Nat.le_of_ble_eq_true rfl) rfl (List.forall_mem_cons.mpr ⟨⟨Nat.succ_ne_zero _, fun q hq => by cases hq; exact k_this⟩, (fun _ hq => absurd hq List.not_mem_nil)⟩) ?_
  intro p e s m args below meth c R H locs cells slots ls C hR hZ hl
  obtain ⟨hx, hb, hr, hml, hts, hown, hlocks, hmn, hK⟩ := id C
  unfold f_X11_heaps at hf
  refine lv_aload_n (i := 0) hx hb dX11_heaps_0 rfl (lv_at hl 0 rfl) ?_
  refine lv_iload_n (i := 1) hx hb dX11_heaps_1 rfl (lv_at hl 1 rfl) ?_
  have hf9 := wd_b2_e hf; clear hf; obtain ⟨r3, w1, hc2, hf⟩ := hf9
  refine z_callV (ci := 11) (As := [.int p0]) (rest := []) (c_X11_hostOf l E n w this p0 r3 w1 (hZ.k 0 rfl rfl) hc2) mo_X11_hostOf rfl (by decide) rfl tw_448 tw_2 tw_446 hx hb hml hts hown hK ⟨Nat.le_trans (by decide) hR.1, Nat.le_trans (by decide) hR.2⟩ hZ (hZ.k 0 rfl rfl) rfl hl.1 rfl (Nat.le_of_ble_eq_true rfl) rfl dX11_heaps_2 ?_; clear hZ; intro H locs cells slots hX hZ
  replace hZ := hZ.add (Nat.succ_ne_zero _) hX
  have hf9 := Option.bind_eq_some_iff.mp hf; clear hf; obtain ⟨a4, ha4, hf⟩ := hf9
  subst ha4
  replace hl : lv_has ls 2 [(0, .ref this), (1, .int p0)] := hl
  replace hZ : wd_Z E w R s w1 H locs cells slots [(some a4, 3), (some this, 12)] := hZ
  refine z_getI fd_202 rfl hx hb hts hown hK hZ (hZ.k 0 rfl rfl) tw_211 dX11_heaps_5 ?_
  obtain ⟨rfl, rfl⟩ := Prod.mk.inj (Option.some.inj hf)
  exact z_iret hx hb hr hlocks hZ trivial dX11_heaps_8

def f_X11_noted (n : Nat) (w : Wd) (this : Nat) (p0 : Int32) : Option (Int32 × Wd) :=
  wd_b2 (f_X11_hostOf n w this p0) fun r3 w1 =>
  Option.bind r3 fun a4 =>
  some ((wd_I w1 203 a4), w1)
set_option maxHeartbeats 4000000 in
set_option maxRecDepth 100000 in
theorem c_X11_noted (l : Launch) (E : wd_E) (n : Nat) (w : Wd) (this : Nat) (p0 : Int32) (r' : Int32) (w' : Wd) (k_this : wd_K w this = 12) (hf : f_X11_noted n w this p0 = some (r', w')) : wd_C l E yX11_noted cX11_noted 2 (some .int) 2 43 [.ref this, .int p0] w (some (.int r')) w' True := by
  refine wd_ofW (own := RX11) (nm := "noted") (ks := [(some this, 12)]) (lv := [(0, .ref this), (1, .int p0)]) (by decide) rfl rfl (Nat.le_of_ble_eq_true rfl) rfl (List.forall_mem_cons.mpr ⟨⟨Nat.succ_ne_zero _, fun q hq => by cases hq; exact k_this⟩, (fun _ hq => absurd hq List.not_mem_nil)⟩) ?_
  intro p e s m args below meth c R H locs cells slots ls C hR hZ hl
  obtain ⟨hx, hb, hr, hml, hts, hown, hlocks, hmn, hK⟩ := id C
  unfold f_X11_noted at hf
  refine lv_aload_n (i := 0) hx hb dX11_noted_0 rfl (lv_at hl 0 rfl) ?_
  refine lv_iload_n (i := 1) hx hb dX11_noted_1 rfl (lv_at hl 1 rfl) ?_
  have hf9 := wd_b2_e hf; clear hf; obtain ⟨r3, w1, hc2, hf⟩ := hf9
  refine z_callV (ci := 11) (As := [.int p0]) (rest := []) (c_X11_hostOf l E n w this p0 r3 w1 (hZ.k 0 rfl rfl) hc2) mo_X11_hostOf rfl (by decide) rfl tw_448 tw_2 tw_446 hx hb hml hts hown hK ⟨Nat.le_trans (by decide) hR.1, Nat.le_trans (by decide) hR.2⟩ hZ (hZ.k 0 rfl rfl) rfl hl.1 rfl (Nat.le_of_ble_eq_true rfl) rfl dX11_noted_2 ?_; clear hZ; intro H locs cells slots hX hZ
  replace hZ := hZ.add (Nat.succ_ne_zero _) hX
  have hf9 := Option.bind_eq_some_iff.mp hf; clear hf; obtain ⟨a4, ha4, hf⟩ := hf9
  subst ha4
  replace hl : lv_has ls 2 [(0, .ref this), (1, .int p0)] := hl
  replace hZ : wd_Z E w R s w1 H locs cells slots [(some a4, 3), (some this, 12)] := hZ
  refine z_getI fd_203 rfl hx hb hts hown hK hZ (hZ.k 0 rfl rfl) tw_214 dX11_noted_5 ?_
  obtain ⟨rfl, rfl⟩ := Prod.mk.inj (Option.some.inj hf)
  exact z_iret hx hb hr hlocks hZ trivial dX11_noted_8

def f_X11_note (n : Nat) (w : Wd) (this : Nat) (p0 : Int32) (p1 : Int32) (p2 : Int32) : Option (Int32 × Wd) :=
  wd_b2 (f_X11_hostOf n w this p0) fun r3 w1 =>
  Option.bind r3 fun a4 =>
  wd_b2 (f_X2_isTold n w1 a4 p1) fun r7 w5 =>
  if r7 = 0 then
    none
  else
    Option.bind (f_X11_needPart n w5 p2 (6 : Int32)) fun w9 =>
    wd_b2 (f_X2_notePart n w9 a4 p1 p2) fun r13 w11 =>
    some (r13, w11)
set_option maxHeartbeats 4000000 in
set_option maxRecDepth 100000 in
theorem c_X11_note (l : Launch) (E : wd_E) (n : Nat) (w : Wd) (this : Nat) (p0 : Int32) (p1 : Int32) (p2 : Int32) (r' : Int32) (w' : Wd) (k_this : wd_K w this = 12) (hf : f_X11_note n w this p0 p1 p2 = some (r', w')) : wd_C l E yX11_note cX11_note 5 (some .int) 2 43 [.ref this, .int p0, .int p1, .int p2] w (some (.int r')) w' True := by
  refine wd_ofW (own := RX11) (nm := "note") (ks := [(some this, 12)]) (lv := [(0, .ref this), (1, .int p0), (2, .int p1), (3, .int p2)]) (by decide) rfl rfl (Nat.le_of_ble_eq_true rfl) rfl (List.forall_mem_cons.mpr ⟨⟨Nat.succ_ne_zero _, fun q hq => by cases hq; exact k_this⟩, (fun _ hq => absurd hq List.not_mem_nil)⟩) ?_
  intro p e s m args below meth c R H locs cells slots ls C hR hZ hl
  obtain ⟨hx, hb, hr, hml, hts, hown, hlocks, hmn, hK⟩ := id C
  unfold f_X11_note at hf
  refine lv_aload_n (i := 0) hx hb dX11_note_0 rfl (lv_at hl 0 rfl) ?_
  refine lv_iload_n (i := 1) hx hb dX11_note_1 rfl (lv_at hl 1 rfl) ?_
  have hf9 := wd_b2_e hf; clear hf; obtain ⟨r3, w1, hc2, hf⟩ := hf9
  refine z_callV (ci := 11) (As := [.int p0]) (rest := []) (c_X11_hostOf l E n w this p0 r3 w1 (hZ.k 0 rfl rfl) hc2) mo_X11_hostOf rfl (by decide) rfl tw_448 tw_2 tw_446 hx hb hml hts hown hK ⟨Nat.le_trans (by decide) hR.1, Nat.le_trans (by decide) hR.2⟩ hZ (hZ.k 0 rfl rfl) rfl hl.1 rfl (Nat.le_of_ble_eq_true rfl) rfl dX11_note_2 ?_; clear hZ; intro H locs cells slots hX hZ
  replace hZ := hZ.add (Nat.succ_ne_zero _) hX
  refine z_astore (i := 4) (lv' := [(4, va_rf r3), (0, .ref this), (1, .int p0), (2, .int p1), (3, .int p2)]) hx hb dX11_note_5 hl (by decide) rfl ?_; clear hl; intro ls hl
  refine z_aload hx hb dX11_note_7 (lv_at hl 0 rfl) ?_
  refine lv_iload_n (i := 2) hx hb dX11_note_9 rfl (lv_at hl 3 rfl) ?_
  have hf9 := Option.bind_eq_some_iff.mp hf; clear hf; obtain ⟨a4, ha4, hf⟩ := hf9
  subst ha4
  replace hl : lv_has ls 5 [(4, .ref a4), (0, .ref this), (1, .int p0), (2, .int p1), (3, .int p2)] := hl
  replace hZ : wd_Z E w R s w1 H locs cells slots [(some a4, 3), (some this, 12)] := hZ
  have hf9 := wd_b2_e hf; clear hf; obtain ⟨r7, w5, hc6, hf⟩ := hf9
  refine z_callV (ci := 2) (As := [.int p1]) (rest := []) (c_X2_isTold l E n w1 a4 p1 r7 w5 (hZ.k 0 rfl rfl) hc6) mo_X2_isTold rfl (by decide) rfl tw_475 tw_476 tw_474 hx hb hml hts hown hK ⟨Nat.le_trans (by decide) hR.1, Nat.le_trans (by decide) hR.2⟩ hZ (hZ.k 0 rfl rfl) rfl hl.1 rfl (Nat.le_of_ble_eq_true rfl) rfl dX11_note_10 ?_; clear hZ; intro H locs cells slots hX hZ
  refine lv_if_ne (tgt := 26) hx hb dX11_note_13 (by decide) (fun h8 => ?_) (fun h8 => ?_)
  · replace hf := wd_ite_n h8 hf
    refine lv_iload_n (i := 3) hx hb dX11_note_26 rfl (lv_at hl 4 rfl) ?_
    refine lv_bipush (v := 6) hx hb dX11_note_27 (by decide) ?_
    have hf9 := Option.bind_eq_some_iff.mp hf; clear hf; obtain ⟨w9, hc10, hf⟩ := hf9
    refine z_callS (As := [.int p2, .int (6 : Int32)]) (rest := []) (c_X11_needPart l E n w5 p2 (6 : Int32) w9  hc10) mo_X11_needPart tw_1008 tw_1007 hx hb hml hts hown hK ⟨Nat.le_trans (by decide) hR.1, Nat.le_trans (by decide) hR.2⟩ hZ rfl hl.1 rfl (Nat.le_of_ble_eq_true rfl) rfl dX11_note_29 ?_; clear hZ; intro H locs cells slots hX hZ
    refine lv_aload hx hb dX11_note_32 (lv_at hl 0 rfl) ?_
    refine lv_iload_n (i := 2) hx hb dX11_note_34 rfl (lv_at hl 3 rfl) ?_
    refine lv_iload_n (i := 3) hx hb dX11_note_35 rfl (lv_at hl 4 rfl) ?_
    have hf9 := wd_b2_e hf; clear hf; obtain ⟨r13, w11, hc12, hf⟩ := hf9
    refine z_callV (ci := 2) (As := [.int p1, .int p2]) (rest := []) (c_X2_notePart l E n w9 a4 p1 p2 r13 w11 (hZ.k 0 rfl rfl) hc12) mo_X2_notePart rfl (by decide) rfl tw_479 tw_480 tw_478 hx hb hml hts hown hK ⟨Nat.le_trans (by decide) hR.1, Nat.le_trans (by decide) hR.2⟩ hZ (hZ.k 0 rfl rfl) rfl hl.1 rfl (Nat.le_of_ble_eq_true rfl) rfl dX11_note_36 ?_; clear hZ; intro H locs cells slots hX hZ
    obtain ⟨rfl, rfl⟩ := Prod.mk.inj (Option.some.inj hf)
    exact z_iret hx hb hr hlocks hZ trivial dX11_note_39
  · replace hf := wd_ite_p h8 hf
    cases hf

def f_X11_way (n : Nat) (w : Wd) (this : Nat) (p0 : Int32) (p1 : Int32) (p2 : Int32) : Option (Int32 × Wd) :=
  wd_b2 (f_X11_hostOf n w this p0) fun r3 w1 =>
  Option.bind r3 fun a4 =>
  wd_let (wd_R w1 200 a4) fun v5 =>
  Option.bind (f_X11_needAddress n w1 p1) fun w7 =>
  Option.bind (f_X11_needPart n w7 p2 (3 : Int32)) fun w9 =>
  if p2 = 0 then
    Option.bind v5 fun a21 =>
    wd_b2 (f_X3_portTo n w9 a21 p1) fun r24 w22 =>
    some (r24, w22)
  else
    if p2 = (1 : Int32) then
      Option.bind v5 fun a17 =>
      wd_b2 (f_X3_hopTo n w9 a17 p1) fun r20 w18 =>
      some (r20, w18)
    else
      Option.bind v5 fun a13 =>
      wd_b2 (f_X3_lengthTo n w9 a13 p1) fun r16 w14 =>
      some (r16, w14)
set_option maxHeartbeats 4000000 in
set_option maxRecDepth 100000 in
theorem c_X11_way (l : Launch) (E : wd_E) (n : Nat) (w : Wd) (this : Nat) (p0 : Int32) (p1 : Int32) (p2 : Int32) (r' : Int32) (w' : Wd) (k_this : wd_K w this = 12) (hf : f_X11_way n w this p0 p1 p2 = some (r', w')) : wd_C l E yX11_way cX11_way 5 (some .int) 2 43 [.ref this, .int p0, .int p1, .int p2] w (some (.int r')) w' True := by
  refine wd_ofW (own := RX11) (nm := "way") (ks := [(some this, 12)]) (lv := [(0, .ref this), (1, .int p0), (2, .int p1), (3, .int p2)]) (by decide) rfl rfl (Nat.le_of_ble_eq_true rfl) rfl (List.forall_mem_cons.mpr ⟨⟨Nat.succ_ne_zero _, fun q hq => by cases hq; exact k_this⟩, (fun _ hq => absurd hq List.not_mem_nil)⟩) ?_
  intro p e s m args below meth c R H locs cells slots ls C hR hZ hl
  obtain ⟨hx, hb, hr, hml, hts, hown, hlocks, hmn, hK⟩ := id C
  unfold f_X11_way at hf
  refine lv_aload_n (i := 0) hx hb dX11_way_0 rfl (lv_at hl 0 rfl) ?_
  refine lv_iload_n (i := 1) hx hb dX11_way_1 rfl (lv_at hl 1 rfl) ?_
  have hf9 := wd_b2_e hf; clear hf; obtain ⟨r3, w1, hc2, hf⟩ := hf9
  refine z_callV (ci := 11) (As := [.int p0]) (rest := []) (c_X11_hostOf l E n w this p0 r3 w1 (hZ.k 0 rfl rfl) hc2) mo_X11_hostOf rfl (by decide) rfl tw_448 tw_2 tw_446 hx hb hml hts hown hK ⟨Nat.le_trans (by decide) hR.1, Nat.le_trans (by decide) hR.2⟩ hZ (hZ.k 0 rfl rfl) rfl hl.1 rfl (Nat.le_of_ble_eq_true rfl) rfl dX11_way_2 ?_; clear hZ; intro H locs cells slots hX hZ
  replace hZ := hZ.add (Nat.succ_ne_zero _) hX
  have hf9 := Option.bind_eq_some_iff.mp hf; clear hf; obtain ⟨a4, ha4, hf⟩ := hf9
  subst ha4
  replace hl : lv_has ls 5 [(0, .ref this), (1, .int p0), (2, .int p1), (3, .int p2)] := hl
  replace hZ : wd_Z E w R s w1 H locs cells slots [(some a4, 3), (some this, 12)] := hZ
  refine z_getR (tk := 3) fd_200 rfl hx hb hts hown hK hZ (hZ.k 0 rfl rfl) tw_205 dX11_way_5 ?_; clear hZ; intro hZ
  have hf9 := wd_let_e hf; clear hf; obtain ⟨v5, e6, hf⟩ := hf9
  rw [e6]
  rw [e6] at hZ
  refine z_astore (i := 4) (lv' := [(4, va_rf v5), (0, .ref this), (1, .int p0), (2, .int p1), (3, .int p2)]) hx hb dX11_way_8 hl (by decide) rfl ?_; clear hl; intro ls hl
  refine lv_iload_n (i := 2) hx hb dX11_way_10 rfl (lv_at hl 3 rfl) ?_
  have hf9 := Option.bind_eq_some_iff.mp hf; clear hf; obtain ⟨w7, hc8, hf⟩ := hf9
  refine z_callS (As := [.int p1]) (rest := []) (c_X11_needAddress l E n w1 p1 w7  hc8) mo_X11_needAddress tw_535 tw_534 hx hb hml hts hown hK ⟨Nat.le_trans (by decide) hR.1, Nat.le_trans (by decide) hR.2⟩ hZ rfl hl.1 rfl (Nat.le_of_ble_eq_true rfl) rfl dX11_way_11 ?_; clear hZ; intro H locs cells slots hX hZ
  refine lv_iload_n (i := 3) hx hb dX11_way_14 rfl (lv_at hl 4 rfl) ?_
  refine lv_iconst (v := 3) hx hb dX11_way_15 (by decide) ?_
  have hf9 := Option.bind_eq_some_iff.mp hf; clear hf; obtain ⟨w9, hc10, hf⟩ := hf9
  refine z_callS (As := [.int p2, .int (3 : Int32)]) (rest := []) (c_X11_needPart l E n w7 p2 (3 : Int32) w9  hc10) mo_X11_needPart tw_1008 tw_1007 hx hb hml hts hown hK ⟨Nat.le_trans (by decide) hR.1, Nat.le_trans (by decide) hR.2⟩ hZ rfl hl.1 rfl (Nat.le_of_ble_eq_true rfl) rfl dX11_way_16 ?_; clear hZ; intro H locs cells slots hX hZ
  refine lv_iload_n (i := 3) hx hb dX11_way_19 rfl (lv_at hl 4 rfl) ?_
  refine lv_if_ne (tgt := 30) hx hb dX11_way_20 (by decide) (fun h11 => ?_) (fun h11 => ?_)
  · replace hf := wd_ite_n h11 hf
    refine lv_iload_n (i := 3) hx hb dX11_way_30 rfl (lv_at hl 4 rfl) ?_
    refine lv_iconst (v := 1) hx hb dX11_way_31 (by decide) ?_
    refine lv_icmp_ne (tgt := 44) hx hb dX11_way_32 (by decide) (fun h12 => ?_) (fun h12 => ?_)
    · replace hf := wd_ite_n h12 hf
      refine z_aload hx hb dX11_way_44 (lv_at hl 0 rfl) ?_
      refine lv_iload_n (i := 2) hx hb dX11_way_46 rfl (lv_at hl 3 rfl) ?_
      have hf9 := Option.bind_eq_some_iff.mp hf; clear hf; obtain ⟨a13, ha13, hf⟩ := hf9
      subst ha13
      replace hl : lv_has ls 5 [(4, .ref a13), (0, .ref this), (1, .int p0), (2, .int p1), (3, .int p2)] := hl
      replace hZ : wd_Z E w R s w9 H locs cells slots [(some a13, 4), (some a4, 3), (some this, 12)] := hZ
      have hf9 := wd_b2_e hf; clear hf; obtain ⟨r16, w14, hc15, hf⟩ := hf9
      refine z_callV (ci := 3) (As := [.int p1]) (rest := []) (c_X3_lengthTo l E n w9 a13 p1 r16 w14 (hZ.k 0 rfl rfl) hc15) mo_X3_lengthTo rfl (by decide) rfl tw_1022 tw_1023 tw_1021 hx hb hml hts hown hK ⟨Nat.le_trans (by decide) hR.1, Nat.le_trans (by decide) hR.2⟩ hZ (hZ.k 0 rfl rfl) rfl hl.1 rfl (Nat.le_of_ble_eq_true rfl) rfl dX11_way_47 ?_; clear hZ; intro H locs cells slots hX hZ
      obtain ⟨rfl, rfl⟩ := Prod.mk.inj (Option.some.inj hf)
      exact z_iret hx hb hr hlocks hZ trivial dX11_way_50
    · replace hf := wd_ite_p h12 hf
      refine z_aload hx hb dX11_way_35 (lv_at hl 0 rfl) ?_
      refine lv_iload_n (i := 2) hx hb dX11_way_37 rfl (lv_at hl 3 rfl) ?_
      have hf9 := Option.bind_eq_some_iff.mp hf; clear hf; obtain ⟨a17, ha17, hf⟩ := hf9
      subst ha17
      replace hl : lv_has ls 5 [(4, .ref a17), (0, .ref this), (1, .int p0), (2, .int p1), (3, .int p2)] := hl
      replace hZ : wd_Z E w R s w9 H locs cells slots [(some a17, 4), (some a4, 3), (some this, 12)] := hZ
      have hf9 := wd_b2_e hf; clear hf; obtain ⟨r20, w18, hc19, hf⟩ := hf9
      refine z_callV (ci := 3) (As := [.int p1]) (rest := []) (c_X3_hopTo l E n w9 a17 p1 r20 w18 (hZ.k 0 rfl rfl) hc19) mo_X3_hopTo rfl (by decide) rfl tw_657 tw_658 tw_1020 hx hb hml hts hown hK ⟨Nat.le_trans (by decide) hR.1, Nat.le_trans (by decide) hR.2⟩ hZ (hZ.k 0 rfl rfl) rfl hl.1 rfl (Nat.le_of_ble_eq_true rfl) rfl dX11_way_38 ?_; clear hZ; intro H locs cells slots hX hZ
      refine lv_goto (tgt := 50) hx hb dX11_way_41 (by decide) ?_
      obtain ⟨rfl, rfl⟩ := Prod.mk.inj (Option.some.inj hf)
      exact z_iret hx hb hr hlocks hZ trivial dX11_way_50
  · replace hf := wd_ite_p h11 hf
    refine z_aload hx hb dX11_way_23 (lv_at hl 0 rfl) ?_
    refine lv_iload_n (i := 2) hx hb dX11_way_25 rfl (lv_at hl 3 rfl) ?_
    have hf9 := Option.bind_eq_some_iff.mp hf; clear hf; obtain ⟨a21, ha21, hf⟩ := hf9
    subst ha21
    replace hl : lv_has ls 5 [(4, .ref a21), (0, .ref this), (1, .int p0), (2, .int p1), (3, .int p2)] := hl
    replace hZ : wd_Z E w R s w9 H locs cells slots [(some a21, 4), (some a4, 3), (some this, 12)] := hZ
    have hf9 := wd_b2_e hf; clear hf; obtain ⟨r24, w22, hc23, hf⟩ := hf9
    refine z_callV (ci := 3) (As := [.int p1]) (rest := []) (c_X3_portTo l E n w9 a21 p1 r24 w22 (hZ.k 0 rfl rfl) hc23) mo_X3_portTo rfl (by decide) rfl tw_653 tw_654 tw_1019 hx hb hml hts hown hK ⟨Nat.le_trans (by decide) hR.1, Nat.le_trans (by decide) hR.2⟩ hZ (hZ.k 0 rfl rfl) rfl hl.1 rfl (Nat.le_of_ble_eq_true rfl) rfl dX11_way_26 ?_; clear hZ; intro H locs cells slots hX hZ
    obtain ⟨rfl, rfl⟩ := Prod.mk.inj (Option.some.inj hf)
    exact z_iret hx hb hr hlocks hZ trivial dX11_way_29

def f_X11_carried (n : Nat) (w : Wd) (this : Nat) (p0 : Int32) : Option (Int32 × Wd) :=
  Option.bind (f_X11_needCable n w this p0) fun w1 =>
  Option.bind (wd_R w1 1101 this) fun a3 =>
  wd_b2 (f_X9_carriedOn n w1 a3 p0) fun r6 w4 =>
  some (r6, w4)
set_option maxHeartbeats 4000000 in
set_option maxRecDepth 100000 in
theorem c_X11_carried (l : Launch) (E : wd_E) (n : Nat) (w : Wd) (this : Nat) (p0 : Int32) (r' : Int32) (w' : Wd) (k_this : wd_K w this = 12) (hf : f_X11_carried n w this p0 = some (r', w')) : wd_C l E yX11_carried cX11_carried 2 (some .int) 1 21 [.ref this, .int p0] w (some (.int r')) w' True := by
  refine wd_ofW (own := RX11) (nm := "carried") (ks := [(some this, 12)]) (lv := [(0, .ref this), (1, .int p0)]) (by decide) rfl rfl (Nat.le_of_ble_eq_true rfl) rfl (List.forall_mem_cons.mpr ⟨⟨Nat.succ_ne_zero _, fun q hq => by cases hq; exact k_this⟩, (fun _ hq => absurd hq List.not_mem_nil)⟩) ?_
  intro p e s m args below meth c R H locs cells slots ls C hR hZ hl
  obtain ⟨hx, hb, hr, hml, hts, hown, hlocks, hmn, hK⟩ := id C
  unfold f_X11_carried at hf
  refine lv_aload_n (i := 0) hx hb dX11_carried_0 rfl (lv_at hl 0 rfl) ?_
  refine lv_iload_n (i := 1) hx hb dX11_carried_1 rfl (lv_at hl 1 rfl) ?_
  have hf9 := Option.bind_eq_some_iff.mp hf; clear hf; obtain ⟨w1, hc2, hf⟩ := hf9
  refine z_callV (ci := 11) (As := [.int p0]) (rest := []) (c_X11_needCable l E n w this p0 w1 (hZ.k 0 rfl rfl) hc2) mo_X11_needCable rfl (by decide) rfl tw_531 tw_4 tw_529 hx hb hml hts hown hK ⟨Nat.le_trans (by decide) hR.1, Nat.le_trans (by decide) hR.2⟩ hZ (hZ.k 0 rfl rfl) rfl hl.1 rfl (Nat.le_of_ble_eq_true rfl) rfl dX11_carried_2 ?_; clear hZ; intro H locs cells slots hX hZ
  refine lv_aload_n (i := 0) hx hb dX11_carried_5 rfl (lv_at hl 0 rfl) ?_
  refine z_getR (tk := 9) fd_1101 rfl hx hb hts hown hK hZ (hZ.k 0 rfl rfl) tw_307 dX11_carried_6 ?_; clear hZ; intro hZ
  refine lv_iload_n (i := 1) hx hb dX11_carried_9 rfl (lv_at hl 1 rfl) ?_
  have hf9 := Option.bind_eq_some_iff.mp hf; clear hf; obtain ⟨a3, ha3, hf⟩ := hf9
  replace hZ := hZ.add (r := some a3) (k := 10) (Nat.succ_ne_zero _) (fun q hq => by cases hq; exact hZ.k 0 rfl ha3)
  rw [ha3]
  have hf9 := wd_b2_e hf; clear hf; obtain ⟨r6, w4, hc5, hf⟩ := hf9
  refine z_callV (ci := 9) (As := [.int p0]) (rest := []) (c_X9_carriedOn l E n w1 a3 p0 r6 w4 (hZ.k 0 rfl rfl) hc5) mo_X9_carriedOn rfl (by decide) rfl tw_443 tw_444 tw_442 hx hb hml hts hown hK ⟨Nat.le_trans (by decide) hR.1, Nat.le_trans (by decide) hR.2⟩ hZ (hZ.k 0 rfl rfl) rfl hl.1 rfl (Nat.le_of_ble_eq_true rfl) rfl dX11_carried_10 ?_; clear hZ; intro H locs cells slots hX hZ
  obtain ⟨rfl, rfl⟩ := Prod.mk.inj (Option.some.inj hf)
  exact z_iret hx hb hr hlocks hZ trivial dX11_carried_13

def f_X11_use (n : Nat) (w : Wd) (this : Nat) : Option (UInt64 × Wd) :=
  Option.bind (wd_R w 1101 this) fun a1 =>
  if (wd_I w 902 a1) = 0 then
    some (FP.dconst0, w)
  else
    Option.bind (wd_R w 1101 this) fun a3 =>
    Option.bind (wd_R w 1101 this) fun a4 =>
    wd_gd (¬ (FP.ddiv (FP.i2d (wd_I w 903 a3)) (FP.i2d (wd_I w 902 a4)) &&& 9223372036854775807 ≤ 9218868437227405312)) <|
    some ((FP.ddiv (FP.i2d (wd_I w 903 a3)) (FP.i2d (wd_I w 902 a4))), w)
set_option maxHeartbeats 4000000 in
set_option maxRecDepth 100000 in
theorem c_X11_use (l : Launch) (E : wd_E) (n : Nat) (w : Wd) (this : Nat) (r' : UInt64) (w' : Wd) (k_this : wd_K w this = 12) (hf : f_X11_use n w this = some (r', w')) : wd_C l E yX11_use cX11_use 1 (some .double) 0 0 [.ref this] w (some (.double r')) w' True := by
  refine wd_ofW (own := RX11) (nm := "use") (ks := [(some this, 12)]) (lv := [(0, .ref this)]) (by decide) rfl rfl (Nat.le_of_ble_eq_true rfl) rfl (List.forall_mem_cons.mpr ⟨⟨Nat.succ_ne_zero _, fun q hq => by cases hq; exact k_this⟩, (fun _ hq => absurd hq List.not_mem_nil)⟩) ?_
  intro p e s m args below meth c R H locs cells slots ls C hR hZ hl
  obtain ⟨hx, hb, hr, hml, hts, hown, hlocks, hmn, hK⟩ := id C
  unfold f_X11_use at hf
  refine lv_aload_n (i := 0) hx hb dX11_use_0 rfl (lv_at hl 0 rfl) ?_
  refine z_getR (tk := 9) fd_1101 rfl hx hb hts hown hK hZ (hZ.k 0 rfl rfl) tw_307 dX11_use_1 ?_; clear hZ; intro hZ
  have hf9 := Option.bind_eq_some_iff.mp hf; clear hf; obtain ⟨a1, ha1, hf⟩ := hf9
  replace hZ := hZ.add (r := some a1) (k := 10) (Nat.succ_ne_zero _) (fun q hq => by cases hq; exact hZ.k 0 rfl ha1)
  rw [ha1]
  refine z_getI fd_902 rfl hx hb hts hown hK hZ (hZ.k 0 rfl rfl) tw_247 dX11_use_4 ?_
  refine lv_if_ne (tgt := 12) hx hb dX11_use_7 (by decide) (fun h2 => ?_) (fun h2 => ?_)
  · replace hf := wd_ite_n h2 hf
    refine lv_aload_n (i := 0) hx hb dX11_use_12 rfl (lv_at hl 0 rfl) ?_
    refine z_getR (tk := 9) fd_1101 rfl hx hb hts hown hK hZ (hZ.k 2 rfl rfl) tw_307 dX11_use_13 ?_; clear hZ; intro hZ
    have hf9 := Option.bind_eq_some_iff.mp hf; clear hf; obtain ⟨a3, ha3, hf⟩ := hf9
    replace hZ := hZ.add (r := some a3) (k := 10) (Nat.succ_ne_zero _) (fun q hq => by cases hq; exact hZ.k 0 rfl ha3)
    rw [ha3]
    refine z_getI fd_903 rfl hx hb hts hown hK hZ (hZ.k 0 rfl rfl) tw_250 dX11_use_16 ?_
    refine lv_i2d hx hb dX11_use_19 ?_
    refine lv_aload_n (i := 0) hx hb dX11_use_20 rfl (lv_at hl 0 rfl) ?_
    refine z_getR (tk := 9) fd_1101 rfl hx hb hts hown hK hZ (hZ.k 4 rfl rfl) tw_307 dX11_use_21 ?_; clear hZ; intro hZ
    have hf9 := Option.bind_eq_some_iff.mp hf; clear hf; obtain ⟨a4, ha4, hf⟩ := hf9
    replace hZ := hZ.add (r := some a4) (k := 10) (Nat.succ_ne_zero _) (fun q hq => by cases hq; exact hZ.k 0 rfl ha4)
    rw [ha4]
    refine z_getI fd_902 rfl hx hb hts hown hK hZ (hZ.k 0 rfl rfl) tw_247 dX11_use_24 ?_
    refine lv_i2d hx hb dX11_use_27 ?_
    have hf9 := wd_gd_e hf; clear hf; obtain ⟨h5, hf⟩ := hf9
    refine lv_ddiv hx hb dX11_use_28 (wd_nan h5) ?_
    obtain ⟨rfl, rfl⟩ := Prod.mk.inj (Option.some.inj hf)
    exact z_dret hx hb hr hlocks hZ trivial dX11_use_29
  · replace hf := wd_ite_p h2 hf
    refine lv_dconst0 hx hb dX11_use_10 ?_
    obtain ⟨rfl, rfl⟩ := Prod.mk.inj (Option.some.inj hf)
    exact z_dret hx hb hr hlocks hZ trivial dX11_use_11

def f_X11_whoTells (n : Nat) (w : Wd) (this : Nat) (p0 : Int32) (p1 : Int32) (p2 : Int32) : Option (Int32 × Wd) :=
  wd_b2 (f_X11_hostOf n w this p0) fun r3 w1 =>
  Option.bind (f_X11_needAddress n w1 p1) fun w4 =>
  Option.bind (f_X11_needTtl n w4 p2) fun w6 =>
  Option.bind (wd_R w6 1102 this) fun a8 =>
  Option.bind (f_X10_begin n w6 a8 (wd_R w6 1101 this)) fun w9 =>
  Option.bind (wd_R w9 1102 this) fun a11 =>
  Option.bind (f_X10_ask n w9 a11 p0 p1 (8 : Int32) p2 (0 : Int32)) fun w12 =>
  Option.bind (wd_R w12 1102 this) fun a14 =>
  some ((wd_I w12 1002 a14), w12)
set_option maxHeartbeats 4000000 in
set_option maxRecDepth 100000 in
theorem c_X11_whoTells (l : Launch) (E : wd_E) (n : Nat) (w : Wd) (this : Nat) (p0 : Int32) (p1 : Int32) (p2 : Int32) (r' : Int32) (w' : Wd) (k_this : wd_K w this = 12) (hf : f_X11_whoTells n w this p0 p1 p2 = some (r', w')) : wd_C l E yX11_whoTells cX11_whoTells 4 (some .int) 8 205 [.ref this, .int p0, .int p1, .int p2] w (some (.int r')) w' True := by
  refine wd_ofW (own := RX11) (nm := "whoTells") (ks := [(some this, 12)]) (lv := [(0, .ref this), (1, .int p0), (2, .int p1), (3, .int p2)]) (by decide) rfl rfl (Nat.le_of_ble_eq_true rfl) rfl (List.forall_mem_cons.mpr ⟨⟨Nat.succ_ne_zero _, fun q hq => by cases hq; exact k_this⟩, (fun _ hq => absurd hq List.not_mem_nil)⟩) ?_
  intro p e s m args below meth c R H locs cells slots ls C hR hZ hl
  obtain ⟨hx, hb, hr, hml, hts, hown, hlocks, hmn, hK⟩ := id C
  unfold f_X11_whoTells at hf
  refine lv_aload_n (i := 0) hx hb dX11_whoTells_0 rfl (lv_at hl 0 rfl) ?_
  refine lv_iload_n (i := 1) hx hb dX11_whoTells_1 rfl (lv_at hl 1 rfl) ?_
  have hf9 := wd_b2_e hf; clear hf; obtain ⟨r3, w1, hc2, hf⟩ := hf9
  refine z_callV (ci := 11) (As := [.int p0]) (rest := []) (c_X11_hostOf l E n w this p0 r3 w1 (hZ.k 0 rfl rfl) hc2) mo_X11_hostOf rfl (by decide) rfl tw_448 tw_2 tw_446 hx hb hml hts hown hK ⟨Nat.le_trans (by decide) hR.1, Nat.le_trans (by decide) hR.2⟩ hZ (hZ.k 0 rfl rfl) rfl hl.1 rfl (Nat.le_of_ble_eq_true rfl) rfl dX11_whoTells_2 ?_; clear hZ; intro H locs cells slots hX hZ
  replace hZ := hZ.add (Nat.succ_ne_zero _) hX
  refine lv_pop hx hb dX11_whoTells_5 (va_rf_cat _) ?_
  refine lv_iload_n (i := 2) hx hb dX11_whoTells_6 rfl (lv_at hl 2 rfl) ?_
  have hf9 := Option.bind_eq_some_iff.mp hf; clear hf; obtain ⟨w4, hc5, hf⟩ := hf9
  refine z_callS (As := [.int p1]) (rest := []) (c_X11_needAddress l E n w1 p1 w4  hc5) mo_X11_needAddress tw_535 tw_534 hx hb hml hts hown hK ⟨Nat.le_trans (by decide) hR.1, Nat.le_trans (by decide) hR.2⟩ hZ rfl hl.1 rfl (Nat.le_of_ble_eq_true rfl) rfl dX11_whoTells_7 ?_; clear hZ; intro H locs cells slots hX hZ
  refine lv_iload_n (i := 3) hx hb dX11_whoTells_10 rfl (lv_at hl 3 rfl) ?_
  have hf9 := Option.bind_eq_some_iff.mp hf; clear hf; obtain ⟨w6, hc7, hf⟩ := hf9
  refine z_callS (As := [.int p2]) (rest := []) (c_X11_needTtl l E n w4 p2 w6  hc7) mo_X11_needTtl tw_638 tw_637 hx hb hml hts hown hK ⟨Nat.le_trans (by decide) hR.1, Nat.le_trans (by decide) hR.2⟩ hZ rfl hl.1 rfl (Nat.le_of_ble_eq_true rfl) rfl dX11_whoTells_11 ?_; clear hZ; intro H locs cells slots hX hZ
  refine lv_aload_n (i := 0) hx hb dX11_whoTells_14 rfl (lv_at hl 0 rfl) ?_
  refine z_getR (tk := 10) fd_1102 rfl hx hb hts hown hK hZ (hZ.k 1 rfl rfl) tw_308 dX11_whoTells_15 ?_; clear hZ; intro hZ
  refine lv_aload_n (i := 0) hx hb dX11_whoTells_18 rfl (lv_at hl 0 rfl) ?_
  refine z_getR (tk := 9) fd_1101 rfl hx hb hts hown hK hZ (hZ.k 2 rfl rfl) tw_307 dX11_whoTells_19 ?_; clear hZ; intro hZ
  have hf9 := Option.bind_eq_some_iff.mp hf; clear hf; obtain ⟨a8, ha8, hf⟩ := hf9
  replace hZ := hZ.add (r := some a8) (k := 11) (Nat.succ_ne_zero _) (fun q hq => by cases hq; exact hZ.k 1 rfl ha8)
  rw [ha8]
  have hf9 := Option.bind_eq_some_iff.mp hf; clear hf; obtain ⟨w9, hc10, hf⟩ := hf9
  refine z_callV (ci := 10) (As := [va_rf (wd_R w6 1101 this)]) (rest := []) (c_X10_begin l E n w6 a8 (wd_R w6 1101 this) w9 (hZ.k 0 rfl rfl) (fun q hq => hZ.k 1 rfl hq) hc10) mo_X10_begin rfl (by decide) rfl tw_1045 tw_1046 tw_1044 hx hb hml hts hown hK ⟨Nat.le_trans (by decide) hR.1, Nat.le_trans (by decide) hR.2⟩ hZ (hZ.k 0 rfl rfl) rfl hl.1 rfl (Nat.le_of_ble_eq_true rfl) rfl dX11_whoTells_22 ?_; clear hZ; intro H locs cells slots hX hZ
  refine lv_aload_n (i := 0) hx hb dX11_whoTells_25 rfl (lv_at hl 0 rfl) ?_
  refine z_getR (tk := 10) fd_1102 rfl hx hb hts hown hK hZ (hZ.k 4 rfl rfl) tw_308 dX11_whoTells_26 ?_; clear hZ; intro hZ
  refine lv_iload_n (i := 1) hx hb dX11_whoTells_29 rfl (lv_at hl 1 rfl) ?_
  refine lv_iload_n (i := 2) hx hb dX11_whoTells_30 rfl (lv_at hl 2 rfl) ?_
  refine lv_bipush (v := 8) hx hb dX11_whoTells_31 (by decide) ?_
  refine lv_iload_n (i := 3) hx hb dX11_whoTells_33 rfl (lv_at hl 3 rfl) ?_
  refine lv_iconst (v := 0) hx hb dX11_whoTells_34 (by decide) ?_
  have hf9 := Option.bind_eq_some_iff.mp hf; clear hf; obtain ⟨a11, ha11, hf⟩ := hf9
  replace hZ := hZ.add (r := some a11) (k := 11) (Nat.succ_ne_zero _) (fun q hq => by cases hq; exact hZ.k 0 rfl ha11)
  rw [ha11]
  have hf9 := Option.bind_eq_some_iff.mp hf; clear hf; obtain ⟨w12, hc13, hf⟩ := hf9
  refine z_callV (ci := 10) (As := [.int p0, .int p1, .int (8 : Int32), .int p2, .int (0 : Int32)]) (rest := []) (c_X10_ask l E n w9 a11 p0 p1 (8 : Int32) p2 (0 : Int32) w12 (hZ.k 0 rfl rfl) hc13) mo_X10_ask rfl (by decide) rfl tw_1060 tw_1061 tw_1059 hx hb hml hts hown hK ⟨Nat.le_trans (by decide) hR.1, Nat.le_trans (by decide) hR.2⟩ hZ (hZ.k 0 rfl rfl) rfl hl.1 rfl (Nat.le_of_ble_eq_true rfl) rfl dX11_whoTells_35 ?_; clear hZ; intro H locs cells slots hX hZ
  refine lv_aload_n (i := 0) hx hb dX11_whoTells_38 rfl (lv_at hl 0 rfl) ?_
  refine z_getR (tk := 10) fd_1102 rfl hx hb hts hown hK hZ (hZ.k 6 rfl rfl) tw_308 dX11_whoTells_39 ?_; clear hZ; intro hZ
  have hf9 := Option.bind_eq_some_iff.mp hf; clear hf; obtain ⟨a14, ha14, hf⟩ := hf9
  replace hZ := hZ.add (r := some a14) (k := 11) (Nat.succ_ne_zero _) (fun q hq => by cases hq; exact hZ.k 0 rfl ha14)
  rw [ha14]
  refine z_getI fd_1002 rfl hx hb hts hown hK hZ (hZ.k 0 rfl rfl) tw_285 dX11_whoTells_42 ?_
  obtain ⟨rfl, rfl⟩ := Prod.mk.inj (Option.some.inj hf)
  exact z_iret hx hb hr hlocks hZ trivial dX11_whoTells_45

def f_X11_hops_l12 (n : Nat) (rec12 : Nat → Int32 → Int32 → Int32 → Wd → Option (Int32 × Wd)) (x0 : Nat) (x1 : Int32) (x2 : Int32) (x3 : Int32) (w : Wd) : Option (Int32 × Wd) :=
  if (12 : Int32) < x3 then
    some ((-1 : Int32), w)
  else
    Option.bind (wd_R w 1102 x0) fun a7 =>
    Option.bind (f_X10_begin n w a7 (wd_R w 1101 x0)) fun w8 =>
    Option.bind (wd_R w8 1102 x0) fun a10 =>
    Option.bind (f_X10_ask n w8 a10 x1 x2 (8 : Int32) x3 (0 : Int32)) fun w11 =>
    Option.bind (wd_R w11 1102 x0) fun a13 =>
    if (wd_I w11 1000 a13) = 0 then
      wd_let (x3 + 1) fun v15 =>
      rec12 x0 x1 x2 v15 w11
    else
      some (x3, w11)
def f_X11_hops (n : Nat) (w : Wd) (this : Nat) (p0 : Int32) (p1 : Int32) : Option (Int32 × Wd) :=
  wd_b2 (f_X11_hostOf n w this p0) fun r3 w1 =>
  Option.bind (f_X11_needAddress n w1 p1) fun w4 =>
  wd_lp5 (f_X11_hops_l12 n) n this p0 p1 (1 : Int32) w4
set_option maxHeartbeats 4000000 in
set_option maxRecDepth 100000 in
theorem v_X11_hops_b12 {p : Program} {l : Launch} {e : Env} {R : Room} {s : State} {m : MethodId} {args : Array Value} {below : List Frame} {meth : Method} {c : Code} {E : wd_E} {w0 : Wd} {r' : Int32} {w' : Wd} (n : Nat) (C : wd_X p s m args meth c cX11_hops RX11 4 (some .int) "hops" E) (hR : 8 ≤ R.frames ∧ 205 ≤ R.locals) (rec12 : Nat → Int32 → Int32 → Int32 → Wd → Option (Int32 × Wd)) (hrec12 : ∀ (x0_ : Nat) (x1_ : Int32) (x2_ : Int32) (x3_ : Int32) (w_ : Wd) (H : Heap) (locs : List Loc) (cells slots : Nat) (ls : Array Slot), wd_Z E w0 R s w_ H locs cells slots [(some x0_, 12)] → lv_has ls 4 [(0, .ref x0_), (1, .int x1_), (2, .int x2_), (3, .int x3_)] → rec12 x0_ x1_ x2_ x3_ w_ = some (r', w') → W p l e R s m args below meth c H locs cells slots (wd_fin E w0 (some (.int r')) w' True R args s below) (F0 m 12 ls [])) (x0 : Nat) (x1 : Int32) (x2 : Int32) (x3 : Int32) (w : Wd) (H : Heap) (locs : List Loc) (cells slots : Nat) (ls : Array Slot) (hZ : wd_Z E w0 R s w H locs cells slots [(some x0, 12)]) (hl : lv_has ls 4 [(0, .ref x0), (1, .int x1), (2, .int x2), (3, .int x3)]) (hf : f_X11_hops_l12 n rec12 x0 x1 x2 x3 w = some (r', w')) : W p l e R s m args below meth c H locs cells slots (wd_fin E w0 (some (.int r')) w' True R args s below) (F0 m 12 ls []) := by
  obtain ⟨hx, hb, hr, hml, hts, hown, hlocks, hmn, hK⟩ := id C
  unfold f_X11_hops_l12 at hf
  refine lv_iload_n (i := 3) hx hb dX11_hops_12 rfl (lv_at hl 3 rfl) ?_
  refine lv_bipush (v := 12) hx hb dX11_hops_13 (by decide) ?_
  refine lv_icmp_gt (tgt := 60) hx hb dX11_hops_15 (by decide) (fun h6 => ?_) (fun h6 => ?_)
  · replace hf := wd_ite_p h6 hf
    refine lv_iconst (v := -1) hx hb dX11_hops_60 (by decide) ?_
    obtain ⟨rfl, rfl⟩ := Prod.mk.inj (Option.some.inj hf)
    exact z_iret hx hb hr hlocks hZ trivial dX11_hops_61
  · replace hf := wd_ite_n h6 hf
    refine lv_aload_n (i := 0) hx hb dX11_hops_18 rfl (lv_at hl 0 rfl) ?_
    refine z_getR (tk := 10) fd_1102 rfl hx hb hts hown hK hZ (hZ.k 0 rfl rfl) tw_308 dX11_hops_19 ?_; clear hZ; intro hZ
    refine lv_aload_n (i := 0) hx hb dX11_hops_22 rfl (lv_at hl 0 rfl) ?_
    refine z_getR (tk := 9) fd_1101 rfl hx hb hts hown hK hZ (hZ.k 1 rfl rfl) tw_307 dX11_hops_23 ?_; clear hZ; intro hZ
    have hf9 := Option.bind_eq_some_iff.mp hf; clear hf; obtain ⟨a7, ha7, hf⟩ := hf9
    replace hZ := hZ.add (r := some a7) (k := 11) (Nat.succ_ne_zero _) (fun q hq => by cases hq; exact hZ.k 1 rfl ha7)
    rw [ha7]
    have hf9 := Option.bind_eq_some_iff.mp hf; clear hf; obtain ⟨w8, hc9, hf⟩ := hf9
    refine z_callV (ci := 10) (As := [va_rf (wd_R w 1101 x0)]) (rest := []) (c_X10_begin l E n w a7 (wd_R w 1101 x0) w8 (hZ.k 0 rfl rfl) (fun q hq => hZ.k 1 rfl hq) hc9) mo_X10_begin rfl (by decide) rfl tw_1045 tw_1046 tw_1044 hx hb hml hts hown hK ⟨Nat.le_trans (by decide) hR.1, Nat.le_trans (by decide) hR.2⟩ hZ (hZ.k 0 rfl rfl) rfl hl.1 rfl (Nat.le_of_ble_eq_true rfl) rfl dX11_hops_26 ?_; clear hZ; intro H locs cells slots hX hZ
    refine lv_aload_n (i := 0) hx hb dX11_hops_29 rfl (lv_at hl 0 rfl) ?_
    refine z_getR (tk := 10) fd_1102 rfl hx hb hts hown hK hZ (hZ.k 3 rfl rfl) tw_308 dX11_hops_30 ?_; clear hZ; intro hZ
    refine lv_iload_n (i := 1) hx hb dX11_hops_33 rfl (lv_at hl 1 rfl) ?_
    refine lv_iload_n (i := 2) hx hb dX11_hops_34 rfl (lv_at hl 2 rfl) ?_
    refine lv_bipush (v := 8) hx hb dX11_hops_35 (by decide) ?_
    refine lv_iload_n (i := 3) hx hb dX11_hops_37 rfl (lv_at hl 3 rfl) ?_
    refine lv_iconst (v := 0) hx hb dX11_hops_38 (by decide) ?_
    have hf9 := Option.bind_eq_some_iff.mp hf; clear hf; obtain ⟨a10, ha10, hf⟩ := hf9
    replace hZ := hZ.add (r := some a10) (k := 11) (Nat.succ_ne_zero _) (fun q hq => by cases hq; exact hZ.k 0 rfl ha10)
    rw [ha10]
    have hf9 := Option.bind_eq_some_iff.mp hf; clear hf; obtain ⟨w11, hc12, hf⟩ := hf9
    refine z_callV (ci := 10) (As := [.int x1, .int x2, .int (8 : Int32), .int x3, .int (0 : Int32)]) (rest := []) (c_X10_ask l E n w8 a10 x1 x2 (8 : Int32) x3 (0 : Int32) w11 (hZ.k 0 rfl rfl) hc12) mo_X10_ask rfl (by decide) rfl tw_1060 tw_1061 tw_1059 hx hb hml hts hown hK ⟨Nat.le_trans (by decide) hR.1, Nat.le_trans (by decide) hR.2⟩ hZ (hZ.k 0 rfl rfl) rfl hl.1 rfl (Nat.le_of_ble_eq_true rfl) rfl dX11_hops_39 ?_; clear hZ; intro H locs cells slots hX hZ
    refine lv_aload_n (i := 0) hx hb dX11_hops_42 rfl (lv_at hl 0 rfl) ?_
    refine z_getR (tk := 10) fd_1102 rfl hx hb hts hown hK hZ (hZ.k 5 rfl rfl) tw_308 dX11_hops_43 ?_; clear hZ; intro hZ
    have hf9 := Option.bind_eq_some_iff.mp hf; clear hf; obtain ⟨a13, ha13, hf⟩ := hf9
    replace hZ := hZ.add (r := some a13) (k := 11) (Nat.succ_ne_zero _) (fun q hq => by cases hq; exact hZ.k 0 rfl ha13)
    rw [ha13]
    refine z_getI fd_1000 rfl hx hb hts hown hK hZ (hZ.k 0 rfl rfl) tw_281 dX11_hops_46 ?_
    refine lv_if_eq (tgt := 54) hx hb dX11_hops_49 (by decide) (fun h14 => ?_) (fun h14 => ?_)
    · replace hf := wd_ite_p h14 hf
      have hf9 := wd_let_e hf; clear hf; obtain ⟨v15, e16, hf⟩ := hf9
      refine lv_iinc (k := 3) (v := v15) (lv' := [(3, .int v15), (0, .ref x0), (1, .int x1), (2, .int x2)]) hx hb dX11_hops_54 hl rfl (by rw [← e16]; rfl) (by decide) rfl ?_; clear hl; intro ls hl
      refine lv_goto (tgt := 12) hx hb dX11_hops_57 (by decide) ?_
      exact hrec12 x0 x1 x2 v15 w11 _ _ _ _ _ ⟨hZ.1, hZ.2.1, hZ.2.2.1, hZ.2.2.2.1, (List.forall_mem_cons.mpr ⟨⟨Nat.succ_ne_zero _, (fun q hq => by cases hq; exact (hZ.k 7 rfl rfl))⟩, (fun _ hq => absurd hq List.not_mem_nil)⟩), hZ.2.2.2.2.2⟩ (lv_sub hl [1, 2, 3, 0] rfl) hf
    · replace hf := wd_ite_n h14 hf
      refine lv_iload_n (i := 3) hx hb dX11_hops_52 rfl (lv_at hl 3 rfl) ?_
      obtain ⟨rfl, rfl⟩ := Prod.mk.inj (Option.some.inj hf)
      exact z_iret hx hb hr hlocks hZ trivial dX11_hops_53

theorem v_X11_hops_l12 {p : Program} {l : Launch} {e : Env} {R : Room} {s : State} {m : MethodId} {args : Array Value} {below : List Frame} {meth : Method} {c : Code} {E : wd_E} {w0 : Wd} {r' : Int32} {w' : Wd} (n : Nat) (C : wd_X p s m args meth c cX11_hops RX11 4 (some .int) "hops" E) (hR : 8 ≤ R.frames ∧ 205 ≤ R.locals) : ∀ (k : Nat) (x0 : Nat) (x1 : Int32) (x2 : Int32) (x3 : Int32) (w : Wd) (H : Heap) (locs : List Loc) (cells slots : Nat) (ls : Array Slot), wd_Z E w0 R s w H locs cells slots [(some x0, 12)] → lv_has ls 4 [(0, .ref x0), (1, .int x1), (2, .int x2), (3, .int x3)] → wd_lp5 (f_X11_hops_l12 n) k x0 x1 x2 x3 w = some (r', w') → W p l e R s m args below meth c H locs cells slots (wd_fin E w0 (some (.int r')) w' True R args s below) (F0 m 12 ls []) := by
  intro k
  induction k with
  | zero => intro _ _ _ _ _ _ _ _ _ _ _ _ hf; cases hf
  | succ k ih =>
    intro x0 x1 x2 x3 w H locs cells slots ls hZ hl hf
    exact v_X11_hops_b12 n C hR (wd_lp5 (f_X11_hops_l12 n) k) ih x0 x1 x2 x3 w H locs cells slots ls hZ hl hf

set_option maxHeartbeats 4000000 in
set_option maxRecDepth 100000 in
theorem c_X11_hops (l : Launch) (E : wd_E) (n : Nat) (w : Wd) (this : Nat) (p0 : Int32) (p1 : Int32) (r' : Int32) (w' : Wd) (k_this : wd_K w this = 12) (hf : f_X11_hops n w this p0 p1 = some (r', w')) : wd_C l E yX11_hops cX11_hops 4 (some .int) 8 205 [.ref this, .int p0, .int p1] w (some (.int r')) w' True := by
  refine wd_ofW (own := RX11) (nm := "hops") (ks := [(some this, 12)]) (lv := [(0, .ref this), (1, .int p0), (2, .int p1)]) (by decide) rfl rfl (Nat.le_of_ble_eq_true rfl) rfl (List.forall_mem_cons.mpr ⟨⟨Nat.succ_ne_zero _, fun q hq => by cases hq; exact k_this⟩, (fun _ hq => absurd hq List.not_mem_nil)⟩) ?_
  intro p e s m args below meth c R H locs cells slots ls C hR hZ hl
  obtain ⟨hx, hb, hr, hml, hts, hown, hlocks, hmn, hK⟩ := id C
  unfold f_X11_hops at hf
  refine lv_aload_n (i := 0) hx hb dX11_hops_0 rfl (lv_at hl 0 rfl) ?_
  refine lv_iload_n (i := 1) hx hb dX11_hops_1 rfl (lv_at hl 1 rfl) ?_
  have hf9 := wd_b2_e hf; clear hf; obtain ⟨r3, w1, hc2, hf⟩ := hf9
  refine z_callV (ci := 11) (As := [.int p0]) (rest := []) (c_X11_hostOf l E n w this p0 r3 w1 (hZ.k 0 rfl rfl) hc2) mo_X11_hostOf rfl (by decide) rfl tw_448 tw_2 tw_446 hx hb hml hts hown hK ⟨Nat.le_trans (by decide) hR.1, Nat.le_trans (by decide) hR.2⟩ hZ (hZ.k 0 rfl rfl) rfl hl.1 rfl (Nat.le_of_ble_eq_true rfl) rfl dX11_hops_2 ?_; clear hZ; intro H locs cells slots hX hZ
  replace hZ := hZ.add (Nat.succ_ne_zero _) hX
  refine lv_pop hx hb dX11_hops_5 (va_rf_cat _) ?_
  refine lv_iload_n (i := 2) hx hb dX11_hops_6 rfl (lv_at hl 2 rfl) ?_
  have hf9 := Option.bind_eq_some_iff.mp hf; clear hf; obtain ⟨w4, hc5, hf⟩ := hf9
  refine z_callS (As := [.int p1]) (rest := []) (c_X11_needAddress l E n w1 p1 w4  hc5) mo_X11_needAddress tw_535 tw_534 hx hb hml hts hown hK ⟨Nat.le_trans (by decide) hR.1, Nat.le_trans (by decide) hR.2⟩ hZ rfl hl.1 rfl (Nat.le_of_ble_eq_true rfl) rfl dX11_hops_7 ?_; clear hZ; intro H locs cells slots hX hZ
  refine lv_iconst (v := 1) hx hb dX11_hops_10 (by decide) ?_
  refine lv_istore_n (i := 3) (lv' := [(3, .int (1 : Int32)), (0, .ref this), (1, .int p0), (2, .int p1)]) hx hb dX11_hops_11 rfl hl (by decide) rfl ?_; clear hl; intro ls hl
  exact v_X11_hops_l12 n C hR n this p0 p1 (1 : Int32) w4 _ _ _ _ _ ⟨hZ.1, hZ.2.1, hZ.2.2.1, hZ.2.2.2.1, (List.forall_mem_cons.mpr ⟨⟨Nat.succ_ne_zero _, (fun q hq => by cases hq; exact (hZ.k 1 rfl rfl))⟩, (fun _ hq => absurd hq List.not_mem_nil)⟩), hZ.2.2.2.2.2⟩ (lv_sub hl [1, 2, 3, 0] rfl) hf

def f_X11_widest_l28 (n : Nat) (rec28 : Nat → Int32 → Int32 → Int32 → Int32 → Wd → Option (Int32 × Wd)) (x0 : Nat) (x1 : Int32) (x2 : Int32) (x3 : Int32) (x4 : Int32) (w : Wd) : Option (Int32 × Wd) :=
  if (6 : Int32) ≤ x4 then
    some ((-1 : Int32), w)
  else
    Option.bind (wd_R w 1102 x0) fun a10 =>
    Option.bind (f_X10_ask n w a10 x1 x2 x3 (32 : Int32) (1 : Int32)) fun w11 =>
    Option.bind (wd_R w11 1102 x0) fun a13 =>
    if (wd_I w11 1001 a13) = (2 : Int32) then
      some (x3, w11)
    else
      Option.bind (wd_R w11 1102 x0) fun a15 =>
      if (wd_I w11 1001 a15) = (5 : Int32) then
        Option.bind (wd_R w11 1102 x0) fun a17 =>
        wd_let ((wd_I w11 1003 a17) - (4 : Int32)) fun v18 =>
        wd_let (x4 + 1) fun v20 =>
        rec28 x0 x1 x2 v18 v20 w11
      else
        some ((-1 : Int32), w11)
def f_X11_widest (n : Nat) (w : Wd) (this : Nat) (p0 : Int32) (p1 : Int32) : Option (Int32 × Wd) :=
  wd_b2 (f_X11_hostOf n w this p0) fun r3 w1 =>
  Option.bind (f_X11_needAddress n w1 p1) fun w4 =>
  Option.bind (wd_R w4 1102 this) fun a6 =>
  Option.bind (f_X10_begin n w4 a6 (wd_R w4 1101 this)) fun w7 =>
  wd_lp6 (f_X11_widest_l28 n) n this p0 p1 (196 : Int32) (0 : Int32) w7
set_option maxHeartbeats 4000000 in
set_option maxRecDepth 100000 in
theorem v_X11_widest_b28 {p : Program} {l : Launch} {e : Env} {R : Room} {s : State} {m : MethodId} {args : Array Value} {below : List Frame} {meth : Method} {c : Code} {E : wd_E} {w0 : Wd} {r' : Int32} {w' : Wd} (n : Nat) (C : wd_X p s m args meth c cX11_widest RX11 5 (some .int) "widest" E) (hR : 8 ≤ R.frames ∧ 205 ≤ R.locals) (rec28 : Nat → Int32 → Int32 → Int32 → Int32 → Wd → Option (Int32 × Wd)) (hrec28 : ∀ (x0_ : Nat) (x1_ : Int32) (x2_ : Int32) (x3_ : Int32) (x4_ : Int32) (w_ : Wd) (H : Heap) (locs : List Loc) (cells slots : Nat) (ls : Array Slot), wd_Z E w0 R s w_ H locs cells slots [(some x0_, 12)] → lv_has ls 5 [(0, .ref x0_), (1, .int x1_), (2, .int x2_), (3, .int x3_), (4, .int x4_)] → rec28 x0_ x1_ x2_ x3_ x4_ w_ = some (r', w') → W p l e R s m args below meth c H locs cells slots (wd_fin E w0 (some (.int r')) w' True R args s below) (F0 m 28 ls [])) (x0 : Nat) (x1 : Int32) (x2 : Int32) (x3 : Int32) (x4 : Int32) (w : Wd) (H : Heap) (locs : List Loc) (cells slots : Nat) (ls : Array Slot) (hZ : wd_Z E w0 R s w H locs cells slots [(some x0, 12)]) (hl : lv_has ls 5 [(0, .ref x0), (1, .int x1), (2, .int x2), (3, .int x3), (4, .int x4)]) (hf : f_X11_widest_l28 n rec28 x0 x1 x2 x3 x4 w = some (r', w')) : W p l e R s m args below meth c H locs cells slots (wd_fin E w0 (some (.int r')) w' True R args s below) (F0 m 28 ls []) := by
  obtain ⟨hx, hb, hr, hml, hts, hown, hlocks, hmn, hK⟩ := id C
  unfold f_X11_widest_l28 at hf
  refine lv_iload hx hb dX11_widest_28 (lv_at hl 4 rfl) ?_
  refine lv_bipush (v := 6) hx hb dX11_widest_30 (by decide) ?_
  refine lv_icmp_ge (tgt := 90) hx hb dX11_widest_32 (by decide) (fun h9 => ?_) (fun h9 => ?_)
  · replace hf := wd_ite_p h9 hf
    refine lv_iconst (v := -1) hx hb dX11_widest_90 (by decide) ?_
    obtain ⟨rfl, rfl⟩ := Prod.mk.inj (Option.some.inj hf)
    exact z_iret hx hb hr hlocks hZ trivial dX11_widest_91
  · replace hf := wd_ite_n h9 hf
    refine lv_aload_n (i := 0) hx hb dX11_widest_35 rfl (lv_at hl 0 rfl) ?_
    refine z_getR (tk := 10) fd_1102 rfl hx hb hts hown hK hZ (hZ.k 0 rfl rfl) tw_308 dX11_widest_36 ?_; clear hZ; intro hZ
    refine lv_iload_n (i := 1) hx hb dX11_widest_39 rfl (lv_at hl 1 rfl) ?_
    refine lv_iload_n (i := 2) hx hb dX11_widest_40 rfl (lv_at hl 2 rfl) ?_
    refine lv_iload_n (i := 3) hx hb dX11_widest_41 rfl (lv_at hl 3 rfl) ?_
    refine lv_bipush (v := 32) hx hb dX11_widest_42 (by decide) ?_
    refine lv_iconst (v := 1) hx hb dX11_widest_44 (by decide) ?_
    have hf9 := Option.bind_eq_some_iff.mp hf; clear hf; obtain ⟨a10, ha10, hf⟩ := hf9
    replace hZ := hZ.add (r := some a10) (k := 11) (Nat.succ_ne_zero _) (fun q hq => by cases hq; exact hZ.k 0 rfl ha10)
    rw [ha10]
    have hf9 := Option.bind_eq_some_iff.mp hf; clear hf; obtain ⟨w11, hc12, hf⟩ := hf9
    refine z_callV (ci := 10) (As := [.int x1, .int x2, .int x3, .int (32 : Int32), .int (1 : Int32)]) (rest := []) (c_X10_ask l E n w a10 x1 x2 x3 (32 : Int32) (1 : Int32) w11 (hZ.k 0 rfl rfl) hc12) mo_X10_ask rfl (by decide) rfl tw_1060 tw_1061 tw_1059 hx hb hml hts hown hK ⟨Nat.le_trans (by decide) hR.1, Nat.le_trans (by decide) hR.2⟩ hZ (hZ.k 0 rfl rfl) rfl hl.1 rfl (Nat.le_of_ble_eq_true rfl) rfl dX11_widest_45 ?_; clear hZ; intro H locs cells slots hX hZ
    refine lv_aload_n (i := 0) hx hb dX11_widest_48 rfl (lv_at hl 0 rfl) ?_
    refine z_getR (tk := 10) fd_1102 rfl hx hb hts hown hK hZ (hZ.k 2 rfl rfl) tw_308 dX11_widest_49 ?_; clear hZ; intro hZ
    have hf9 := Option.bind_eq_some_iff.mp hf; clear hf; obtain ⟨a13, ha13, hf⟩ := hf9
    replace hZ := hZ.add (r := some a13) (k := 11) (Nat.succ_ne_zero _) (fun q hq => by cases hq; exact hZ.k 0 rfl ha13)
    rw [ha13]
    refine z_getI fd_1001 rfl hx hb hts hown hK hZ (hZ.k 0 rfl rfl) tw_283 dX11_widest_52 ?_
    refine lv_iconst (v := 2) hx hb dX11_widest_55 (by decide) ?_
    refine lv_icmp_ne (tgt := 61) hx hb dX11_widest_56 (by decide) (fun h14 => ?_) (fun h14 => ?_)
    · replace hf := wd_ite_n h14 hf
      refine lv_aload_n (i := 0) hx hb dX11_widest_61 rfl (lv_at hl 0 rfl) ?_
      refine z_getR (tk := 10) fd_1102 rfl hx hb hts hown hK hZ (hZ.k 4 rfl rfl) tw_308 dX11_widest_62 ?_; clear hZ; intro hZ
      have hf9 := Option.bind_eq_some_iff.mp hf; clear hf; obtain ⟨a15, ha15, hf⟩ := hf9
      replace hZ := hZ.add (r := some a15) (k := 11) (Nat.succ_ne_zero _) (fun q hq => by cases hq; exact hZ.k 0 rfl ha15)
      rw [ha15]
      refine z_getI fd_1001 rfl hx hb hts hown hK hZ (hZ.k 0 rfl rfl) tw_283 dX11_widest_65 ?_
      refine lv_iconst (v := 5) hx hb dX11_widest_68 (by decide) ?_
      refine lv_icmp_eq (tgt := 74) hx hb dX11_widest_69 (by decide) (fun h16 => ?_) (fun h16 => ?_)
      · replace hf := wd_ite_p h16 hf
        refine lv_aload_n (i := 0) hx hb dX11_widest_74 rfl (lv_at hl 0 rfl) ?_
        refine z_getR (tk := 10) fd_1102 rfl hx hb hts hown hK hZ (hZ.k 6 rfl rfl) tw_308 dX11_widest_75 ?_; clear hZ; intro hZ
        have hf9 := Option.bind_eq_some_iff.mp hf; clear hf; obtain ⟨a17, ha17, hf⟩ := hf9
        replace hZ := hZ.add (r := some a17) (k := 11) (Nat.succ_ne_zero _) (fun q hq => by cases hq; exact hZ.k 0 rfl ha17)
        rw [ha17]
        refine z_getI fd_1003 rfl hx hb hts hown hK hZ (hZ.k 0 rfl rfl) tw_287 dX11_widest_78 ?_
        refine lv_iconst (v := 4) hx hb dX11_widest_81 (by decide) ?_
        refine lv_isub hx hb dX11_widest_82 ?_
        have hf9 := wd_let_e hf; clear hf; obtain ⟨v18, e19, hf⟩ := hf9
        rw [e19]
        refine lv_istore_n (i := 3) (lv' := [(3, .int v18), (0, .ref x0), (1, .int x1), (2, .int x2), (4, .int x4)]) hx hb dX11_widest_83 rfl hl (by decide) rfl ?_; clear hl; intro ls hl
        have hf9 := wd_let_e hf; clear hf; obtain ⟨v20, e21, hf⟩ := hf9
        refine lv_iinc (k := 4) (v := v20) (lv' := [(4, .int v20), (3, .int v18), (0, .ref x0), (1, .int x1), (2, .int x2)]) hx hb dX11_widest_84 hl rfl (by rw [← e21]; rfl) (by decide) rfl ?_; clear hl; intro ls hl
        refine lv_goto (tgt := 28) hx hb dX11_widest_87 (by decide) ?_
        exact hrec28 x0 x1 x2 v18 v20 w11 _ _ _ _ _ ⟨hZ.1, hZ.2.1, hZ.2.2.1, hZ.2.2.2.1, (List.forall_mem_cons.mpr ⟨⟨Nat.succ_ne_zero _, (fun q hq => by cases hq; exact (hZ.k 8 rfl rfl))⟩, (fun _ hq => absurd hq List.not_mem_nil)⟩), hZ.2.2.2.2.2⟩ (lv_sub hl [2, 3, 4, 1, 0] rfl) hf
      · replace hf := wd_ite_n h16 hf
        refine lv_iconst (v := -1) hx hb dX11_widest_72 (by decide) ?_
        obtain ⟨rfl, rfl⟩ := Prod.mk.inj (Option.some.inj hf)
        exact z_iret hx hb hr hlocks hZ trivial dX11_widest_73
    · replace hf := wd_ite_p h14 hf
      refine lv_iload_n (i := 3) hx hb dX11_widest_59 rfl (lv_at hl 3 rfl) ?_
      obtain ⟨rfl, rfl⟩ := Prod.mk.inj (Option.some.inj hf)
      exact z_iret hx hb hr hlocks hZ trivial dX11_widest_60

theorem v_X11_widest_l28 {p : Program} {l : Launch} {e : Env} {R : Room} {s : State} {m : MethodId} {args : Array Value} {below : List Frame} {meth : Method} {c : Code} {E : wd_E} {w0 : Wd} {r' : Int32} {w' : Wd} (n : Nat) (C : wd_X p s m args meth c cX11_widest RX11 5 (some .int) "widest" E) (hR : 8 ≤ R.frames ∧ 205 ≤ R.locals) : ∀ (k : Nat) (x0 : Nat) (x1 : Int32) (x2 : Int32) (x3 : Int32) (x4 : Int32) (w : Wd) (H : Heap) (locs : List Loc) (cells slots : Nat) (ls : Array Slot), wd_Z E w0 R s w H locs cells slots [(some x0, 12)] → lv_has ls 5 [(0, .ref x0), (1, .int x1), (2, .int x2), (3, .int x3), (4, .int x4)] → wd_lp6 (f_X11_widest_l28 n) k x0 x1 x2 x3 x4 w = some (r', w') → W p l e R s m args below meth c H locs cells slots (wd_fin E w0 (some (.int r')) w' True R args s below) (F0 m 28 ls []) := by
  intro k
  induction k with
  | zero => intro _ _ _ _ _ _ _ _ _ _ _ _ _ hf; cases hf
  | succ k ih =>
    intro x0 x1 x2 x3 x4 w H locs cells slots ls hZ hl hf
    exact v_X11_widest_b28 n C hR (wd_lp6 (f_X11_widest_l28 n) k) ih x0 x1 x2 x3 x4 w H locs cells slots ls hZ hl hf

set_option maxHeartbeats 4000000 in
set_option maxRecDepth 100000 in
theorem c_X11_widest (l : Launch) (E : wd_E) (n : Nat) (w : Wd) (this : Nat) (p0 : Int32) (p1 : Int32) (r' : Int32) (w' : Wd) (k_this : wd_K w this = 12) (hf : f_X11_widest n w this p0 p1 = some (r', w')) : wd_C l E yX11_widest cX11_widest 5 (some .int) 8 205 [.ref this, .int p0, .int p1] w (some (.int r')) w' True := by
  refine wd_ofW (own := RX11) (nm := "widest") (ks := [(some this, 12)]) (lv := [(0, .ref this), (1, .int p0), (2, .int p1)]) (by decide) rfl rfl (Nat.le_of_ble_eq_true rfl) rfl (List.forall_mem_cons.mpr ⟨⟨Nat.succ_ne_zero _, fun q hq => by cases hq; exact k_this⟩, (fun _ hq => absurd hq List.not_mem_nil)⟩) ?_
  intro p e s m args below meth c R H locs cells slots ls C hR hZ hl
  obtain ⟨hx, hb, hr, hml, hts, hown, hlocks, hmn, hK⟩ := id C
  unfold f_X11_widest at hf
  refine lv_aload_n (i := 0) hx hb dX11_widest_0 rfl (lv_at hl 0 rfl) ?_
  refine lv_iload_n (i := 1) hx hb dX11_widest_1 rfl (lv_at hl 1 rfl) ?_
  have hf9 := wd_b2_e hf; clear hf; obtain ⟨r3, w1, hc2, hf⟩ := hf9
  refine z_callV (ci := 11) (As := [.int p0]) (rest := []) (c_X11_hostOf l E n w this p0 r3 w1 (hZ.k 0 rfl rfl) hc2) mo_X11_hostOf rfl (by decide) rfl tw_448 tw_2 tw_446 hx hb hml hts hown hK ⟨Nat.le_trans (by decide) hR.1, Nat.le_trans (by decide) hR.2⟩ hZ (hZ.k 0 rfl rfl) rfl hl.1 rfl (Nat.le_of_ble_eq_true rfl) rfl dX11_widest_2 ?_; clear hZ; intro H locs cells slots hX hZ
  replace hZ := hZ.add (Nat.succ_ne_zero _) hX
  refine lv_pop hx hb dX11_widest_5 (va_rf_cat _) ?_
  refine lv_iload_n (i := 2) hx hb dX11_widest_6 rfl (lv_at hl 2 rfl) ?_
  have hf9 := Option.bind_eq_some_iff.mp hf; clear hf; obtain ⟨w4, hc5, hf⟩ := hf9
  refine z_callS (As := [.int p1]) (rest := []) (c_X11_needAddress l E n w1 p1 w4  hc5) mo_X11_needAddress tw_535 tw_534 hx hb hml hts hown hK ⟨Nat.le_trans (by decide) hR.1, Nat.le_trans (by decide) hR.2⟩ hZ rfl hl.1 rfl (Nat.le_of_ble_eq_true rfl) rfl dX11_widest_7 ?_; clear hZ; intro H locs cells slots hX hZ
  refine lv_aload_n (i := 0) hx hb dX11_widest_10 rfl (lv_at hl 0 rfl) ?_
  refine z_getR (tk := 10) fd_1102 rfl hx hb hts hown hK hZ (hZ.k 1 rfl rfl) tw_308 dX11_widest_11 ?_; clear hZ; intro hZ
  refine lv_aload_n (i := 0) hx hb dX11_widest_14 rfl (lv_at hl 0 rfl) ?_
  refine z_getR (tk := 9) fd_1101 rfl hx hb hts hown hK hZ (hZ.k 2 rfl rfl) tw_307 dX11_widest_15 ?_; clear hZ; intro hZ
  have hf9 := Option.bind_eq_some_iff.mp hf; clear hf; obtain ⟨a6, ha6, hf⟩ := hf9
  replace hZ := hZ.add (r := some a6) (k := 11) (Nat.succ_ne_zero _) (fun q hq => by cases hq; exact hZ.k 1 rfl ha6)
  rw [ha6]
  have hf9 := Option.bind_eq_some_iff.mp hf; clear hf; obtain ⟨w7, hc8, hf⟩ := hf9
  refine z_callV (ci := 10) (As := [va_rf (wd_R w4 1101 this)]) (rest := []) (c_X10_begin l E n w4 a6 (wd_R w4 1101 this) w7 (hZ.k 0 rfl rfl) (fun q hq => hZ.k 1 rfl hq) hc8) mo_X10_begin rfl (by decide) rfl tw_1045 tw_1046 tw_1044 hx hb hml hts hown hK ⟨Nat.le_trans (by decide) hR.1, Nat.le_trans (by decide) hR.2⟩ hZ (hZ.k 0 rfl rfl) rfl hl.1 rfl (Nat.le_of_ble_eq_true rfl) rfl dX11_widest_18 ?_; clear hZ; intro H locs cells slots hX hZ
  refine lv_sipush (v := 196) hx hb dX11_widest_21 (by decide) ?_
  refine lv_istore_n (i := 3) (lv' := [(3, .int (196 : Int32)), (0, .ref this), (1, .int p0), (2, .int p1)]) hx hb dX11_widest_24 rfl hl (by decide) rfl ?_; clear hl; intro ls hl
  refine lv_iconst (v := 0) hx hb dX11_widest_25 (by decide) ?_
  refine lv_istore (i := 4) (lv' := [(4, .int (0 : Int32)), (3, .int (196 : Int32)), (0, .ref this), (1, .int p0), (2, .int p1)]) hx hb dX11_widest_26 hl (by decide) rfl ?_; clear hl; intro ls hl
  exact v_X11_widest_l28 n C hR n this p0 p1 (196 : Int32) (0 : Int32) w7 _ _ _ _ _ ⟨hZ.1, hZ.2.1, hZ.2.2.1, hZ.2.2.2.1, (List.forall_mem_cons.mpr ⟨⟨Nat.succ_ne_zero _, (fun q hq => by cases hq; exact (hZ.k 4 rfl rfl))⟩, (fun _ hq => absurd hq List.not_mem_nil)⟩), hZ.2.2.2.2.2⟩ (lv_sub hl [2, 3, 4, 1, 0] rfl) hf

def f_X11_digestHost_j148 (n : Nat) (rec106 : Nat → Option Nat → Int64 → Int32 → Wd → Option (Int64 × Wd)) (x0 : Nat) (x3 : Option Nat) (x4 : Int64) (x6 : Int32) (w : Wd) : Option (Int64 × Wd) :=
  wd_let (x6 + 1) fun v15 =>
  rec106 x0 x3 x4 v15 w
def f_X11_digestHost_l106 (n : Nat) (rec106 : Nat → Option Nat → Int64 → Int32 → Wd → Option (Int64 × Wd)) (x0 : Nat) (x3 : Option Nat) (x4 : Int64) (x6 : Int32) (w : Wd) : Option (Int64 × Wd) :=
  if (32 : Int32) ≤ x6 then
    some (x4, w)
  else
    Option.bind (wd_R w 1100 x0) fun a10 =>
    wd_b2 (f_X5_portWithMark n w a10 x6) fun r13 w11 =>
    wd_on r13 (
      f_X11_digestHost_j148 n rec106 x0 x3 x4 x6 w11)
      (fun a14 =>
      Option.bind x3 fun a17 =>
      wd_b2 (f_X2_knownMark n w11 a17 (wd_I w11 702 a14)) fun r20 w18 =>
      wd_let ((x4 * (31 : Int64)) + r20.toInt64) fun v21 =>
      f_X11_digestHost_j148 n rec106 x0 (some a17) v21 x6 w18)
def f_X11_digestHost_j103 (n : Nat) (x0 : Nat) (x3 : Option Nat) (x4 : Int64) (w : Wd) : Option (Int64 × Wd) :=
  wd_lp5 (f_X11_digestHost_l106 n) n x0 x3 x4 (0 : Int32) w
def f_X11_digestHost_l66 (n : Nat) (rec48 : Nat → Option Nat → Int64 → Int32 → Wd → Option (Int64 × Wd)) (rec66 : Nat → Option Nat → Int64 → Int32 → Int32 → Wd → Option (Int64 × Wd)) (x0 : Nat) (x3 : Option Nat) (x4 : Int64) (x6 : Int32) (x7 : Int32) (w : Wd) : Option (Int64 × Wd) :=
  if (6 : Int32) ≤ x7 then
    wd_let (x6 + 1) fun v29 =>
    rec48 x0 x3 x4 v29 w
  else
    Option.bind x3 fun a31 =>
    wd_b2 (f_X2_notePart n w a31 x6 x7) fun r34 w32 =>
    wd_let ((x4 * (31 : Int64)) + r34.toInt64) fun v35 =>
    wd_let (x7 + 1) fun v37 =>
    rec66 x0 (some a31) v35 x6 v37 w32
def f_X11_digestHost_l48 (n : Nat) (rec48 : Nat → Option Nat → Int64 → Int32 → Wd → Option (Int64 × Wd)) (x0 : Nat) (x3 : Option Nat) (x4 : Int64) (x6 : Int32) (w : Wd) : Option (Int64 × Wd) :=
  if (3 : Int32) ≤ x6 then
    f_X11_digestHost_j103 n x0 x3 x4 w
  else
    Option.bind x3 fun a23 =>
    wd_b2 (f_X2_isTold n w a23 x6) fun r26 w24 =>
    if r26 = 0 then
      f_X11_digestHost_j103 n x0 (some a23) x4 w24
    else
      wd_lp6 (f_X11_digestHost_l66 n rec48) n x0 (some a23) x4 x6 (0 : Int32) w24
def f_X11_digestHost (n : Nat) (w : Wd) (this : Nat) (p0 : Int64) (p1 : Option Nat) : Option (Int64 × Wd) :=
  Option.bind p1 fun a1 =>
  wd_let ((p0 * (31 : Int64)) + (wd_I w 201 a1).toInt64) fun v2 =>
  wd_let ((v2 * (31 : Int64)) + (wd_I w 202 a1).toInt64) fun v4 =>
  wd_let ((v4 * (31 : Int64)) + (wd_I w 203 a1).toInt64) fun v6 =>
  wd_lp5 (f_X11_digestHost_l48 n) n this (some a1) v6 (0 : Int32) w
set_option maxHeartbeats 4000000 in
set_option maxRecDepth 100000 in
theorem v_X11_digestHost_j148 {p : Program} {l : Launch} {e : Env} {R : Room} {s : State} {m : MethodId} {args : Array Value} {below : List Frame} {meth : Method} {c : Code} {E : wd_E} {w0 : Wd} {r' : Int64} {w' : Wd} (n : Nat) (C : wd_X p s m args meth c cX11_digestHost RX11 8 (some .long) "digestHost" E) (hR : 2 ≤ R.frames ∧ 43 ≤ R.locals) (rec106 : Nat → Option Nat → Int64 → Int32 → Wd → Option (Int64 × Wd)) (hrec106 : ∀ (x0_ : Nat) (x3_ : Option Nat) (x4_ : Int64) (x6_ : Int32) (w_ : Wd) (H : Heap) (locs : List Loc) (cells slots : Nat) (ls : Array Slot), wd_Z E w0 R s w_ H locs cells slots [(some x0_, 12), (x3_, 3)] → lv_has ls 8 [(0, .ref x0_), (3, va_rf x3_), (4, .long x4_), (6, .int x6_)] → rec106 x0_ x3_ x4_ x6_ w_ = some (r', w') → W p l e R s m args below meth c H locs cells slots (wd_fin E w0 (some (.long r')) w' True R args s below) (F0 m 106 ls [])) (x0 : Nat) (x3 : Option Nat) (x4 : Int64) (x6 : Int32) (w : Wd) (H : Heap) (locs : List Loc) (cells slots : Nat) (ls : Array Slot) (hZ : wd_Z E w0 R s w H locs cells slots [(some x0, 12), (x3, 3)]) (hl : lv_has ls 8 [(0, .ref x0), (3, va_rf x3), (4, .long x4), (6, .int x6)]) (hf : f_X11_digestHost_j148 n rec106 x0 x3 x4 x6 w = some (r', w')) : W p l e R s m args below meth c H locs cells slots (wd_fin E w0 (some (.long r')) w' True R args s below) (F0 m 148 ls []) := by
  obtain ⟨hx, hb, hr, hml, hts, hown, hlocks, hmn, hK⟩ := id C
  unfold f_X11_digestHost_j148 at hf
  have hf9 := wd_let_e hf; clear hf; obtain ⟨v15, e16, hf⟩ := hf9
  refine lv_iinc (k := 3) (v := v15) (lv' := [(6, .int v15), (0, .ref x0), (3, va_rf x3), (4, .long x4)]) hx hb dX11_digestHost_148 hl rfl (by rw [← e16]; rfl) (by decide) rfl ?_; clear hl; intro ls hl
  refine lv_goto (tgt := 106) hx hb dX11_digestHost_151 (by decide) ?_
  exact hrec106 x0 x3 x4 v15 w _ _ _ _ _ ⟨hZ.1, hZ.2.1, hZ.2.2.1, hZ.2.2.2.1, (List.forall_mem_cons.mpr ⟨⟨Nat.succ_ne_zero _, (fun q hq => by cases hq; exact (hZ.k 0 rfl rfl))⟩, (List.forall_mem_cons.mpr ⟨⟨Nat.succ_ne_zero _, (fun q hq => hZ.k 1 rfl hq)⟩, (fun _ hq => absurd hq List.not_mem_nil)⟩)⟩), hZ.2.2.2.2.2⟩ (lv_sub hl [1, 2, 3, 0] rfl) hf

set_option maxHeartbeats 4000000 in
set_option maxRecDepth 100000 in
theorem v_X11_digestHost_b106 {p : Program} {l : Launch} {e : Env} {R : Room} {s : State} {m : MethodId} {args : Array Value} {below : List Frame} {meth : Method} {c : Code} {E : wd_E} {w0 : Wd} {r' : Int64} {w' : Wd} (n : Nat) (C : wd_X p s m args meth c cX11_digestHost RX11 8 (some .long) "digestHost" E) (hR : 2 ≤ R.frames ∧ 43 ≤ R.locals) (rec106 : Nat → Option Nat → Int64 → Int32 → Wd → Option (Int64 × Wd)) (hrec106 : ∀ (x0_ : Nat) (x3_ : Option Nat) (x4_ : Int64) (x6_ : Int32) (w_ : Wd) (H : Heap) (locs : List Loc) (cells slots : Nat) (ls : Array Slot), wd_Z E w0 R s w_ H locs cells slots [(some x0_, 12), (x3_, 3)] → lv_has ls 8 [(0, .ref x0_), (3, va_rf x3_), (4, .long x4_), (6, .int x6_)] → rec106 x0_ x3_ x4_ x6_ w_ = some (r', w') → W p l e R s m args below meth c H locs cells slots (wd_fin E w0 (some (.long r')) w' True R args s below) (F0 m 106 ls [])) (x0 : Nat) (x3 : Option Nat) (x4 : Int64) (x6 : Int32) (w : Wd) (H : Heap) (locs : List Loc) (cells slots : Nat) (ls : Array Slot) (hZ : wd_Z E w0 R s w H locs cells slots [(some x0, 12), (x3, 3)]) (hl : lv_has ls 8 [(0, .ref x0), (3, va_rf x3), (4, .long x4), (6, .int x6)]) (hf : f_X11_digestHost_l106 n rec106 x0 x3 x4 x6 w = some (r', w')) : W p l e R s m args below meth c H locs cells slots (wd_fin E w0 (some (.long r')) w' True R args s below) (F0 m 106 ls []) := by
  obtain ⟨hx, hb, hr, hml, hts, hown, hlocks, hmn, hK⟩ := id C
  unfold f_X11_digestHost_l106 at hf
  refine lv_iload hx hb dX11_digestHost_106 (lv_at hl 3 rfl) ?_
  refine lv_bipush (v := 32) hx hb dX11_digestHost_108 (by decide) ?_
  refine lv_icmp_ge (tgt := 154) hx hb dX11_digestHost_110 (by decide) (fun h9 => ?_) (fun h9 => ?_)
  · replace hf := wd_ite_p h9 hf
    refine lv_lload hx hb dX11_digestHost_154 (lv_at hl 2 rfl) ?_
    obtain ⟨rfl, rfl⟩ := Prod.mk.inj (Option.some.inj hf)
    exact z_lret hx hb hr hlocks hZ trivial dX11_digestHost_156
  · replace hf := wd_ite_n h9 hf
    refine lv_aload_n (i := 0) hx hb dX11_digestHost_113 rfl (lv_at hl 0 rfl) ?_
    refine z_getR (tk := 5) fd_1100 rfl hx hb hts hown hK hZ (hZ.k 0 rfl rfl) tw_306 dX11_digestHost_114 ?_; clear hZ; intro hZ
    refine lv_iload hx hb dX11_digestHost_117 (lv_at hl 3 rfl) ?_
    have hf9 := Option.bind_eq_some_iff.mp hf; clear hf; obtain ⟨a10, ha10, hf⟩ := hf9
    replace hZ := hZ.add (r := some a10) (k := 6) (Nat.succ_ne_zero _) (fun q hq => by cases hq; exact hZ.k 0 rfl ha10)
    rw [ha10]
    have hf9 := wd_b2_e hf; clear hf; obtain ⟨r13, w11, hc12, hf⟩ := hf9
    refine z_callV (ci := 5) (As := [.int x6]) (rest := []) (c_X5_portWithMark l E n w a10 x6 r13 w11 (hZ.k 0 rfl rfl) hc12) mo_X5_portWithMark rfl (by decide) rfl tw_484 tw_485 tw_483 hx hb hml hts hown hK ⟨Nat.le_trans (by decide) hR.1, Nat.le_trans (by decide) hR.2⟩ hZ (hZ.k 0 rfl rfl) rfl hl.1 rfl (Nat.le_of_ble_eq_true rfl) rfl dX11_digestHost_119 ?_; clear hZ; intro H locs cells slots hX hZ
    replace hZ := hZ.add (Nat.succ_ne_zero _) hX
    refine z_astore (i := 7) (lv' := [(7, va_rf r13), (0, .ref x0), (3, va_rf x3), (4, .long x4), (6, .int x6)]) hx hb dX11_digestHost_122 hl (by decide) rfl ?_; clear hl; intro ls hl
    refine z_aload hx hb dX11_digestHost_124 (lv_at hl 0 rfl) ?_
    refine z_ifnull (tgt := 148) hx hb dX11_digestHost_126 (by decide) (fun hn => ?_) (fun a14 ha14 => ?_)
    · replace hf := wd_on_n hn hf
      subst hn
      replace hl : lv_has ls 8 [(7, va_rf none), (0, .ref x0), (3, va_rf x3), (4, .long x4), (6, .int x6)] := hl
      replace hZ : wd_Z E w0 R s w11 H locs cells slots [(none, 8), (some a10, 6), ((wd_R w 1100 x0), 6), (some x0, 12), (x3, 3)] := hZ
      exact v_X11_digestHost_j148 n C hR rec106 hrec106 x0 x3 x4 x6 w11 _ _ _ _ _ ⟨hZ.1, hZ.2.1, hZ.2.2.1, hZ.2.2.2.1, (List.forall_mem_cons.mpr ⟨⟨Nat.succ_ne_zero _, (fun q hq => by cases hq; exact (hZ.k 3 rfl rfl))⟩, (List.forall_mem_cons.mpr ⟨⟨Nat.succ_ne_zero _, (fun q hq => hZ.k 4 rfl hq)⟩, (fun _ hq => absurd hq List.not_mem_nil)⟩)⟩), hZ.2.2.2.2.2⟩ (lv_sub hl [1, 2, 3, 4] rfl) hf
    · replace hf := wd_on_s ha14 hf
      subst ha14
      replace hl : lv_has ls 8 [(7, .ref a14), (0, .ref x0), (3, va_rf x3), (4, .long x4), (6, .int x6)] := hl
      replace hZ : wd_Z E w0 R s w11 H locs cells slots [(some a14, 8), (some a10, 6), ((wd_R w 1100 x0), 6), (some x0, 12), (x3, 3)] := hZ
      refine lv_lload hx hb dX11_digestHost_129 (lv_at hl 3 rfl) ?_
      refine lv_ldc2 (v := 31) hx hb hown (hts _ tw_425) dX11_digestHost_131 ?_
      refine lv_lmul hx hb dX11_digestHost_134 ?_
      refine z_aload_n (i := 3) hx hb dX11_digestHost_135 rfl (lv_at hl 2 rfl) ?_
      refine lv_aload hx hb dX11_digestHost_136 (lv_at hl 0 rfl) ?_
      refine z_getI fd_702 rfl hx hb hts hown hK hZ (hZ.k 0 rfl rfl) tw_569 dX11_digestHost_138 ?_
      have hf9 := Option.bind_eq_some_iff.mp hf; clear hf; obtain ⟨a17, ha17, hf⟩ := hf9
      subst ha17
      replace hl : lv_has ls 8 [(7, .ref a14), (0, .ref x0), (3, .ref a17), (4, .long x4), (6, .int x6)] := hl
      replace hZ : wd_Z E w0 R s w11 H locs cells slots [(some a14, 8), (some a10, 6), ((wd_R w 1100 x0), 6), (some x0, 12), (some a17, 3)] := hZ
      have hf9 := wd_b2_e hf; clear hf; obtain ⟨r20, w18, hc19, hf⟩ := hf9
      refine z_callV (ci := 2) (As := [.int (wd_I w11 702 a14)]) (rest := [.long (x4 * (31 : Int64))]) (c_X2_knownMark l E n w11 a17 (wd_I w11 702 a14) r20 w18 (hZ.k 4 rfl rfl) hc19) mo_X2_knownMark rfl (by decide) rfl tw_492 tw_493 tw_491 hx hb hml hts hown hK ⟨Nat.le_trans (by decide) hR.1, Nat.le_trans (by decide) hR.2⟩ hZ (hZ.k 4 rfl rfl) rfl hl.1 rfl (Nat.le_of_ble_eq_true rfl) rfl dX11_digestHost_141 ?_; clear hZ; intro H locs cells slots hX hZ
      refine lv_i2l hx hb dX11_digestHost_144 rfl ?_
      refine lv_ladd hx hb dX11_digestHost_145 ?_
      have hf9 := wd_let_e hf; clear hf; obtain ⟨v21, e22, hf⟩ := hf9
      rw [e22]
      refine lv_lstore (i := 4) (lv' := [(4, .long v21), (7, .ref a14), (0, .ref x0), (3, .ref a17), (6, .int x6)]) hx hb dX11_digestHost_146 hl (by decide) rfl ?_; clear hl; intro ls hl
      exact v_X11_digestHost_j148 n C hR rec106 hrec106 x0 (some a17) v21 x6 w18 _ _ _ _ _ ⟨hZ.1, hZ.2.1, hZ.2.2.1, hZ.2.2.2.1, (List.forall_mem_cons.mpr ⟨⟨Nat.succ_ne_zero _, (fun q hq => by cases hq; exact (hZ.k 3 rfl rfl))⟩, (List.forall_mem_cons.mpr ⟨⟨Nat.succ_ne_zero _, (fun q hq => by cases hq; exact (hZ.k 4 rfl rfl))⟩, (fun _ hq => absurd hq List.not_mem_nil)⟩)⟩), hZ.2.2.2.2.2⟩ (lv_sub hl [2, 3, 0, 4] rfl) hf

theorem v_X11_digestHost_l106 {p : Program} {l : Launch} {e : Env} {R : Room} {s : State} {m : MethodId} {args : Array Value} {below : List Frame} {meth : Method} {c : Code} {E : wd_E} {w0 : Wd} {r' : Int64} {w' : Wd} (n : Nat) (C : wd_X p s m args meth c cX11_digestHost RX11 8 (some .long) "digestHost" E) (hR : 2 ≤ R.frames ∧ 43 ≤ R.locals) : ∀ (k : Nat) (x0 : Nat) (x3 : Option Nat) (x4 : Int64) (x6 : Int32) (w : Wd) (H : Heap) (locs : List Loc) (cells slots : Nat) (ls : Array Slot), wd_Z E w0 R s w H locs cells slots [(some x0, 12), (x3, 3)] → lv_has ls 8 [(0, .ref x0), (3, va_rf x3), (4, .long x4), (6, .int x6)] → wd_lp5 (f_X11_digestHost_l106 n) k x0 x3 x4 x6 w = some (r', w') → W p l e R s m args below meth c H locs cells slots (wd_fin E w0 (some (.long r')) w' True R args s below) (F0 m 106 ls []) := by
  intro k
  induction k with
  | zero => intro _ _ _ _ _ _ _ _ _ _ _ _ hf; cases hf
  | succ k ih =>
    intro x0 x3 x4 x6 w H locs cells slots ls hZ hl hf
    exact v_X11_digestHost_b106 n C hR (wd_lp5 (f_X11_digestHost_l106 n) k) ih x0 x3 x4 x6 w H locs cells slots ls hZ hl hf

set_option maxHeartbeats 4000000 in
set_option maxRecDepth 100000 in
theorem v_X11_digestHost_j103 {p : Program} {l : Launch} {e : Env} {R : Room} {s : State} {m : MethodId} {args : Array Value} {below : List Frame} {meth : Method} {c : Code} {E : wd_E} {w0 : Wd} {r' : Int64} {w' : Wd} (n : Nat) (C : wd_X p s m args meth c cX11_digestHost RX11 8 (some .long) "digestHost" E) (hR : 2 ≤ R.frames ∧ 43 ≤ R.locals) (x0 : Nat) (x3 : Option Nat) (x4 : Int64) (w : Wd) (H : Heap) (locs : List Loc) (cells slots : Nat) (ls : Array Slot) (hZ : wd_Z E w0 R s w H locs cells slots [(some x0, 12), (x3, 3)]) (hl : lv_has ls 8 [(0, .ref x0), (3, va_rf x3), (4, .long x4)]) (hf : f_X11_digestHost_j103 n x0 x3 x4 w = some (r', w')) : W p l e R s m args below meth c H locs cells slots (wd_fin E w0 (some (.long r')) w' True R args s below) (F0 m 103 ls []) := by
  obtain ⟨hx, hb, hr, hml, hts, hown, hlocks, hmn, hK⟩ := id C
  unfold f_X11_digestHost_j103 at hf
  refine lv_iconst (v := 0) hx hb dX11_digestHost_103 (by decide) ?_
  refine lv_istore (i := 6) (lv' := [(6, .int (0 : Int32)), (0, .ref x0), (3, va_rf x3), (4, .long x4)]) hx hb dX11_digestHost_104 hl (by decide) rfl ?_; clear hl; intro ls hl
  exact v_X11_digestHost_l106 n C hR n x0 x3 x4 (0 : Int32) w _ _ _ _ _ ⟨hZ.1, hZ.2.1, hZ.2.2.1, hZ.2.2.2.1, (List.forall_mem_cons.mpr ⟨⟨Nat.succ_ne_zero _, (fun q hq => by cases hq; exact (hZ.k 0 rfl rfl))⟩, (List.forall_mem_cons.mpr ⟨⟨Nat.succ_ne_zero _, (fun q hq => hZ.k 1 rfl hq)⟩, (fun _ hq => absurd hq List.not_mem_nil)⟩)⟩), hZ.2.2.2.2.2⟩ (lv_sub hl [1, 2, 3, 0] rfl) hf

set_option maxHeartbeats 4000000 in
set_option maxRecDepth 100000 in
theorem v_X11_digestHost_b66 {p : Program} {l : Launch} {e : Env} {R : Room} {s : State} {m : MethodId} {args : Array Value} {below : List Frame} {meth : Method} {c : Code} {E : wd_E} {w0 : Wd} {r' : Int64} {w' : Wd} (n : Nat) (C : wd_X p s m args meth c cX11_digestHost RX11 8 (some .long) "digestHost" E) (hR : 2 ≤ R.frames ∧ 43 ≤ R.locals) (rec48 : Nat → Option Nat → Int64 → Int32 → Wd → Option (Int64 × Wd)) (hrec48 : ∀ (x0_ : Nat) (x3_ : Option Nat) (x4_ : Int64) (x6_ : Int32) (w_ : Wd) (H : Heap) (locs : List Loc) (cells slots : Nat) (ls : Array Slot), wd_Z E w0 R s w_ H locs cells slots [(some x0_, 12), (x3_, 3)] → lv_has ls 8 [(0, .ref x0_), (3, va_rf x3_), (4, .long x4_), (6, .int x6_)] → rec48 x0_ x3_ x4_ x6_ w_ = some (r', w') → W p l e R s m args below meth c H locs cells slots (wd_fin E w0 (some (.long r')) w' True R args s below) (F0 m 48 ls [])) (rec66 : Nat → Option Nat → Int64 → Int32 → Int32 → Wd → Option (Int64 × Wd)) (hrec66 : ∀ (x0_ : Nat) (x3_ : Option Nat) (x4_ : Int64) (x6_ : Int32) (x7_ : Int32) (w_ : Wd) (H : Heap) (locs : List Loc) (cells slots : Nat) (ls : Array Slot), wd_Z E w0 R s w_ H locs cells slots [(some x0_, 12), (x3_, 3)] → lv_has ls 8 [(0, .ref x0_), (3, va_rf x3_), (4, .long x4_), (6, .int x6_), (7, .int x7_)] → rec66 x0_ x3_ x4_ x6_ x7_ w_ = some (r', w') → W p l e R s m args below meth c H locs cells slots (wd_fin E w0 (some (.long r')) w' True R args s below) (F0 m 66 ls [])) (x0 : Nat) (x3 : Option Nat) (x4 : Int64) (x6 : Int32) (x7 : Int32) (w : Wd) (H : Heap) (locs : List Loc) (cells slots : Nat) (ls : Array Slot) (hZ : wd_Z E w0 R s w H locs cells slots [(some x0, 12), (x3, 3)]) (hl : lv_has ls 8 [(0, .ref x0), (3, va_rf x3), (4, .long x4), (6, .int x6), (7, .int x7)]) (hf : f_X11_digestHost_l66 n rec48 rec66 x0 x3 x4 x6 x7 w = some (r', w')) : W p l e R s m args below meth c H locs cells slots (wd_fin E w0 (some (.long r')) w' True R args s below) (F0 m 66 ls []) := by
  obtain ⟨hx, hb, hr, hml, hts, hown, hlocks, hmn, hK⟩ := id C
  unfold f_X11_digestHost_l66 at hf
  refine lv_iload hx hb dX11_digestHost_66 (lv_at hl 4 rfl) ?_
  refine lv_bipush (v := 6) hx hb dX11_digestHost_68 (by decide) ?_
  refine lv_icmp_ge (tgt := 97) hx hb dX11_digestHost_70 (by decide) (fun h28 => ?_) (fun h28 => ?_)
  · replace hf := wd_ite_p h28 hf
    have hf9 := wd_let_e hf; clear hf; obtain ⟨v29, e30, hf⟩ := hf9
    refine lv_iinc (k := 3) (v := v29) (lv' := [(6, .int v29), (0, .ref x0), (3, va_rf x3), (4, .long x4), (7, .int x7)]) hx hb dX11_digestHost_97 hl rfl (by rw [← e30]; rfl) (by decide) rfl ?_; clear hl; intro ls hl
    refine lv_goto (tgt := 48) hx hb dX11_digestHost_100 (by decide) ?_
    exact hrec48 x0 x3 x4 v29 w _ _ _ _ _ ⟨hZ.1, hZ.2.1, hZ.2.2.1, hZ.2.2.2.1, (List.forall_mem_cons.mpr ⟨⟨Nat.succ_ne_zero _, (fun q hq => by cases hq; exact (hZ.k 0 rfl rfl))⟩, (List.forall_mem_cons.mpr ⟨⟨Nat.succ_ne_zero _, (fun q hq => hZ.k 1 rfl hq)⟩, (fun _ hq => absurd hq List.not_mem_nil)⟩)⟩), hZ.2.2.2.2.2⟩ (lv_sub hl [1, 2, 3, 0] rfl) hf
  · replace hf := wd_ite_n h28 hf
    refine lv_lload hx hb dX11_digestHost_73 (lv_at hl 2 rfl) ?_
    refine lv_ldc2 (v := 31) hx hb hown (hts _ tw_425) dX11_digestHost_75 ?_
    refine lv_lmul hx hb dX11_digestHost_78 ?_
    refine z_aload_n (i := 3) hx hb dX11_digestHost_79 rfl (lv_at hl 1 rfl) ?_
    refine lv_iload hx hb dX11_digestHost_80 (lv_at hl 3 rfl) ?_
    refine lv_iload hx hb dX11_digestHost_82 (lv_at hl 4 rfl) ?_
    have hf9 := Option.bind_eq_some_iff.mp hf; clear hf; obtain ⟨a31, ha31, hf⟩ := hf9
    subst ha31
    replace hl : lv_has ls 8 [(0, .ref x0), (3, .ref a31), (4, .long x4), (6, .int x6), (7, .int x7)] := hl
    replace hZ : wd_Z E w0 R s w H locs cells slots [(some x0, 12), (some a31, 3)] := hZ
    have hf9 := wd_b2_e hf; clear hf; obtain ⟨r34, w32, hc33, hf⟩ := hf9
    refine z_callV (ci := 2) (As := [.int x6, .int x7]) (rest := [.long (x4 * (31 : Int64))]) (c_X2_notePart l E n w a31 x6 x7 r34 w32 (hZ.k 1 rfl rfl) hc33) mo_X2_notePart rfl (by decide) rfl tw_479 tw_480 tw_478 hx hb hml hts hown hK ⟨Nat.le_trans (by decide) hR.1, Nat.le_trans (by decide) hR.2⟩ hZ (hZ.k 1 rfl rfl) rfl hl.1 rfl (Nat.le_of_ble_eq_true rfl) rfl dX11_digestHost_84 ?_; clear hZ; intro H locs cells slots hX hZ
    refine lv_i2l hx hb dX11_digestHost_87 rfl ?_
    refine lv_ladd hx hb dX11_digestHost_88 ?_
    have hf9 := wd_let_e hf; clear hf; obtain ⟨v35, e36, hf⟩ := hf9
    rw [e36]
    refine lv_lstore (i := 4) (lv' := [(4, .long v35), (0, .ref x0), (3, .ref a31), (6, .int x6), (7, .int x7)]) hx hb dX11_digestHost_89 hl (by decide) rfl ?_; clear hl; intro ls hl
    have hf9 := wd_let_e hf; clear hf; obtain ⟨v37, e38, hf⟩ := hf9
    refine lv_iinc (k := 4) (v := v37) (lv' := [(7, .int v37), (4, .long v35), (0, .ref x0), (3, .ref a31), (6, .int x6)]) hx hb dX11_digestHost_91 hl rfl (by rw [← e38]; rfl) (by decide) rfl ?_; clear hl; intro ls hl
    refine lv_goto (tgt := 66) hx hb dX11_digestHost_94 (by decide) ?_
    exact hrec66 x0 (some a31) v35 x6 v37 w32 _ _ _ _ _ ⟨hZ.1, hZ.2.1, hZ.2.2.1, hZ.2.2.2.1, (List.forall_mem_cons.mpr ⟨⟨Nat.succ_ne_zero _, (fun q hq => by cases hq; exact (hZ.k 0 rfl rfl))⟩, (List.forall_mem_cons.mpr ⟨⟨Nat.succ_ne_zero _, (fun q hq => by cases hq; exact (hZ.k 1 rfl rfl))⟩, (fun _ hq => absurd hq List.not_mem_nil)⟩)⟩), hZ.2.2.2.2.2⟩ (lv_sub hl [2, 3, 1, 4, 0] rfl) hf

theorem v_X11_digestHost_l66 {p : Program} {l : Launch} {e : Env} {R : Room} {s : State} {m : MethodId} {args : Array Value} {below : List Frame} {meth : Method} {c : Code} {E : wd_E} {w0 : Wd} {r' : Int64} {w' : Wd} (n : Nat) (C : wd_X p s m args meth c cX11_digestHost RX11 8 (some .long) "digestHost" E) (hR : 2 ≤ R.frames ∧ 43 ≤ R.locals) (rec48 : Nat → Option Nat → Int64 → Int32 → Wd → Option (Int64 × Wd)) (hrec48 : ∀ (x0_ : Nat) (x3_ : Option Nat) (x4_ : Int64) (x6_ : Int32) (w_ : Wd) (H : Heap) (locs : List Loc) (cells slots : Nat) (ls : Array Slot), wd_Z E w0 R s w_ H locs cells slots [(some x0_, 12), (x3_, 3)] → lv_has ls 8 [(0, .ref x0_), (3, va_rf x3_), (4, .long x4_), (6, .int x6_)] → rec48 x0_ x3_ x4_ x6_ w_ = some (r', w') → W p l e R s m args below meth c H locs cells slots (wd_fin E w0 (some (.long r')) w' True R args s below) (F0 m 48 ls [])) : ∀ (k : Nat) (x0 : Nat) (x3 : Option Nat) (x4 : Int64) (x6 : Int32) (x7 : Int32) (w : Wd) (H : Heap) (locs : List Loc) (cells slots : Nat) (ls : Array Slot), wd_Z E w0 R s w H locs cells slots [(some x0, 12), (x3, 3)] → lv_has ls 8 [(0, .ref x0), (3, va_rf x3), (4, .long x4), (6, .int x6), (7, .int x7)] → wd_lp6 (f_X11_digestHost_l66 n rec48) k x0 x3 x4 x6 x7 w = some (r', w') → W p l e R s m args below meth c H locs cells slots (wd_fin E w0 (some (.long r')) w' True R args s below) (F0 m 66 ls []) := by
  intro k
  induction k with
  | zero => intro _ _ _ _ _ _ _ _ _ _ _ _ _ hf; cases hf
  | succ k ih =>
    intro x0 x3 x4 x6 x7 w H locs cells slots ls hZ hl hf
    exact v_X11_digestHost_b66 n C hR rec48 hrec48 (wd_lp6 (f_X11_digestHost_l66 n rec48) k) ih x0 x3 x4 x6 x7 w H locs cells slots ls hZ hl hf

set_option maxHeartbeats 4000000 in
set_option maxRecDepth 100000 in
theorem v_X11_digestHost_b48 {p : Program} {l : Launch} {e : Env} {R : Room} {s : State} {m : MethodId} {args : Array Value} {below : List Frame} {meth : Method} {c : Code} {E : wd_E} {w0 : Wd} {r' : Int64} {w' : Wd} (n : Nat) (C : wd_X p s m args meth c cX11_digestHost RX11 8 (some .long) "digestHost" E) (hR : 2 ≤ R.frames ∧ 43 ≤ R.locals) (rec48 : Nat → Option Nat → Int64 → Int32 → Wd → Option (Int64 × Wd)) (hrec48 : ∀ (x0_ : Nat) (x3_ : Option Nat) (x4_ : Int64) (x6_ : Int32) (w_ : Wd) (H : Heap) (locs : List Loc) (cells slots : Nat) (ls : Array Slot), wd_Z E w0 R s w_ H locs cells slots [(some x0_, 12), (x3_, 3)] → lv_has ls 8 [(0, .ref x0_), (3, va_rf x3_), (4, .long x4_), (6, .int x6_)] → rec48 x0_ x3_ x4_ x6_ w_ = some (r', w') → W p l e R s m args below meth c H locs cells slots (wd_fin E w0 (some (.long r')) w' True R args s below) (F0 m 48 ls [])) (x0 : Nat) (x3 : Option Nat) (x4 : Int64) (x6 : Int32) (w : Wd) (H : Heap) (locs : List Loc) (cells slots : Nat) (ls : Array Slot) (hZ : wd_Z E w0 R s w H locs cells slots [(some x0, 12), (x3, 3)]) (hl : lv_has ls 8 [(0, .ref x0), (3, va_rf x3), (4, .long x4), (6, .int x6)]) (hf : f_X11_digestHost_l48 n rec48 x0 x3 x4 x6 w = some (r', w')) : W p l e R s m args below meth c H locs cells slots (wd_fin E w0 (some (.long r')) w' True R args s below) (F0 m 48 ls []) := by
  obtain ⟨hx, hb, hr, hml, hts, hown, hlocks, hmn, hK⟩ := id C
  unfold f_X11_digestHost_l48 at hf
  refine lv_iload hx hb dX11_digestHost_48 (lv_at hl 3 rfl) ?_
  refine lv_iconst (v := 3) hx hb dX11_digestHost_50 (by decide) ?_
  refine lv_icmp_ge (tgt := 103) hx hb dX11_digestHost_51 (by decide) (fun h8 => ?_) (fun h8 => ?_)
  · replace hf := wd_ite_p h8 hf
    exact v_X11_digestHost_j103 n C hR x0 x3 x4 w _ _ _ _ _ ⟨hZ.1, hZ.2.1, hZ.2.2.1, hZ.2.2.2.1, (List.forall_mem_cons.mpr ⟨⟨Nat.succ_ne_zero _, (fun q hq => by cases hq; exact (hZ.k 0 rfl rfl))⟩, (List.forall_mem_cons.mpr ⟨⟨Nat.succ_ne_zero _, (fun q hq => hZ.k 1 rfl hq)⟩, (fun _ hq => absurd hq List.not_mem_nil)⟩)⟩), hZ.2.2.2.2.2⟩ (lv_sub hl [0, 1, 2] rfl) hf
  · replace hf := wd_ite_n h8 hf
    refine z_aload_n (i := 3) hx hb dX11_digestHost_54 rfl (lv_at hl 1 rfl) ?_
    refine lv_iload hx hb dX11_digestHost_55 (lv_at hl 3 rfl) ?_
    have hf9 := Option.bind_eq_some_iff.mp hf; clear hf; obtain ⟨a23, ha23, hf⟩ := hf9
    subst ha23
    replace hl : lv_has ls 8 [(0, .ref x0), (3, .ref a23), (4, .long x4), (6, .int x6)] := hl
    replace hZ : wd_Z E w0 R s w H locs cells slots [(some x0, 12), (some a23, 3)] := hZ
    have hf9 := wd_b2_e hf; clear hf; obtain ⟨r26, w24, hc25, hf⟩ := hf9
    refine z_callV (ci := 2) (As := [.int x6]) (rest := []) (c_X2_isTold l E n w a23 x6 r26 w24 (hZ.k 1 rfl rfl) hc25) mo_X2_isTold rfl (by decide) rfl tw_475 tw_476 tw_474 hx hb hml hts hown hK ⟨Nat.le_trans (by decide) hR.1, Nat.le_trans (by decide) hR.2⟩ hZ (hZ.k 1 rfl rfl) rfl hl.1 rfl (Nat.le_of_ble_eq_true rfl) rfl dX11_digestHost_57 ?_; clear hZ; intro H locs cells slots hX hZ
    refine lv_if_eq (tgt := 103) hx hb dX11_digestHost_60 (by decide) (fun h27 => ?_) (fun h27 => ?_)
    · replace hf := wd_ite_p h27 hf
      exact v_X11_digestHost_j103 n C hR x0 (some a23) x4 w24 _ _ _ _ _ ⟨hZ.1, hZ.2.1, hZ.2.2.1, hZ.2.2.2.1, (List.forall_mem_cons.mpr ⟨⟨Nat.succ_ne_zero _, (fun q hq => by cases hq; exact (hZ.k 0 rfl rfl))⟩, (List.forall_mem_cons.mpr ⟨⟨Nat.succ_ne_zero _, (fun q hq => by cases hq; exact (hZ.k 1 rfl rfl))⟩, (fun _ hq => absurd hq List.not_mem_nil)⟩)⟩), hZ.2.2.2.2.2⟩ (lv_sub hl [0, 1, 2] rfl) hf
    · replace hf := wd_ite_n h27 hf
      refine lv_iconst (v := 0) hx hb dX11_digestHost_63 (by decide) ?_
      refine lv_istore (i := 7) (lv' := [(7, .int (0 : Int32)), (0, .ref x0), (3, .ref a23), (4, .long x4), (6, .int x6)]) hx hb dX11_digestHost_64 hl (by decide) rfl ?_; clear hl; intro ls hl
      exact v_X11_digestHost_l66 n C hR rec48 hrec48 n x0 (some a23) x4 x6 (0 : Int32) w24 _ _ _ _ _ ⟨hZ.1, hZ.2.1, hZ.2.2.1, hZ.2.2.2.1, (List.forall_mem_cons.mpr ⟨⟨Nat.succ_ne_zero _, (fun q hq => by cases hq; exact (hZ.k 0 rfl rfl))⟩, (List.forall_mem_cons.mpr ⟨⟨Nat.succ_ne_zero _, (fun q hq => by cases hq; exact (hZ.k 1 rfl rfl))⟩, (fun _ hq => absurd hq List.not_mem_nil)⟩)⟩), hZ.2.2.2.2.2⟩ (lv_sub hl [1, 2, 3, 4, 0] rfl) hf

theorem v_X11_digestHost_l48 {p : Program} {l : Launch} {e : Env} {R : Room} {s : State} {m : MethodId} {args : Array Value} {below : List Frame} {meth : Method} {c : Code} {E : wd_E} {w0 : Wd} {r' : Int64} {w' : Wd} (n : Nat) (C : wd_X p s m args meth c cX11_digestHost RX11 8 (some .long) "digestHost" E) (hR : 2 ≤ R.frames ∧ 43 ≤ R.locals) : ∀ (k : Nat) (x0 : Nat) (x3 : Option Nat) (x4 : Int64) (x6 : Int32) (w : Wd) (H : Heap) (locs : List Loc) (cells slots : Nat) (ls : Array Slot), wd_Z E w0 R s w H locs cells slots [(some x0, 12), (x3, 3)] → lv_has ls 8 [(0, .ref x0), (3, va_rf x3), (4, .long x4), (6, .int x6)] → wd_lp5 (f_X11_digestHost_l48 n) k x0 x3 x4 x6 w = some (r', w') → W p l e R s m args below meth c H locs cells slots (wd_fin E w0 (some (.long r')) w' True R args s below) (F0 m 48 ls []) := by
  intro k
  induction k with
  | zero => intro _ _ _ _ _ _ _ _ _ _ _ _ hf; cases hf
  | succ k ih =>
    intro x0 x3 x4 x6 w H locs cells slots ls hZ hl hf
    exact v_X11_digestHost_b48 n C hR (wd_lp5 (f_X11_digestHost_l48 n) k) ih x0 x3 x4 x6 w H locs cells slots ls hZ hl hf

set_option maxHeartbeats 4000000 in
set_option maxRecDepth 100000 in
theorem c_X11_digestHost (l : Launch) (E : wd_E) (n : Nat) (w : Wd) (this : Nat) (p0 : Int64) (p1 : Option Nat) (r' : Int64) (w' : Wd) (k_this : wd_K w this = 12) (k_p1 : ∀ q, p1 = some q → wd_K w q = 3) (hf : f_X11_digestHost n w this p0 p1 = some (r', w')) : wd_C l E yX11_digestHost cX11_digestHost 8 (some .long) 2 43 [.ref this, .long p0, va_rf p1] w (some (.long r')) w' True := by
  refine wd_ofW (own := RX11) (nm := "digestHost") (ks := [(some this, 12), (p1, 3)]) (lv := [(0, .ref this), (1, .long p0), (3, va_rf p1)]) (by decide) rfl rfl (by simp [lg_sl, va_rf_cat, va_cat_r, va_cat_i, va_cat_l, va_cat_d]) (by simp [lv_args, va_rf_cat, va_cat_r, va_cat_i, va_cat_l, va_cat_d]) (List.forall_mem_cons.mpr ⟨⟨Nat.succ_ne_zero _, fun q hq => by cases hq; exact k_this⟩, (List.forall_mem_cons.mpr ⟨⟨Nat.succ_ne_zero _, k_p1⟩, (fun _ hq => absurd hq List.not_mem_nil)⟩)⟩) ?_
  intro p e s m args below meth c R H locs cells slots ls C hR hZ hl
  obtain ⟨hx, hb, hr, hml, hts, hown, hlocks, hmn, hK⟩ := id C
  unfold f_X11_digestHost at hf
  refine lv_lload_n (i := 1) hx hb dX11_digestHost_0 rfl (lv_at hl 1 rfl) ?_
  refine lv_lstore (i := 4) (lv' := [(4, .long p0), (0, .ref this), (1, .long p0), (3, va_rf p1)]) hx hb dX11_digestHost_1 hl (by decide) (by simp [va_rf_cat, va_cat_r, va_cat_i, va_cat_l, va_cat_d]) ?_; clear hl; intro ls hl
  refine lv_lload hx hb dX11_digestHost_3 (lv_at hl 0 rfl) ?_
  refine lv_ldc2 (v := 31) hx hb hown (hts _ tw_425) dX11_digestHost_5 ?_
  refine lv_lmul hx hb dX11_digestHost_8 ?_
  refine z_aload_n (i := 3) hx hb dX11_digestHost_9 rfl (lv_at hl 3 rfl) ?_
  have hf9 := Option.bind_eq_some_iff.mp hf; clear hf; obtain ⟨a1, ha1, hf⟩ := hf9
  subst ha1
  replace hl : lv_has ls 8 [(4, .long p0), (0, .ref this), (1, .long p0), (3, .ref a1)] := hl
  replace hZ : wd_Z E w R s w H locs cells slots [(some this, 12), (some a1, 3)] := hZ
  refine z_getI fd_201 rfl hx hb hts hown hK hZ (hZ.k 1 rfl rfl) tw_208 dX11_digestHost_10 ?_
  refine lv_i2l hx hb dX11_digestHost_13 rfl ?_
  refine lv_ladd hx hb dX11_digestHost_14 ?_
  have hf9 := wd_let_e hf; clear hf; obtain ⟨v2, e3, hf⟩ := hf9
  rw [e3]
  refine lv_lstore (i := 4) (lv' := [(4, .long v2), (0, .ref this), (1, .long p0), (3, .ref a1)]) hx hb dX11_digestHost_15 hl (by decide) rfl ?_; clear hl; intro ls hl
  refine lv_lload hx hb dX11_digestHost_17 (lv_at hl 0 rfl) ?_
  refine lv_ldc2 (v := 31) hx hb hown (hts _ tw_425) dX11_digestHost_19 ?_
  refine lv_lmul hx hb dX11_digestHost_22 ?_
  refine lv_aload_n (i := 3) hx hb dX11_digestHost_23 rfl (lv_at hl 3 rfl) ?_
  refine z_getI fd_202 rfl hx hb hts hown hK hZ (hZ.k 1 rfl rfl) tw_211 dX11_digestHost_24 ?_
  refine lv_i2l hx hb dX11_digestHost_27 rfl ?_
  refine lv_ladd hx hb dX11_digestHost_28 ?_
  have hf9 := wd_let_e hf; clear hf; obtain ⟨v4, e5, hf⟩ := hf9
  rw [e5]
  refine lv_lstore (i := 4) (lv' := [(4, .long v4), (0, .ref this), (1, .long p0), (3, .ref a1)]) hx hb dX11_digestHost_29 hl (by decide) rfl ?_; clear hl; intro ls hl
  refine lv_lload hx hb dX11_digestHost_31 (lv_at hl 0 rfl) ?_
  refine lv_ldc2 (v := 31) hx hb hown (hts _ tw_425) dX11_digestHost_33 ?_
  refine lv_lmul hx hb dX11_digestHost_36 ?_
  refine lv_aload_n (i := 3) hx hb dX11_digestHost_37 rfl (lv_at hl 3 rfl) ?_
  refine z_getI fd_203 rfl hx hb hts hown hK hZ (hZ.k 1 rfl rfl) tw_214 dX11_digestHost_38 ?_
  refine lv_i2l hx hb dX11_digestHost_41 rfl ?_
  refine lv_ladd hx hb dX11_digestHost_42 ?_
  have hf9 := wd_let_e hf; clear hf; obtain ⟨v6, e7, hf⟩ := hf9
  rw [e7]
  refine lv_lstore (i := 4) (lv' := [(4, .long v6), (0, .ref this), (1, .long p0), (3, .ref a1)]) hx hb dX11_digestHost_43 hl (by decide) rfl ?_; clear hl; intro ls hl
  refine lv_iconst (v := 0) hx hb dX11_digestHost_45 (by decide) ?_
  refine lv_istore (i := 6) (lv' := [(6, .int (0 : Int32)), (4, .long v6), (0, .ref this), (1, .long p0), (3, .ref a1)]) hx hb dX11_digestHost_46 hl (by decide) rfl ?_; clear hl; intro ls hl
  exact v_X11_digestHost_l48 n C hR n this (some a1) v6 (0 : Int32) w _ _ _ _ _ ⟨hZ.1, hZ.2.1, hZ.2.2.1, hZ.2.2.2.1, (List.forall_mem_cons.mpr ⟨⟨Nat.succ_ne_zero _, (fun q hq => by cases hq; exact (hZ.k 0 rfl rfl))⟩, (List.forall_mem_cons.mpr ⟨⟨Nat.succ_ne_zero _, (fun q hq => by cases hq; exact (hZ.k 1 rfl rfl))⟩, (fun _ hq => absurd hq List.not_mem_nil)⟩)⟩), hZ.2.2.2.2.2⟩ (lv_sub hl [2, 4, 1, 0] rfl) hf

