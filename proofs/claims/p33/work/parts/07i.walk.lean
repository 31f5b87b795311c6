/-! ===== meanings and contracts, laid by wip/p33/gen ===== -/
def f_X11_needWidth_j13 (n : Nat) (w : Wd) : Option Wd :=
  none
def f_X11_needWidth (n : Nat) (w : Wd) (p0 : Int32) : Option Wd :=
  if p0 < (12 : Int32) then
    f_X11_needWidth_j13 n w
  else
    if p0 ≤ (200 : Int32) then
      some w
    else
      f_X11_needWidth_j13 n w
set_option maxHeartbeats 4000000 in
set_option maxRecDepth 100000 in
theorem v_X11_needWidth_j13 {p : Program} {l : Launch} {e : Env} {R : Room} {s : State} {m : MethodId} {args : Array Value} {below : List Frame} {meth : Method} {c : Code} {E : wd_E} {w0 : Wd} {w' : Wd} (n : Nat) (C : wd_X p s m args meth c cX11_needWidth RX11 1 none "needWidth" E) (hR : 0 ≤ R.frames ∧ 0 ≤ R.locals) (w : Wd) (H : Heap) (locs : List Loc) (cells slots : Nat) (ls : Array Slot) (hZ : wd_Z E w0 R s w H locs cells slots []) (hl : lv_has ls 1 []) (hf : f_X11_needWidth_j13 n w = some w') : W p l e R s m args below meth c H locs cells slots (wd_fin E w0 none w' True R args s below) (F0 m 13 ls []) := by
  obtain ⟨hx, hb, hr, hml, hts, hown, hlocks, hmn, hK⟩ := id C
  unfold f_X11_needWidth_j13 at hf
  cases hf

set_option maxHeartbeats 4000000 in
set_option maxRecDepth 100000 in
theorem c_X11_needWidth (l : Launch) (E : wd_E) (n : Nat) (w : Wd) (p0 : Int32) (w' : Wd)  (hf : f_X11_needWidth n w p0 = some w') : wd_C l E yX11_needWidth cX11_needWidth 1 none 0 0 [.int p0] w none w' True := by
  refine wd_ofW (own := RX11) (nm := "needWidth") (ks := []) (lv := [(0, .int p0)]) (by decide) rfl rfl (Nat.le_of_ble_eq_true rfl) rfl (fun _ hq => absurd hq List.not_mem_nil) ?_
  intro p e s m args below meth c R H locs cells slots ls C hR hZ hl
  obtain ⟨hx, hb, hr, hml, hts, hown, hlocks, hmn, hK⟩ := id C
  unfold f_X11_needWidth at hf
  refine lv_iload_n (i := 0) hx hb dX11_needWidth_0 rfl (lv_at hl 0 rfl) ?_
  refine lv_bipush (v := 12) hx hb dX11_needWidth_1 (by decide) ?_
  refine lv_icmp_lt (tgt := 13) hx hb dX11_needWidth_3 (by decide) (fun h1 => ?_) (fun h1 => ?_)
  · replace hf := wd_ite_p h1 hf
    exact v_X11_needWidth_j13 n C hR w _ _ _ _ _ ⟨hZ.1, hZ.2.1, hZ.2.2.1, hZ.2.2.2.1, (fun _ hq => absurd hq List.not_mem_nil), hZ.2.2.2.2.2⟩ (lv_sub hl [] rfl) hf
  · replace hf := wd_ite_n h1 hf
    refine lv_iload_n (i := 0) hx hb dX11_needWidth_6 rfl (lv_at hl 0 rfl) ?_
    refine lv_sipush (v := 200) hx hb dX11_needWidth_7 (by decide) ?_
    refine lv_icmp_le (tgt := 24) hx hb dX11_needWidth_10 (by decide) (fun h2 => ?_) (fun h2 => ?_)
    · replace hf := wd_ite_p h2 hf
      obtain rfl := Option.some.inj hf
      exact z_vret hx hb hr hlocks hZ trivial dX11_needWidth_24
    · replace hf := wd_ite_n h2 hf
      exact v_X11_needWidth_j13 n C hR w _ _ _ _ _ ⟨hZ.1, hZ.2.1, hZ.2.2.1, hZ.2.2.2.1, (fun _ hq => absurd hq List.not_mem_nil), hZ.2.2.2.2.2⟩ (lv_sub hl [] rfl) hf

def f_X11_addCable (n : Nat) (w : Wd) (this : Nat) (p0 : Int32) : Option (Int32 × Wd) :=
  Option.bind (f_X11_needWidth n w p0) fun w1 =>
  Option.bind (wd_R w1 1100 this) fun a3 =>
  wd_b2 (f_X5_putCable n w1 a3 p0) fun r6 w4 =>
  if 0 ≤ r6 then
    some (r6, w4)
  else
    none
set_option maxHeartbeats 4000000 in
set_option maxRecDepth 100000 in
theorem c_X11_addCable (l : Launch) (E : wd_E) (n : Nat) (w : Wd) (this : Nat) (p0 : Int32) (r' : Int32) (w' : Wd) (k_this : wd_K w this = 12) (hf : f_X11_addCable n w this p0 = some (r', w')) : wd_C l E yX11_addCable cX11_addCable 3 (some .int) 1 21 [.ref this, .int p0] w (some (.int r')) w' True := by
  refine wd_ofW (own := RX11) (nm := "addCable") (ks := [(some this, 12)]) (lv := [(0, .ref this), (1, .int p0)]) (by decide) rfl rfl (Nat.le_of_ble_eq_true rfl) rfl (List.forall_mem_cons.mpr ⟨⟨Nat.succ_ne_zero _, fun q hq => by cases hq; exact k_this⟩, (fun _ hq => absurd hq List.not_mem_nil)⟩) ?_
  intro p e s m args below meth c R H locs cells slots ls C hR hZ hl
  obtain ⟨hx, hb, hr, hml, hts, hown, hlocks, hmn, hK⟩ := id C
  unfold f_X11_addCable at hf
  refine lv_iload_n (i := 1) hx hb dX11_addCable_0 rfl (lv_at hl 1 rfl) ?_
  have hf9 := Option.bind_eq_some_iff.mp hf; clear hf; obtain ⟨w1, hc2, hf⟩ := hf9
  refine z_callS (As := [.int p0]) (rest := []) (c_X11_needWidth l E n w p0 w1  hc2) mo_X11_needWidth tw_321 tw_320 hx hb hml hts hown hK ⟨Nat.le_trans (by decide) hR.1, Nat.le_trans (by decide) hR.2⟩ hZ rfl hl.1 rfl (Nat.le_of_ble_eq_true rfl) rfl dX11_addCable_1 ?_; clear hZ; intro H locs cells slots hX hZ
  refine lv_aload_n (i := 0) hx hb dX11_addCable_4 rfl (lv_at hl 0 rfl) ?_
  refine z_getR (tk := 5) fd_1100 rfl hx hb hts hown hK hZ (hZ.k 0 rfl rfl) tw_306 dX11_addCable_5 ?_; clear hZ; intro hZ
  refine lv_iload_n (i := 1) hx hb dX11_addCable_8 rfl (lv_at hl 1 rfl) ?_
  have hf9 := Option.bind_eq_some_iff.mp hf; clear hf; obtain ⟨a3, ha3, hf⟩ := hf9
  replace hZ := hZ.add (r := some a3) (k := 6) (Nat.succ_ne_zero _) (fun q hq => by cases hq; exact hZ.k 0 rfl ha3)
  rw [ha3]
  have hf9 := wd_b2_e hf; clear hf; obtain ⟨r6, w4, hc5, hf⟩ := hf9
  refine z_callV (ci := 5) (As := [.int p0]) (rest := []) (c_X5_putCable l E n w1 a3 p0 r6 w4 (hZ.k 0 rfl rfl) hc5) mo_X5_putCable rfl (by decide) rfl tw_392 tw_393 tw_391 hx hb hml hts hown hK ⟨Nat.le_trans (by decide) hR.1, Nat.le_trans (by decide) hR.2⟩ hZ (hZ.k 0 rfl rfl) rfl hl.1 rfl (Nat.le_of_ble_eq_true rfl) rfl dX11_addCable_9 ?_; clear hZ; intro H locs cells slots hX hZ
  refine lv_istore_n (i := 2) (lv' := [(2, .int r6), (0, .ref this), (1, .int p0)]) hx hb dX11_addCable_12 rfl hl (by decide) rfl ?_; clear hl; intro ls hl
  refine lv_iload_n (i := 2) hx hb dX11_addCable_13 rfl (lv_at hl 0 rfl) ?_
  refine lv_if_ge (tgt := 27) hx hb dX11_addCable_14 (by decide) (fun h7 => ?_) (fun h7 => ?_)
  · replace hf := wd_ite_p h7 hf
    refine lv_iload_n (i := 2) hx hb dX11_addCable_27 rfl (lv_at hl 0 rfl) ?_
    obtain ⟨rfl, rfl⟩ := Prod.mk.inj (Option.some.inj hf)
    exact z_iret hx hb hr hlocks hZ trivial dX11_addCable_28
  · replace hf := wd_ite_n h7 hf
    cases hf

def f_X11_needCable_j15 (n : Nat) (w : Wd) : Option Wd :=
  none
def f_X11_needCable (n : Nat) (w : Wd) (this : Nat) (p0 : Int32) : Option Wd :=
  if p0 < 0 then
    f_X11_needCable_j15 n w
  else
    Option.bind (wd_R w 1100 this) fun a2 =>
    if p0 < (wd_I w 501 a2) then
      some w
    else
      f_X11_needCable_j15 n w
set_option maxHeartbeats 4000000 in
set_option maxRecDepth 100000 in
theorem v_X11_needCable_j15 {p : Program} {l : Launch} {e : Env} {R : Room} {s : State} {m : MethodId} {args : Array Value} {below : List Frame} {meth : Method} {c : Code} {E : wd_E} {w0 : Wd} {w' : Wd} (n : Nat) (C : wd_X p s m args meth c cX11_needCable RX11 2 none "needCable" E) (hR : 0 ≤ R.frames ∧ 0 ≤ R.locals) (w : Wd) (H : Heap) (locs : List Loc) (cells slots : Nat) (ls : Array Slot) (hZ : wd_Z E w0 R s w H locs cells slots []) (hl : lv_has ls 2 []) (hf : f_X11_needCable_j15 n w = some w') : W p l e R s m args below meth c H locs cells slots (wd_fin E w0 none w' True R args s below) (F0 m 15 ls []) := by
  obtain ⟨hx, hb, hr, hml, hts, hown, hlocks, hmn, hK⟩ := id C
  unfold f_X11_needCable_j15 at hf
  cases hf

set_option maxHeartbeats 4000000 in
set_option maxRecDepth 100000 in
theorem c_X11_needCable (l : Launch) (E : wd_E) (n : Nat) (w : Wd) (this : Nat) (p0 : Int32) (w' : Wd) (k_this : wd_K w this = 12) (hf : f_X11_needCable n w this p0 = some w') : wd_C l E yX11_needCable cX11_needCable 2 none 0 0 [.ref this, .int p0] w none w' True := by
  refine wd_ofW (own := RX11) (nm := "needCable") (ks := [(some this, 12)]) (lv := [(0, .ref this), (1, .int p0)]) (by decide) rfl rfl (Nat.le_of_ble_eq_true rfl) rfl (List.forall_mem_cons.mpr ⟨⟨Nat.succ_ne_zero _, fun q hq => by cases hq; exact k_this⟩, (fun _ hq => absurd hq List.not_mem_nil)⟩) ?_
  intro p e s m args below meth c R H locs cells slots ls C hR hZ hl
  obtain ⟨hx, hb, hr, hml, hts, hown, hlocks, hmn, hK⟩ := id C
  unfold f_X11_needCable at hf
  refine lv_iload_n (i := 1) hx hb dX11_needCable_0 rfl (lv_at hl 1 rfl) ?_
  refine lv_if_lt (tgt := 15) hx hb dX11_needCable_1 (by decide) (fun h1 => ?_) (fun h1 => ?_)
  · replace hf := wd_ite_p h1 hf
    exact v_X11_needCable_j15 n C hR w _ _ _ _ _ ⟨hZ.1, hZ.2.1, hZ.2.2.1, hZ.2.2.2.1, (fun _ hq => absurd hq List.not_mem_nil), hZ.2.2.2.2.2⟩ (lv_sub hl [] rfl) hf
  · replace hf := wd_ite_n h1 hf
    refine lv_iload_n (i := 1) hx hb dX11_needCable_4 rfl (lv_at hl 1 rfl) ?_
    refine lv_aload_n (i := 0) hx hb dX11_needCable_5 rfl (lv_at hl 0 rfl) ?_
    refine z_getR (tk := 5) fd_1100 rfl hx hb hts hown hK hZ (hZ.k 0 rfl rfl) tw_306 dX11_needCable_6 ?_; clear hZ; intro hZ
    have hf9 := Option.bind_eq_some_iff.mp hf; clear hf; obtain ⟨a2, ha2, hf⟩ := hf9
    replace hZ := hZ.add (r := some a2) (k := 6) (Nat.succ_ne_zero _) (fun q hq => by cases hq; exact hZ.k 0 rfl ha2)
    rw [ha2]
    refine z_getI fd_501 rfl hx hb hts hown hK hZ (hZ.k 0 rfl rfl) tw_120 dX11_needCable_9 ?_
    refine lv_icmp_lt (tgt := 26) hx hb dX11_needCable_12 (by decide) (fun h3 => ?_) (fun h3 => ?_)
    · replace hf := wd_ite_p h3 hf
      obtain rfl := Option.some.inj hf
      exact z_vret hx hb hr hlocks hZ trivial dX11_needCable_26
    · replace hf := wd_ite_n h3 hf
      exact v_X11_needCable_j15 n C hR w _ _ _ _ _ ⟨hZ.1, hZ.2.1, hZ.2.2.1, hZ.2.2.2.1, (fun _ hq => absurd hq List.not_mem_nil), hZ.2.2.2.2.2⟩ (lv_sub hl [] rfl) hf

def f_X11_setWidth (n : Nat) (w : Wd) (this : Nat) (p0 : Int32) (p1 : Int32) : Option (Int32 × Wd) :=
  Option.bind (f_X11_needCable n w this p0) fun w1 =>
  Option.bind (f_X11_needWidth n w1 p1) fun w3 =>
  Option.bind (wd_R w3 1100 this) fun a5 =>
  wd_b2 (f_X5_changeWidth n w3 a5 p0 p1) fun r8 w6 =>
  some (r8, w6)
set_option maxHeartbeats 4000000 in
set_option maxRecDepth 100000 in
theorem c_X11_setWidth (l : Launch) (E : wd_E) (n : Nat) (w : Wd) (this : Nat) (p0 : Int32) (p1 : Int32) (r' : Int32) (w' : Wd) (k_this : wd_K w this = 12) (hf : f_X11_setWidth n w this p0 p1 = some (r', w')) : wd_C l E yX11_setWidth cX11_setWidth 3 (some .int) 2 44 [.ref this, .int p0, .int p1] w (some (.int r')) w' True := by
  refine wd_ofW (own := RX11) (nm := "setWidth") (ks := [(some this, 12)]) (lv := [(0, .ref this), (1, .int p0), (2, .int p1)]) (by decide) rfl rfl (Nat.le_of_ble_eq_true rfl) rfl (List.forall_mem_cons.mpr ⟨⟨Nat.succ_ne_zero _, fun q hq => by cases hq; exact k_this⟩, (fun _ hq => absurd hq List.not_mem_nil)⟩) ?_
  intro p e s m args below meth c R H locs cells slots ls C hR hZ hl
  obtain ⟨hx, hb, hr, hml, hts, hown, hlocks, hmn, hK⟩ := id C
  unfold f_X11_setWidth at hf
  refine lv_aload_n (i := 0) hx hb dX11_setWidth_0 rfl (lv_at hl 0 rfl) ?_
  refine lv_iload_n (i := 1) hx hb dX11_setWidth_1 rfl (lv_at hl 1 rfl) ?_
  have hf9 := Option.bind_eq_some_iff.mp hf; clear hf; obtain ⟨w1, hc2, hf⟩ := hf9
  refine z_callV (ci := 11) (As := [.int p0]) (rest := []) (c_X11_needCable l E n w this p0 w1 (hZ.k 0 rfl rfl) hc2) mo_X11_needCable rfl (by decide) rfl tw_531 tw_4 tw_529 hx hb hml hts hown hK ⟨Nat.le_trans (by decide) hR.1, Nat.le_trans (by decide) hR.2⟩ hZ (hZ.k 0 rfl rfl) rfl hl.1 rfl (Nat.le_of_ble_eq_true rfl) rfl dX11_setWidth_2 ?_; clear hZ; intro H locs cells slots hX hZ
  refine lv_iload_n (i := 2) hx hb dX11_setWidth_5 rfl (lv_at hl 2 rfl) ?_
  have hf9 := Option.bind_eq_some_iff.mp hf; clear hf; obtain ⟨w3, hc4, hf⟩ := hf9
  refine z_callS (As := [.int p1]) (rest := []) (c_X11_needWidth l E n w1 p1 w3  hc4) mo_X11_needWidth tw_321 tw_320 hx hb hml hts hown hK ⟨Nat.le_trans (by decide) hR.1, Nat.le_trans (by decide) hR.2⟩ hZ rfl hl.1 rfl (Nat.le_of_ble_eq_true rfl) rfl dX11_setWidth_6 ?_; clear hZ; intro H locs cells slots hX hZ
  refine lv_aload_n (i := 0) hx hb dX11_setWidth_9 rfl (lv_at hl 0 rfl) ?_
  refine z_getR (tk := 5) fd_1100 rfl hx hb hts hown hK hZ (hZ.k 0 rfl rfl) tw_306 dX11_setWidth_10 ?_; clear hZ; intro hZ
  refine lv_iload_n (i := 1) hx hb dX11_setWidth_13 rfl (lv_at hl 1 rfl) ?_
  refine lv_iload_n (i := 2) hx hb dX11_setWidth_14 rfl (lv_at hl 2 rfl) ?_
  have hf9 := Option.bind_eq_some_iff.mp hf; clear hf; obtain ⟨a5, ha5, hf⟩ := hf9
  replace hZ := hZ.add (r := some a5) (k := 6) (Nat.succ_ne_zero _) (fun q hq => by cases hq; exact hZ.k 0 rfl ha5)
  rw [ha5]
  have hf9 := wd_b2_e hf; clear hf; obtain ⟨r8, w6, hc7, hf⟩ := hf9
  refine z_callV (ci := 5) (As := [.int p0, .int p1]) (rest := []) (c_X5_changeWidth l E n w3 a5 p0 p1 r8 w6 (hZ.k 0 rfl rfl) hc7) mo_X5_changeWidth rfl (by decide) rfl tw_974 tw_975 tw_973 hx hb hml hts hown hK ⟨Nat.le_trans (by decide) hR.1, Nat.le_trans (by decide) hR.2⟩ hZ (hZ.k 0 rfl rfl) rfl hl.1 rfl (Nat.le_of_ble_eq_true rfl) rfl dX11_setWidth_15 ?_; clear hZ; intro H locs cells slots hX hZ
  obtain ⟨rfl, rfl⟩ := Prod.mk.inj (Option.some.inj hf)
  exact z_iret hx hb hr hlocks hZ trivial dX11_setWidth_18

def f_X11_addMachine (n : Nat) (w : Wd) (this : Nat) (p0 : Int32) : Option (Option Int32 × Wd) :=
  Option.bind (wd_R w 1100 this) fun a1 =>
  wd_b2 (f_X5_putMachine n w a1 p0) fun r4 w2 =>
  if 0 ≤ r4 then
    some (some r4, w2)
  else
    wd_gd (wd_M w2 = 0 ∨ wd_S w2 < 6) <|
    some (none, wd_nw w2 30 0 6)
set_option maxHeartbeats 4000000 in
set_option maxRecDepth 100000 in
theorem c_X11_addMachine (l : Launch) (hst : l.stackTraces = false) (E : wd_E) (n : Nat) (w : Wd) (this : Nat) (p0 : Int32) (o' : Option Int32) (w' : Wd) (k_this : wd_K w this = 12) (hf : f_X11_addMachine n w this p0 = some (o', w')) : wd_CX l E yX11_addMachine cX11_addMachine 3 (some .int) 6 90 [.ref this, .int p0] w o' w' := by
  refine wd_ofX (own := RX11) (nm := "addMachine") (ks := [(some this, 12)]) (lv := [(0, .ref this), (1, .int p0)]) (by decide) rfl rfl (Nat.le_of_ble_eq_true rfl) rfl (List.forall_mem_cons.mpr ⟨⟨Nat.succ_ne_zero _, fun q hq => by cases hq; exact k_this⟩, (fun _ hq => absurd hq List.not_mem_nil)⟩) ?_
  intro p e s m args below meth c R H locs cells slots ls C hR hs0 hout hZ hl
  obtain ⟨hx, hb, hr, hml, hts, hown, hlocks, hmn, hK⟩ := id C
  unfold f_X11_addMachine at hf
  refine lv_aload_n (i := 0) hx hb dX11_addMachine_0 rfl (lv_at hl 0 rfl) ?_
  refine z_getR (tk := 5) fd_1100 rfl hx hb hts hown hK hZ (hZ.k 0 rfl rfl) tw_306 dX11_addMachine_1 ?_; clear hZ; intro hZ
  refine lv_iload_n (i := 1) hx hb dX11_addMachine_4 rfl (lv_at hl 1 rfl) ?_
  have hf9 := Option.bind_eq_some_iff.mp hf; clear hf; obtain ⟨a1, ha1, hf⟩ := hf9
  replace hZ := hZ.add (r := some a1) (k := 6) (Nat.succ_ne_zero _) (fun q hq => by cases hq; exact hZ.k 0 rfl ha1)
  rw [ha1]
  have hf9 := wd_b2_e hf; clear hf; obtain ⟨r4, w2, hc3, hf⟩ := hf9
  refine z_callV (ci := 5) (As := [.int p0]) (rest := []) (c_X5_putMachine l E n w a1 p0 r4 w2 (hZ.k 0 rfl rfl) hc3) mo_X5_putMachine rfl (by decide) rfl tw_416 tw_417 tw_415 hx hb hml hts hown hK ⟨Nat.le_trans (by decide) hR.1, Nat.le_trans (by decide) hR.2⟩ hZ (hZ.k 0 rfl rfl) rfl hl.1 rfl (Nat.le_of_ble_eq_true rfl) rfl dX11_addMachine_5 ?_; clear hZ; intro H locs cells slots hX hZ
  refine lv_istore_n (i := 2) (lv' := [(2, .int r4), (0, .ref this), (1, .int p0)]) hx hb dX11_addMachine_8 rfl hl (by decide) rfl ?_; clear hl; intro ls hl
  refine lv_iload_n (i := 2) hx hb dX11_addMachine_9 rfl (lv_at hl 0 rfl) ?_
  refine lv_if_ge (tgt := 23) hx hb dX11_addMachine_10 (by decide) (fun h5 => ?_) (fun h5 => ?_)
  · replace hf := wd_ite_p h5 hf
    refine lv_iload_n (i := 2) hx hb dX11_addMachine_23 rfl (lv_at hl 0 rfl) ?_
    obtain ⟨rfl, rfl⟩ := Prod.mk.inj (Option.some.inj hf)
    exact z_xret hx hb hr hlocks hZ dX11_addMachine_24
  · replace hf := wd_ite_n h5 hf
    have hf9 := wd_gd_e hf; clear hf; obtain ⟨h6, hf⟩ := hf9
    obtain ⟨rfl, rfl⟩ := Prod.mk.inj (Option.some.inj hf)
    obtain ⟨sa, hsa⟩ := hK.2.2.2.2.2.2.2.1
    exact z_throwS hst hsa hx hb hts wd_atIn wd_atGood hown hK hZ tw_395 tw_41 (hl.1.trans hml.symm) dX11_addMachine_13 dX11_addMachine_16 dX11_addMachine_17 dX11_addMachine_19 dX11_addMachine_22 hout (Nat.le_trans (by decide) hR.1) (Nat.le_trans (by decide) hR.2) (Nat.le_of_ble_eq_true rfl) hlocks (wd_hbase hs0) (wd_hSS hs0 hZ) h6

def f_X11_hostOf_j23 (n : Nat) (y0 : Option Nat) (w : Wd) : Option (Option Nat × Wd) :=
  wd_on y0 (
    none)
    (fun a3 =>
    some ((some a3), w))
def f_X11_hostOf (n : Nat) (w : Wd) (this : Nat) (p0 : Int32) : Option (Option Nat × Wd) :=
  Option.bind (wd_R w 1100 this) fun a1 =>
  if (wd_I w 503 a1) ≤ p0 then
    f_X11_hostOf_j23 n none w
  else
    Option.bind (wd_R w 1101 this) fun a4 =>
    wd_b2 (f_X9_host n w a4 p0) fun r7 w5 =>
    f_X11_hostOf_j23 n r7 w5
set_option maxHeartbeats 4000000 in
set_option maxRecDepth 100000 in
theorem v_X11_hostOf_j23 {p : Program} {l : Launch} {e : Env} {R : Room} {s : State} {m : MethodId} {args : Array Value} {below : List Frame} {meth : Method} {c : Code} {E : wd_E} {w0 : Wd} {r' : Option Nat} {w' : Wd} (n : Nat) (C : wd_X p s m args meth c cX11_hostOf RX11 3 (some (.object "SeamarkNet$Host")) "hostOf" E) (hR : 1 ≤ R.frames ∧ 21 ≤ R.locals) (y0 : Option Nat) (w : Wd) (H : Heap) (locs : List Loc) (cells slots : Nat) (ls : Array Slot) (hZ : wd_Z E w0 R s w H locs cells slots [(y0, 3)]) (hl : lv_has ls 3 []) (hf : f_X11_hostOf_j23 n y0 w = some (r', w')) : W p l e R s m args below meth c H locs cells slots (wd_fin E w0 (some (va_rf r')) w' (∀ q, r' = some q → wd_K w' q = 3) R args s below) (F0 m 23 ls [va_rf y0]) := by
  obtain ⟨hx, hb, hr, hml, hts, hown, hlocks, hmn, hK⟩ := id C
  unfold f_X11_hostOf_j23 at hf
  refine z_astore_n (i := 2) (lv' := [(2, va_rf y0)]) hx hb dX11_hostOf_23 rfl hl (by decide) rfl ?_; clear hl; intro ls hl
  refine z_aload_n (i := 2) hx hb dX11_hostOf_24 rfl (lv_at hl 0 rfl) ?_
  refine z_ifnonnull (tgt := 39) hx hb dX11_hostOf_25 (by decide) (fun a3 ha3 => ?_) (fun hn => ?_)
  · replace hf := wd_on_s ha3 hf
    subst ha3
    replace hl : lv_has ls 3 [(2, .ref a3)] := hl
    replace hZ : wd_Z E w0 R s w H locs cells slots [(some a3, 3)] := hZ
    refine lv_aload_n (i := 2) hx hb dX11_hostOf_39 rfl (lv_at hl 0 rfl) ?_
    obtain ⟨rfl, rfl⟩ := Prod.mk.inj (Option.some.inj hf)
    exact z_aret rfl hx hb hr hlocks hZ (fun q hq => by cases hq; exact (hZ.k 0 rfl rfl)) dX11_hostOf_40
  · replace hf := wd_on_n hn hf
    subst hn
    replace hl : lv_has ls 3 [(2, va_rf none)] := hl
    replace hZ : wd_Z E w0 R s w H locs cells slots [(none, 3)] := hZ
    cases hf

set_option maxHeartbeats 4000000 in
set_option maxRecDepth 100000 in
theorem c_X11_hostOf (l : Launch) (E : wd_E) (n : Nat) (w : Wd) (this : Nat) (p0 : Int32) (r' : Option Nat) (w' : Wd) (k_this : wd_K w this = 12) (hf : f_X11_hostOf n w this p0 = some (r', w')) : wd_C l E yX11_hostOf cX11_hostOf 3 (some (.object "SeamarkNet$Host")) 1 21 [.ref this, .int p0] w (some (va_rf r')) w' (∀ q, r' = some q → wd_K w' q = 3) := by
  refine wd_ofW (own := RX11) (nm := "hostOf") (ks := [(some this, 12)]) (lv := [(0, .ref this), (1, .int p0)]) (by decide) rfl rfl (Nat.le_of_ble_eq_true rfl) rfl (List.forall_mem_cons.mpr ⟨⟨Nat.succ_ne_zero _, fun q hq => by cases hq; exact k_this⟩, (fun _ hq => absurd hq List.not_mem_nil)⟩) ?_
  intro p e s m args below meth c R H locs cells slots ls C hR hZ hl
  obtain ⟨hx, hb, hr, hml, hts, hown, hlocks, hmn, hK⟩ := id C
  unfold f_X11_hostOf at hf
  refine lv_iload_n (i := 1) hx hb dX11_hostOf_0 rfl (lv_at hl 1 rfl) ?_
  refine lv_aload_n (i := 0) hx hb dX11_hostOf_1 rfl (lv_at hl 0 rfl) ?_
  refine z_getR (tk := 5) fd_1100 rfl hx hb hts hown hK hZ (hZ.k 0 rfl rfl) tw_306 dX11_hostOf_2 ?_; clear hZ; intro hZ
  have hf9 := Option.bind_eq_some_iff.mp hf; clear hf; obtain ⟨a1, ha1, hf⟩ := hf9
  replace hZ := hZ.add (r := some a1) (k := 6) (Nat.succ_ne_zero _) (fun q hq => by cases hq; exact hZ.k 0 rfl ha1)
  rw [ha1]
  refine z_getI fd_503 rfl hx hb hts hown hK hZ (hZ.k 0 rfl rfl) tw_124 dX11_hostOf_5 ?_
  refine lv_icmp_ge (tgt := 22) hx hb dX11_hostOf_8 (by decide) (fun h2 => ?_) (fun h2 => ?_)
  · replace hf := wd_ite_p h2 hf
    refine z_null hx hb dX11_hostOf_22 ?_
    exact v_X11_hostOf_j23 n C hR none w _ _ _ _ _ ⟨hZ.1, hZ.2.1, hZ.2.2.1, hZ.2.2.2.1, (List.forall_mem_cons.mpr ⟨⟨Nat.succ_ne_zero _, (fun q hq => by cases hq)⟩, (fun _ hq => absurd hq List.not_mem_nil)⟩), hZ.2.2.2.2.2⟩ (lv_sub hl [] rfl) hf
  · replace hf := wd_ite_n h2 hf
    refine lv_aload_n (i := 0) hx hb dX11_hostOf_11 rfl (lv_at hl 0 rfl) ?_
    refine z_getR (tk := 9) fd_1101 rfl hx hb hts hown hK hZ (hZ.k 2 rfl rfl) tw_307 dX11_hostOf_12 ?_; clear hZ; intro hZ
    refine lv_iload_n (i := 1) hx hb dX11_hostOf_15 rfl (lv_at hl 1 rfl) ?_
    have hf9 := Option.bind_eq_some_iff.mp hf; clear hf; obtain ⟨a4, ha4, hf⟩ := hf9
    replace hZ := hZ.add (r := some a4) (k := 10) (Nat.succ_ne_zero _) (fun q hq => by cases hq; exact hZ.k 0 rfl ha4)
    rw [ha4]
    have hf9 := wd_b2_e hf; clear hf; obtain ⟨r7, w5, hc6, hf⟩ := hf9
    refine z_callV (ci := 9) (As := [.int p0]) (rest := []) (c_X9_host l E n w a4 p0 r7 w5 (hZ.k 0 rfl rfl) hc6) mo_X9_host rfl (by decide) rfl tw_451 tw_452 tw_450 hx hb hml hts hown hK ⟨Nat.le_trans (by decide) hR.1, Nat.le_trans (by decide) hR.2⟩ hZ (hZ.k 0 rfl rfl) rfl hl.1 rfl (Nat.le_of_ble_eq_true rfl) rfl dX11_hostOf_16 ?_; clear hZ; intro H locs cells slots hX hZ
    replace hZ := hZ.add (Nat.succ_ne_zero _) hX
    refine lv_goto (tgt := 23) hx hb dX11_hostOf_19 (by decide) ?_
    exact v_X11_hostOf_j23 n C hR r7 w5 _ _ _ _ _ ⟨hZ.1, hZ.2.1, hZ.2.2.1, hZ.2.2.2.1, (List.forall_mem_cons.mpr ⟨⟨Nat.succ_ne_zero _, (fun q hq => hZ.k 0 rfl hq)⟩, (fun _ hq => absurd hq List.not_mem_nil)⟩), hZ.2.2.2.2.2⟩ (lv_sub hl [] rfl) hf

def f_X11_needAddress_j11 (n : Nat) (w : Wd) : Option Wd :=
  none
def f_X11_needAddress (n : Nat) (w : Wd) (p0 : Int32) : Option Wd :=
  if p0 < 0 then
    f_X11_needAddress_j11 n w
  else
    if p0 < (256 : Int32) then
      some w
    else
      f_X11_needAddress_j11 n w
set_option maxHeartbeats 4000000 in
set_option maxRecDepth 100000 in
theorem v_X11_needAddress_j11 {p : Program} {l : Launch} {e : Env} {R : Room} {s : State} {m : MethodId} {args : Array Value} {below : List Frame} {meth : Method} {c : Code} {E : wd_E} {w0 : Wd} {w' : Wd} (n : Nat) (C : wd_X p s m args meth c cX11_needAddress RX11 1 none "needAddress" E) (hR : 0 ≤ R.frames ∧ 0 ≤ R.locals) (w : Wd) (H : Heap) (locs : List Loc) (cells slots : Nat) (ls : Array Slot) (hZ : wd_Z E w0 R s w H locs cells slots []) (hl : lv_has ls 1 []) (hf : f_X11_needAddress_j11 n w = some w') : W p l e R s m args below meth c H locs cells slots (wd_fin E w0 none w' True R args s below) (F0 m 11 ls []) := by
  obtain ⟨hx, hb, hr, hml, hts, hown, hlocks, hmn, hK⟩ := id C
  unfold f_X11_needAddress_j11 at hf
  cases hf

set_option maxHeartbeats 4000000 in
set_option maxRecDepth 100000 in
theorem c_X11_needAddress (l : Launch) (E : wd_E) (n : Nat) (w : Wd) (p0 : Int32) (w' : Wd)  (hf : f_X11_needAddress n w p0 = some w') : wd_C l E yX11_needAddress cX11_needAddress 1 none 0 0 [.int p0] w none w' True := by
  refine wd_ofW (own := RX11) (nm := "needAddress") (ks := []) (lv := [(0, .int p0)]) (by decide) rfl rfl (Nat.le_of_ble_eq_true rfl) rfl (fun _ hq => absurd hq List.not_mem_nil) ?_
  intro p e s m args below meth c R H locs cells slots ls C hR hZ hl
  obtain ⟨hx, hb, hr, hml, hts, hown, hlocks, hmn, hK⟩ := id C
  unfold f_X11_needAddress at hf
  refine lv_iload_n (i := 0) hx hb dX11_needAddress_0 rfl (lv_at hl 0 rfl) ?_
  refine lv_if_lt (tgt := 11) hx hb dX11_needAddress_1 (by decide) (fun h1 => ?_) (fun h1 => ?_)
  · replace hf := wd_ite_p h1 hf
    exact v_X11_needAddress_j11 n C hR w _ _ _ _ _ ⟨hZ.1, hZ.2.1, hZ.2.2.1, hZ.2.2.2.1, (fun _ hq => absurd hq List.not_mem_nil), hZ.2.2.2.2.2⟩ (lv_sub hl [] rfl) hf
  · replace hf := wd_ite_n h1 hf
    refine lv_iload_n (i := 0) hx hb dX11_needAddress_4 rfl (lv_at hl 0 rfl) ?_
    refine lv_sipush (v := 256) hx hb dX11_needAddress_5 (by decide) ?_
    refine lv_icmp_lt (tgt := 22) hx hb dX11_needAddress_8 (by decide) (fun h2 => ?_) (fun h2 => ?_)
    · replace hf := wd_ite_p h2 hf
      obtain rfl := Option.some.inj hf
      exact z_vret hx hb hr hlocks hZ trivial dX11_needAddress_22
    · replace hf := wd_ite_n h2 hf
      exact v_X11_needAddress_j11 n C hR w _ _ _ _ _ ⟨hZ.1, hZ.2.1, hZ.2.2.1, hZ.2.2.2.1, (fun _ hq => absurd hq List.not_mem_nil), hZ.2.2.2.2.2⟩ (lv_sub hl [] rfl) hf

def f_X11_needLength_j10 (n : Nat) (w : Wd) : Option Wd :=
  none
def f_X11_needLength (n : Nat) (w : Wd) (p0 : Int32) : Option Wd :=
  if p0 < 0 then
    f_X11_needLength_j10 n w
  else
    if p0 ≤ (8 : Int32) then
      some w
    else
      f_X11_needLength_j10 n w
set_option maxHeartbeats 4000000 in
set_option maxRecDepth 100000 in
theorem v_X11_needLength_j10 {p : Program} {l : Launch} {e : Env} {R : Room} {s : State} {m : MethodId} {args : Array Value} {below : List Frame} {meth : Method} {c : Code} {E : wd_E} {w0 : Wd} {w' : Wd} (n : Nat) (C : wd_X p s m args meth c cX11_needLength RX11 1 none "needLength" E) (hR : 0 ≤ R.frames ∧ 0 ≤ R.locals) (w : Wd) (H : Heap) (locs : List Loc) (cells slots : Nat) (ls : Array Slot) (hZ : wd_Z E w0 R s w H locs cells slots []) (hl : lv_has ls 1 []) (hf : f_X11_needLength_j10 n w = some w') : W p l e R s m args below meth c H locs cells slots (wd_fin E w0 none w' True R args s below) (F0 m 10 ls []) := by
  obtain ⟨hx, hb, hr, hml, hts, hown, hlocks, hmn, hK⟩ := id C
  unfold f_X11_needLength_j10 at hf
  cases hf

set_option maxHeartbeats 4000000 in
set_option maxRecDepth 100000 in
theorem c_X11_needLength (l : Launch) (E : wd_E) (n : Nat) (w : Wd) (p0 : Int32) (w' : Wd)  (hf : f_X11_needLength n w p0 = some w') : wd_C l E yX11_needLength cX11_needLength 1 none 0 0 [.int p0] w none w' True := by
  refine wd_ofW (own := RX11) (nm := "needLength") (ks := []) (lv := [(0, .int p0)]) (by decide) rfl rfl (Nat.le_of_ble_eq_true rfl) rfl (fun _ hq => absurd hq List.not_mem_nil) ?_
  intro p e s m args below meth c R H locs cells slots ls C hR hZ hl
  obtain ⟨hx, hb, hr, hml, hts, hown, hlocks, hmn, hK⟩ := id C
  unfold f_X11_needLength at hf
  refine lv_iload_n (i := 0) hx hb dX11_needLength_0 rfl (lv_at hl 0 rfl) ?_
  refine lv_if_lt (tgt := 10) hx hb dX11_needLength_1 (by decide) (fun h1 => ?_) (fun h1 => ?_)
  · replace hf := wd_ite_p h1 hf
    exact v_X11_needLength_j10 n C hR w _ _ _ _ _ ⟨hZ.1, hZ.2.1, hZ.2.2.1, hZ.2.2.2.1, (fun _ hq => absurd hq List.not_mem_nil), hZ.2.2.2.2.2⟩ (lv_sub hl [] rfl) hf
  · replace hf := wd_ite_n h1 hf
    refine lv_iload_n (i := 0) hx hb dX11_needLength_4 rfl (lv_at hl 0 rfl) ?_
    refine lv_bipush (v := 8) hx hb dX11_needLength_5 (by decide) ?_
    refine lv_icmp_le (tgt := 21) hx hb dX11_needLength_7 (by decide) (fun h2 => ?_) (fun h2 => ?_)
    · replace hf := wd_ite_p h2 hf
      obtain rfl := Option.some.inj hf
      exact z_vret hx hb hr hlocks hZ trivial dX11_needLength_21
    · replace hf := wd_ite_n h2 hf
      exact v_X11_needLength_j10 n C hR w _ _ _ _ _ ⟨hZ.1, hZ.2.1, hZ.2.2.1, hZ.2.2.2.1, (fun _ hq => absurd hq List.not_mem_nil), hZ.2.2.2.2.2⟩ (lv_sub hl [] rfl) hf

def f_X11_addPort (n : Nat) (w : Wd) (this : Nat) (p0 : Int32) (p1 : Int32) (p2 : Int32) (p3 : Int32) : Option (Option Int32 × Wd) :=
  wd_b2 (f_X11_hostOf n w this p0) fun r3 w1 =>
  Option.bind r3 fun a4 =>
  wd_let (wd_R w1 200 a4) fun v5 =>
  Option.bind (f_X11_needCable n w1 this p1) fun w7 =>
  Option.bind (f_X11_needAddress n w7 p2) fun w9 =>
  Option.bind (f_X11_needLength n w9 p3) fun w11 =>
  Option.bind (wd_R w11 1100 this) fun a13 =>
  wd_b2 (f_X5_putPort n w11 a13 v5 p1 p2 p3) fun r16 w14 =>
  wd_on r16 (
    wd_gd (wd_M w14 = 0 ∨ wd_S w14 < 6) <|
    some (none, wd_nw w14 30 0 6))
    (fun a17 =>
    some (some (wd_I w14 700 a17), w14))
set_option maxHeartbeats 4000000 in
set_option maxRecDepth 100000 in
theorem c_X11_addPort (l : Launch) (hst : l.stackTraces = false) (E : wd_E) (n : Nat) (w : Wd) (this : Nat) (p0 : Int32) (p1 : Int32) (p2 : Int32) (p3 : Int32) (o' : Option Int32) (w' : Wd) (k_this : wd_K w this = 12) (hf : f_X11_addPort n w this p0 p1 p2 p3 = some (o', w')) : wd_CX l E yX11_addPort cX11_addPort 7 (some .int) 6 145 [.ref this, .int p0, .int p1, .int p2, .int p3] w o' w' := by
  refine wd_ofX (own := RX11) (nm := "addPort") (ks := [(some this, 12)]) (lv := [(0, .ref this), (1, .int p0), (2, .int p1), (3, .int p2), (4, .int p3)]) (by decide) rfl rfl (Nat.le_of_ble_eq_true rfl) rfl (List.forall_mem_cons.mpr ⟨⟨Nat.succ_ne_zero _, fun q hq => by cases hq; exact k_this⟩, (fun _ hq => absurd hq List.not_mem_nil)⟩) ?_
  intro p e s m args below meth c R H locs cells slots ls C hR hs0 hout hZ hl
  obtain ⟨hx, hb, hr, hml, hts, hown, hlocks, hmn, hK⟩ := id C
  unfold f_X11_addPort at hf
  refine lv_aload_n (i := 0) hx hb dX11_addPort_0 rfl (lv_at hl 0 rfl) ?_
  refine lv_iload_n (i := 1) hx hb dX11_addPort_1 rfl (lv_at hl 1 rfl) ?_
  have hf9 := wd_b2_e hf; clear hf; obtain ⟨r3, w1, hc2, hf⟩ := hf9
  refine z_callV (ci := 11) (As := [.int p0]) (rest := []) (c_X11_hostOf l E n w this p0 r3 w1 (hZ.k 0 rfl rfl) hc2) mo_X11_hostOf rfl (by decide) rfl tw_448 tw_2 tw_446 hx hb hml hts hown hK ⟨Nat.le_trans (by decide) hR.1, Nat.le_trans (by decide) hR.2⟩ hZ (hZ.k 0 rfl rfl) rfl hl.1 rfl (Nat.le_of_ble_eq_true rfl) rfl dX11_addPort_2 ?_; clear hZ; intro H locs cells slots hX hZ
  replace hZ := hZ.add (Nat.succ_ne_zero _) hX
  have hf9 := Option.bind_eq_some_iff.mp hf; clear hf; obtain ⟨a4, ha4, hf⟩ := hf9
  subst ha4
  replace hl : lv_has ls 7 [(0, .ref this), (1, .int p0), (2, .int p1), (3, .int p2), (4, .int p3)] := hl
  replace hZ : wd_Z E w R s w1 H locs cells slots [(some a4, 3), (some this, 12)] := hZ
  refine z_getR (tk := 3) fd_200 rfl hx hb hts hown hK hZ (hZ.k 0 rfl rfl) tw_205 dX11_addPort_5 ?_; clear hZ; intro hZ
  have hf9 := wd_let_e hf; clear hf; obtain ⟨v5, e6, hf⟩ := hf9
  rw [e6]
  rw [e6] at hZ
  refine z_astore (i := 5) (lv' := [(5, va_rf v5), (0, .ref this), (1, .int p0), (2, .int p1), (3, .int p2), (4, .int p3)]) hx hb dX11_addPort_8 hl (by decide) rfl ?_; clear hl; intro ls hl
  refine lv_aload_n (i := 0) hx hb dX11_addPort_10 rfl (lv_at hl 1 rfl) ?_
  refine lv_iload_n (i := 2) hx hb dX11_addPort_11 rfl (lv_at hl 3 rfl) ?_
  have hf9 := Option.bind_eq_some_iff.mp hf; clear hf; obtain ⟨w7, hc8, hf⟩ := hf9
  refine z_callV (ci := 11) (As := [.int p1]) (rest := []) (c_X11_needCable l E n w1 this p1 w7 (hZ.k 2 rfl rfl) hc8) mo_X11_needCable rfl (by decide) rfl tw_531 tw_4 tw_529 hx hb hml hts hown hK ⟨Nat.le_trans (by decide) hR.1, Nat.le_trans (by decide) hR.2⟩ hZ (hZ.k 2 rfl rfl) rfl hl.1 rfl (Nat.le_of_ble_eq_true rfl) rfl dX11_addPort_12 ?_; clear hZ; intro H locs cells slots hX hZ
  refine lv_iload_n (i := 3) hx hb dX11_addPort_15 rfl (lv_at hl 4 rfl) ?_
  have hf9 := Option.bind_eq_some_iff.mp hf; clear hf; obtain ⟨w9, hc10, hf⟩ := hf9
  refine z_callS (As := [.int p2]) (rest := []) (c_X11_needAddress l E n w7 p2 w9  hc10) mo_X11_needAddress tw_535 tw_534 hx hb hml hts hown hK ⟨Nat.le_trans (by decide) hR.1, Nat.le_trans (by decide) hR.2⟩ hZ rfl hl.1 rfl (Nat.le_of_ble_eq_true rfl) rfl dX11_addPort_16 ?_; clear hZ; intro H locs cells slots hX hZ
  refine lv_iload hx hb dX11_addPort_19 (lv_at hl 5 rfl) ?_
  have hf9 := Option.bind_eq_some_iff.mp hf; clear hf; obtain ⟨w11, hc12, hf⟩ := hf9
  refine z_callS (As := [.int p3]) (rest := []) (c_X11_needLength l E n w9 p3 w11  hc12) mo_X11_needLength tw_539 tw_538 hx hb hml hts hown hK ⟨Nat.le_trans (by decide) hR.1, Nat.le_trans (by decide) hR.2⟩ hZ rfl hl.1 rfl (Nat.le_of_ble_eq_true rfl) rfl dX11_addPort_21 ?_; clear hZ; intro H locs cells slots hX hZ
  refine lv_aload_n (i := 0) hx hb dX11_addPort_24 rfl (lv_at hl 1 rfl) ?_
  refine z_getR (tk := 5) fd_1100 rfl hx hb hts hown hK hZ (hZ.k 2 rfl rfl) tw_306 dX11_addPort_25 ?_; clear hZ; intro hZ
  refine z_aload hx hb dX11_addPort_28 (lv_at hl 0 rfl) ?_
  refine lv_iload_n (i := 2) hx hb dX11_addPort_30 rfl (lv_at hl 3 rfl) ?_
  refine lv_iload_n (i := 3) hx hb dX11_addPort_31 rfl (lv_at hl 4 rfl) ?_
  refine lv_iload hx hb dX11_addPort_32 (lv_at hl 5 rfl) ?_
  have hf9 := Option.bind_eq_some_iff.mp hf; clear hf; obtain ⟨a13, ha13, hf⟩ := hf9
  replace hZ := hZ.add (r := some a13) (k := 6) (Nat.succ_ne_zero _) (fun q hq => by cases hq; exact hZ.k 0 rfl ha13)
  rw [ha13]
  have hf9 := wd_b2_e hf; clear hf; obtain ⟨r16, w14, hc15, hf⟩ := hf9
  refine z_callV (ci := 5) (As := [va_rf v5, .int p1, .int p2, .int p3]) (rest := []) (c_X5_putPort l E n w11 a13 v5 p1 p2 p3 r16 w14 (hZ.k 0 rfl rfl) (fun q hq => hZ.k 2 rfl hq) hc15) mo_X5_putPort rfl (by decide) rfl tw_543 tw_544 tw_542 hx hb hml hts hown hK ⟨Nat.le_trans (by decide) hR.1, Nat.le_trans (by decide) hR.2⟩ hZ (hZ.k 0 rfl rfl) rfl hl.1 rfl (Nat.le_of_ble_eq_true rfl) rfl dX11_addPort_34 ?_; clear hZ; intro H locs cells slots hX hZ
  replace hZ := hZ.add (Nat.succ_ne_zero _) hX
  refine z_astore (i := 6) (lv' := [(6, va_rf r16), (5, va_rf v5), (0, .ref this), (1, .int p0), (2, .int p1), (3, .int p2), (4, .int p3)]) hx hb dX11_addPort_37 hl (by decide) (by simp [va_rf_cat, va_cat_r, va_cat_i, va_cat_l, va_cat_d]) ?_; clear hl; intro ls hl
  refine z_aload hx hb dX11_addPort_39 (lv_at hl 0 rfl) ?_
  refine z_ifnonnull (tgt := 54) hx hb dX11_addPort_41 (by decide) (fun a17 ha17 => ?_) (fun hn => ?_)
  · replace hf := wd_on_s ha17 hf
    subst ha17
    replace hl : lv_has ls 7 [(6, .ref a17), (5, va_rf v5), (0, .ref this), (1, .int p0), (2, .int p1), (3, .int p2), (4, .int p3)] := hl
    replace hZ : wd_Z E w R s w14 H locs cells slots [(some a17, 8), (some a13, 6), ((wd_R w11 1100 this), 6), (v5, 4), (some a4, 3), (some this, 12)] := hZ
    refine lv_aload hx hb dX11_addPort_54 (lv_at hl 0 rfl) ?_
    refine z_getI fd_700 rfl hx hb hts hown hK hZ (hZ.k 0 rfl rfl) tw_561 dX11_addPort_56 ?_
    obtain ⟨rfl, rfl⟩ := Prod.mk.inj (Option.some.inj hf)
    exact z_xret hx hb hr hlocks hZ dX11_addPort_59
  · replace hf := wd_on_n hn hf
    subst hn
    replace hl : lv_has ls 7 [(6, va_rf none), (5, va_rf v5), (0, .ref this), (1, .int p0), (2, .int p1), (3, .int p2), (4, .int p3)] := hl
    replace hZ : wd_Z E w R s w14 H locs cells slots [(none, 8), (some a13, 6), ((wd_R w11 1100 this), 6), (v5, 4), (some a4, 3), (some this, 12)] := hZ
    have hf9 := wd_gd_e hf; clear hf; obtain ⟨h18, hf⟩ := hf9
    obtain ⟨rfl, rfl⟩ := Prod.mk.inj (Option.some.inj hf)
    obtain ⟨sa, hsa⟩ := hK.2.2.2.2.2.2.2.2.1
    exact z_throwS hst hsa hx hb hts wd_atIn wd_atGood hown hK hZ tw_395 tw_41 (hl.1.trans hml.symm) dX11_addPort_44 dX11_addPort_47 dX11_addPort_48 dX11_addPort_50 dX11_addPort_53 hout (Nat.le_trans (by decide) hR.1) (Nat.le_trans (by decide) hR.2) (Nat.le_of_ble_eq_true rfl) hlocks (wd_hbase hs0) (wd_hSS hs0 hZ) h18

def f_X11_addTunnel (n : Nat) (w : Wd) (this : Nat) (p0 : Int32) (p1 : Int32) : Option (Option Int32 × Wd) :=
  wd_b2 (f_X11_hostOf n w this p0) fun r3 w1 =>
  Option.bind r3 fun a4 =>
  wd_let (wd_R w1 200 a4) fun v5 =>
  Option.bind (f_X11_needAddress n w1 p1) fun w7 =>
  Option.bind v5 fun a9 =>
  wd_b2 (f_X3_putTunnel n w7 a9 p1) fun r12 w10 =>
  if 0 ≤ r12 then
    some (some r12, w10)
  else
    wd_gd (wd_M w10 = 0 ∨ wd_S w10 < 6) <|
    some (none, wd_nw w10 30 0 6)
set_option maxHeartbeats 4000000 in
set_option maxRecDepth 100000 in
theorem c_X11_addTunnel (l : Launch) (hst : l.stackTraces = false) (E : wd_E) (n : Nat) (w : Wd) (this : Nat) (p0 : Int32) (p1 : Int32) (o' : Option Int32) (w' : Wd) (k_this : wd_K w this = 12) (hf : f_X11_addTunnel n w this p0 p1 = some (o', w')) : wd_CX l E yX11_addTunnel cX11_addTunnel 5 (some .int) 6 90 [.ref this, .int p0, .int p1] w o' w' := by
  refine wd_ofX (own := RX11) (nm := "addTunnel") (ks := [(some this, 12)]) (lv := [(0, .ref this), (1, .int p0), (2, .int p1)]) (by decide) rfl rfl (Nat.le_of_ble_eq_true rfl) rfl (List.forall_mem_cons.mpr ⟨⟨Nat.succ_ne_zero _, fun q hq => by cases hq; exact k_this⟩, (fun _ hq => absurd hq List.not_mem_nil)⟩) ?_
  intro p e s m args below meth c R H locs cells slots ls C hR hs0 hout hZ hl
  obtain ⟨hx, hb, hr, hml, hts, hown, hlocks, hmn, hK⟩ := id C
  unfold f_X11_addTunnel at hf
  refine lv_aload_n (i := 0) hx hb dX11_addTunnel_0 rfl (lv_at hl 0 rfl) ?_
  refine lv_iload_n (i := 1) hx hb dX11_addTunnel_1 rfl (lv_at hl 1 rfl) ?_
  have hf9 := wd_b2_e hf; clear hf; obtain ⟨r3, w1, hc2, hf⟩ := hf9
  refine z_callV (ci := 11) (As := [.int p0]) (rest := []) (c_X11_hostOf l E n w this p0 r3 w1 (hZ.k 0 rfl rfl) hc2) mo_X11_hostOf rfl (by decide) rfl tw_448 tw_2 tw_446 hx hb hml hts hown hK ⟨Nat.le_trans (by decide) hR.1, Nat.le_trans (by decide) hR.2⟩ hZ (hZ.k 0 rfl rfl) rfl hl.1 rfl (Nat.le_of_ble_eq_true rfl) rfl dX11_addTunnel_2 ?_; clear hZ; intro H locs cells slots hX hZ
  replace hZ := hZ.add (Nat.succ_ne_zero _) hX
  have hf9 := Option.bind_eq_some_iff.mp hf; clear hf; obtain ⟨a4, ha4, hf⟩ := hf9
  subst ha4
  replace hl : lv_has ls 5 [(0, .ref this), (1, .int p0), (2, .int p1)] := hl
  replace hZ : wd_Z E w R s w1 H locs cells slots [(some a4, 3), (some this, 12)] := hZ
  refine z_getR (tk := 3) fd_200 rfl hx hb hts hown hK hZ (hZ.k 0 rfl rfl) tw_205 dX11_addTunnel_5 ?_; clear hZ; intro hZ
  have hf9 := wd_let_e hf; clear hf; obtain ⟨v5, e6, hf⟩ := hf9
  rw [e6]
  rw [e6] at hZ
  refine z_astore_n (i := 3) (lv' := [(3, va_rf v5), (0, .ref this), (1, .int p0), (2, .int p1)]) hx hb dX11_addTunnel_8 rfl hl (by decide) rfl ?_; clear hl; intro ls hl
  refine lv_iload_n (i := 2) hx hb dX11_addTunnel_9 rfl (lv_at hl 3 rfl) ?_
  have hf9 := Option.bind_eq_some_iff.mp hf; clear hf; obtain ⟨w7, hc8, hf⟩ := hf9
  refine z_callS (As := [.int p1]) (rest := []) (c_X11_needAddress l E n w1 p1 w7  hc8) mo_X11_needAddress tw_535 tw_534 hx hb hml hts hown hK ⟨Nat.le_trans (by decide) hR.1, Nat.le_trans (by decide) hR.2⟩ hZ rfl hl.1 rfl (Nat.le_of_ble_eq_true rfl) rfl dX11_addTunnel_10 ?_; clear hZ; intro H locs cells slots hX hZ
  refine z_aload_n (i := 3) hx hb dX11_addTunnel_13 rfl (lv_at hl 0 rfl) ?_
  refine lv_iload_n (i := 2) hx hb dX11_addTunnel_14 rfl (lv_at hl 3 rfl) ?_
  have hf9 := Option.bind_eq_some_iff.mp hf; clear hf; obtain ⟨a9, ha9, hf⟩ := hf9
  subst ha9
  replace hl : lv_has ls 5 [(3, .ref a9), (0, .ref this), (1, .int p0), (2, .int p1)] := hl
  replace hZ : wd_Z E w R s w7 H locs cells slots [(some a9, 4), (some a4, 3), (some this, 12)] := hZ
  have hf9 := wd_b2_e hf; clear hf; obtain ⟨r12, w10, hc11, hf⟩ := hf9
  refine z_callV (ci := 3) (As := [.int p1]) (rest := []) (c_X3_putTunnel l E n w7 a9 p1 r12 w10 (hZ.k 0 rfl rfl) hc11) mo_X3_putTunnel rfl (by decide) rfl tw_628 tw_629 tw_627 hx hb hml hts hown hK ⟨Nat.le_trans (by decide) hR.1, Nat.le_trans (by decide) hR.2⟩ hZ (hZ.k 0 rfl rfl) rfl hl.1 rfl (Nat.le_of_ble_eq_true rfl) rfl dX11_addTunnel_15 ?_; clear hZ; intro H locs cells slots hX hZ
  refine lv_istore (i := 4) (lv' := [(4, .int r12), (3, .ref a9), (0, .ref this), (1, .int p0), (2, .int p1)]) hx hb dX11_addTunnel_18 hl (by decide) rfl ?_; clear hl; intro ls hl
  refine lv_iload hx hb dX11_addTunnel_20 (lv_at hl 0 rfl) ?_
  refine lv_if_ge (tgt := 35) hx hb dX11_addTunnel_22 (by decide) (fun h13 => ?_) (fun h13 => ?_)
  · replace hf := wd_ite_p h13 hf
    refine lv_iload hx hb dX11_addTunnel_35 (lv_at hl 0 rfl) ?_
    obtain ⟨rfl, rfl⟩ := Prod.mk.inj (Option.some.inj hf)
    exact z_xret hx hb hr hlocks hZ dX11_addTunnel_37
  · replace hf := wd_ite_n h13 hf
    have hf9 := wd_gd_e hf; clear hf; obtain ⟨h14, hf⟩ := hf9
    obtain ⟨rfl, rfl⟩ := Prod.mk.inj (Option.some.inj hf)
    obtain ⟨sa, hsa⟩ := hK.2.2.2.2.2.2.2.2.2.1
    exact z_throwS hst hsa hx hb hts wd_atIn wd_atGood hown hK hZ tw_395 tw_41 (hl.1.trans hml.symm) dX11_addTunnel_25 dX11_addTunnel_28 dX11_addTunnel_29 dX11_addTunnel_31 dX11_addTunnel_34 hout (Nat.le_trans (by decide) hR.1) (Nat.le_trans (by decide) hR.2) (Nat.le_of_ble_eq_true rfl) hlocks (wd_hbase hs0) (wd_hSS hs0 hZ) h14

def f_X11_addRoute (n : Nat) (w : Wd) (this : Nat) (p0 : Int32) (p1 : Int32) (p2 : Int32) (p3 : Int32) : Option (Option Int32 × Wd) :=
  wd_b2 (f_X11_hostOf n w this p0) fun r3 w1 =>
  Option.bind r3 fun a4 =>
  wd_let (wd_R w1 200 a4) fun v5 =>
  Option.bind (f_X11_needAddress n w1 p1) fun w7 =>
  Option.bind (f_X11_needLength n w7 p2) fun w9 =>
  Option.bind v5 fun a11 =>
  wd_b2 (f_X3_mayLeadVia n w9 a11 p3) fun r14 w12 =>
  if r14 = 0 then
    none
  else
    wd_b2 (f_X3_putRoute n w12 a11 p1 p2 p3) fun r18 w16 =>
    if 0 ≤ r18 then
      some (some r18, w16)
    else
      wd_gd (wd_M w16 = 0 ∨ wd_S w16 < 6) <|
      some (none, wd_nw w16 30 0 6)
set_option maxHeartbeats 4000000 in
set_option maxRecDepth 100000 in
theorem c_X11_addRoute (l : Launch) (hst : l.stackTraces = false) (E : wd_E) (n : Nat) (w : Wd) (this : Nat) (p0 : Int32) (p1 : Int32) (p2 : Int32) (p3 : Int32) (o' : Option Int32) (w' : Wd) (k_this : wd_K w this = 12) (hf : f_X11_addRoute n w this p0 p1 p2 p3 = some (o', w')) : wd_CX l E yX11_addRoute cX11_addRoute 7 (some .int) 6 119 [.ref this, .int p0, .int p1, .int p2, .int p3] w o' w' := by
  refine wd_ofX (own := RX11) (nm := "addRoute") (ks := [(some this, 12)]) (lv := [(0, .ref this), (1, .int p0), (2, .int p1), (3, .int p2), (4, .int p3)]) (by decide) rfl rfl (Nat.le_of_ble_eq_true rfl) rfl (List.forall_mem_cons.mpr ⟨⟨Nat.succ_ne_zero _, fun q hq => by cases hq; exact k_this⟩, (fun _ hq => absurd hq List.not_mem_nil)⟩) ?_
  intro p e s m args below meth c R H locs cells slots ls C hR hs0 hout hZ hl
  obtain ⟨hx, hb, hr, hml, hts, hown, hlocks, hmn, hK⟩ := id C
  unfold f_X11_addRoute at hf
  refine lv_aload_n (i := 0) hx hb dX11_addRoute_0 rfl (lv_at hl 0 rfl) ?_
  refine lv_iload_n (i := 1) hx hb dX11_addRoute_1 rfl (lv_at hl 1 rfl) ?_
  have hf9 := wd_b2_e hf; clear hf; obtain ⟨r3, w1, hc2, hf⟩ := hf9
  refine z_callV (ci := 11) (As := [.int p0]) (rest := []) (c_X11_hostOf l E n w this p0 r3 w1 (hZ.k 0 rfl rfl) hc2) mo_X11_hostOf rfl (by decide) rfl tw_448 tw_2 tw_446 hx hb hml hts hown hK ⟨Nat.le_trans (by decide) hR.1, Nat.le_trans (by decide) hR.2⟩ hZ (hZ.k 0 rfl rfl) rfl hl.1 rfl (Nat.le_of_ble_eq_true rfl) rfl dX11_addRoute_2 ?_; clear hZ; intro H locs cells slots hX hZ
  replace hZ := hZ.add (Nat.succ_ne_zero _) hX
  have hf9 := Option.bind_eq_some_iff.mp hf; clear hf; obtain ⟨a4, ha4, hf⟩ := hf9
  subst ha4
  replace hl : lv_has ls 7 [(0, .ref this), (1, .int p0), (2, .int p1), (3, .int p2), (4, .int p3)] := hl
  replace hZ : wd_Z E w R s w1 H locs cells slots [(some a4, 3), (some this, 12)] := hZ
  refine z_getR (tk := 3) fd_200 rfl hx hb hts hown hK hZ (hZ.k 0 rfl rfl) tw_205 dX11_addRoute_5 ?_; clear hZ; intro hZ
  have hf9 := wd_let_e hf; clear hf; obtain ⟨v5, e6, hf⟩ := hf9
  rw [e6]
  rw [e6] at hZ
  refine z_astore (i := 5) (lv' := [(5, va_rf v5), (0, .ref this), (1, .int p0), (2, .int p1), (3, .int p2), (4, .int p3)]) hx hb dX11_addRoute_8 hl (by decide) rfl ?_; clear hl; intro ls hl
  refine lv_iload_n (i := 2) hx hb dX11_addRoute_10 rfl (lv_at hl 3 rfl) ?_
  have hf9 := Option.bind_eq_some_iff.mp hf; clear hf; obtain ⟨w7, hc8, hf⟩ := hf9
  refine z_callS (As := [.int p1]) (rest := []) (c_X11_needAddress l E n w1 p1 w7  hc8) mo_X11_needAddress tw_535 tw_534 hx hb hml hts hown hK ⟨Nat.le_trans (by decide) hR.1, Nat.le_trans (by decide) hR.2⟩ hZ rfl hl.1 rfl (Nat.le_of_ble_eq_true rfl) rfl dX11_addRoute_11 ?_; clear hZ; intro H locs cells slots hX hZ
  refine lv_iload_n (i := 3) hx hb dX11_addRoute_14 rfl (lv_at hl 4 rfl) ?_
  have hf9 := Option.bind_eq_some_iff.mp hf; clear hf; obtain ⟨w9, hc10, hf⟩ := hf9
  refine z_callS (As := [.int p2]) (rest := []) (c_X11_needLength l E n w7 p2 w9  hc10) mo_X11_needLength tw_539 tw_538 hx hb hml hts hown hK ⟨Nat.le_trans (by decide) hR.1, Nat.le_trans (by decide) hR.2⟩ hZ rfl hl.1 rfl (Nat.le_of_ble_eq_true rfl) rfl dX11_addRoute_15 ?_; clear hZ; intro H locs cells slots hX hZ
  refine z_aload hx hb dX11_addRoute_18 (lv_at hl 0 rfl) ?_
  refine lv_iload hx hb dX11_addRoute_20 (lv_at hl 5 rfl) ?_
  have hf9 := Option.bind_eq_some_iff.mp hf; clear hf; obtain ⟨a11, ha11, hf⟩ := hf9
  subst ha11
  replace hl : lv_has ls 7 [(5, .ref a11), (0, .ref this), (1, .int p0), (2, .int p1), (3, .int p2), (4, .int p3)] := hl
  replace hZ : wd_Z E w R s w9 H locs cells slots [(some a11, 4), (some a4, 3), (some this, 12)] := hZ
  have hf9 := wd_b2_e hf; clear hf; obtain ⟨r14, w12, hc13, hf⟩ := hf9
  refine z_callV (ci := 3) (As := [.int p3]) (rest := []) (c_X3_mayLeadVia l E n w9 a11 p3 r14 w12 (hZ.k 0 rfl rfl) hc13) mo_X3_mayLeadVia rfl (by decide) rfl tw_614 tw_615 tw_613 hx hb hml hts hown hK ⟨Nat.le_trans (by decide) hR.1, Nat.le_trans (by decide) hR.2⟩ hZ (hZ.k 0 rfl rfl) rfl hl.1 rfl (Nat.le_of_ble_eq_true rfl) rfl dX11_addRoute_22 ?_; clear hZ; intro H locs cells slots hX hZ
  refine lv_if_ne (tgt := 38) hx hb dX11_addRoute_25 (by decide) (fun h15 => ?_) (fun h15 => ?_)
  · replace hf := wd_ite_n h15 hf
    refine lv_aload hx hb dX11_addRoute_38 (lv_at hl 0 rfl) ?_
    refine lv_iload_n (i := 2) hx hb dX11_addRoute_40 rfl (lv_at hl 3 rfl) ?_
    refine lv_iload_n (i := 3) hx hb dX11_addRoute_41 rfl (lv_at hl 4 rfl) ?_
    refine lv_iload hx hb dX11_addRoute_42 (lv_at hl 5 rfl) ?_
    have hf9 := wd_b2_e hf; clear hf; obtain ⟨r18, w16, hc17, hf⟩ := hf9
    refine z_callV (ci := 3) (As := [.int p1, .int p2, .int p3]) (rest := []) (c_X3_putRoute l E n w12 a11 p1 p2 p3 r18 w16 (hZ.k 0 rfl rfl) hc17) mo_X3_putRoute rfl (by decide) rfl tw_619 tw_620 tw_618 hx hb hml hts hown hK ⟨Nat.le_trans (by decide) hR.1, Nat.le_trans (by decide) hR.2⟩ hZ (hZ.k 0 rfl rfl) rfl hl.1 rfl (Nat.le_of_ble_eq_true rfl) rfl dX11_addRoute_44 ?_; clear hZ; intro H locs cells slots hX hZ
    refine lv_istore (i := 6) (lv' := [(6, .int r18), (5, .ref a11), (0, .ref this), (1, .int p0), (2, .int p1), (3, .int p2), (4, .int p3)]) hx hb dX11_addRoute_47 hl (by decide) rfl ?_; clear hl; intro ls hl
    refine lv_iload hx hb dX11_addRoute_49 (lv_at hl 0 rfl) ?_
    refine lv_if_ge (tgt := 64) hx hb dX11_addRoute_51 (by decide) (fun h19 => ?_) (fun h19 => ?_)
    · replace hf := wd_ite_p h19 hf
      refine lv_iload hx hb dX11_addRoute_64 (lv_at hl 0 rfl) ?_
      obtain ⟨rfl, rfl⟩ := Prod.mk.inj (Option.some.inj hf)
      exact z_xret hx hb hr hlocks hZ dX11_addRoute_66
    · replace hf := wd_ite_n h19 hf
      have hf9 := wd_gd_e hf; clear hf; obtain ⟨h20, hf⟩ := hf9
      obtain ⟨rfl, rfl⟩ := Prod.mk.inj (Option.some.inj hf)
      obtain ⟨sa, hsa⟩ := hK.2.2.2.2.2.2.2.2.2.2.1
      exact z_throwS hst hsa hx hb hts wd_atIn wd_atGood hown hK hZ tw_395 tw_41 (hl.1.trans hml.symm) dX11_addRoute_54 dX11_addRoute_57 dX11_addRoute_58 dX11_addRoute_60 dX11_addRoute_63 hout (Nat.le_trans (by decide) hR.1) (Nat.le_trans (by decide) hR.2) (Nat.le_of_ble_eq_true rfl) hlocks (wd_hbase hs0) (wd_hSS hs0 hZ) h20
  · replace hf := wd_ite_p h15 hf
    cases hf

def f_X11_setForwarding (n : Nat) (w : Wd) (this : Nat) (p0 : Int32) (p1 : Int32) : Option (Int32 × Wd) :=
  wd_b2 (f_X11_hostOf n w this p0) fun r3 w1 =>
  Option.bind r3 fun a4 =>
  wd_let (wd_R w1 200 a4) fun v5 =>
  Option.bind v5 fun a7 =>
  wd_let (wd_I w1 301 a7) fun v8 =>
  wd_gd (¬ (p1 = 0 ∨ p1 = 1)) <|
  wd_let (wd_sI w1 301 a7 p1) fun w11 =>
  wd_gd (¬ (v8 = 0 ∨ v8 = 1)) <|
  some (v8, w11)
set_option maxHeartbeats 4000000 in
set_option maxRecDepth 100000 in
theorem c_X11_setForwarding (l : Launch) (E : wd_E) (n : Nat) (w : Wd) (this : Nat) (p0 : Int32) (p1 : Int32) (r' : Int32) (w' : Wd) (k_this : wd_K w this = 12) (hf : f_X11_setForwarding n w this p0 p1 = some (r', w')) : wd_C l E yX11_setForwarding cX11_setForwarding 5 (some .boolean) 2 43 [.ref this, .int p0, .int p1] w (some (.int r')) w' True := by
  refine wd_ofW (own := RX11) (nm := "setForwarding") (ks := [(some this, 12)]) (lv := [(0, .ref this), (1, .int p0), (2, .int p1)]) (by decide) rfl rfl (Nat.le_of_ble_eq_true rfl) rfl (List.forall_mem_cons.mpr ⟨⟨Nat.succ_ne_zero _, fun q hq => by cases hq; exact k_this⟩, (fun _ hq => absurd hq List.not_mem_nil)⟩) ?_
  intro p e s m args below meth c R H locs cells slots ls C hR hZ hl
  obtain ⟨hx, hb, hr, hml, hts, hown, hlocks, hmn, hK⟩ := id C
  unfold f_X11_setForwarding at hf
  refine lv_aload_n (i := 0) hx hb dX11_setForwarding_0 rfl (lv_at hl 0 rfl) ?_
  refine lv_iload_n (i := 1) hx hb dX11_setForwarding_1 rfl (lv_at hl 1 rfl) ?_
  have hf9 := wd_b2_e hf; clear hf; obtain ⟨r3, w1, hc2, hf⟩ := hf9
  refine z_callV (ci := 11) (As := [.int p0]) (rest := []) (c_X11_hostOf l E n w this p0 r3 w1 (hZ.k 0 rfl rfl) hc2) mo_X11_hostOf rfl (by decide) rfl tw_448 tw_2 tw_446 hx hb hml hts hown hK ⟨Nat.le_trans (by decide) hR.1, Nat.le_trans (by decide) hR.2⟩ hZ (hZ.k 0 rfl rfl) rfl hl.1 rfl (Nat.le_of_ble_eq_true rfl) rfl dX11_setForwarding_2 ?_; clear hZ; intro H locs cells slots hX hZ
  replace hZ := hZ.add (Nat.succ_ne_zero _) hX
  have hf9 := Option.bind_eq_some_iff.mp hf; clear hf; obtain ⟨a4, ha4, hf⟩ := hf9
  subst ha4
  replace hl : lv_has ls 5 [(0, .ref this), (1, .int p0), (2, .int p1)] := hl
  replace hZ : wd_Z E w R s w1 H locs cells slots [(some a4, 3), (some this, 12)] := hZ
  refine z_getR (tk := 3) fd_200 rfl hx hb hts hown hK hZ (hZ.k 0 rfl rfl) tw_205 dX11_setForwarding_5 ?_; clear hZ; intro hZ
  have hf9 := wd_let_e hf; clear hf; obtain ⟨v5, e6, hf⟩ := hf9
  rw [e6]
  rw [e6] at hZ
  refine z_astore_n (i := 3) (lv' := [(3, va_rf v5), (0, .ref this), (1, .int p0), (2, .int p1)]) hx hb dX11_setForwarding_8 rfl hl (by decide) rfl ?_; clear hl; intro ls hl
  refine z_aload_n (i := 3) hx hb dX11_setForwarding_9 rfl (lv_at hl 0 rfl) ?_
  have hf9 := Option.bind_eq_some_iff.mp hf; clear hf; obtain ⟨a7, ha7, hf⟩ := hf9
  subst ha7
  replace hl : lv_has ls 5 [(3, .ref a7), (0, .ref this), (1, .int p0), (2, .int p1)] := hl
  replace hZ : wd_Z E w R s w1 H locs cells slots [(some a7, 4), (some a4, 3), (some this, 12)] := hZ
  refine z_getI fd_301 rfl hx hb hts hown hK hZ (hZ.k 0 rfl rfl) tw_77 dX11_setForwarding_10 ?_
  have hf9 := wd_let_e hf; clear hf; obtain ⟨v8, e9, hf⟩ := hf9
  rw [e9]
  refine lv_istore (i := 4) (lv' := [(4, .int v8), (3, .ref a7), (0, .ref this), (1, .int p0), (2, .int p1)]) hx hb dX11_setForwarding_13 hl (by decide) rfl ?_; clear hl; intro ls hl
  refine lv_aload_n (i := 3) hx hb dX11_setForwarding_15 rfl (lv_at hl 1 rfl) ?_
  refine lv_iload_n (i := 2) hx hb dX11_setForwarding_16 rfl (lv_at hl 4 rfl) ?_
  have hf9 := wd_gd_e hf; clear hf; obtain ⟨h10, hf⟩ := hf9
  refine z_putI fd_301 cok_3 rfl rfl rfl (wd_zn h10) (wd_zf h10) hx hb hts hown hK hZ (hZ.k 0 rfl rfl) tw_77 dX11_setForwarding_17 ?_; clear hZ; intro H locs hZ
  have hf9 := wd_let_e hf; clear hf; obtain ⟨w11, e12, hf⟩ := hf9
  rw [e12] at hZ
  refine lv_iload hx hb dX11_setForwarding_20 (lv_at hl 0 rfl) ?_
  have hf9 := wd_gd_e hf; clear hf; obtain ⟨h13, hf⟩ := hf9
  obtain ⟨rfl, rfl⟩ := Prod.mk.inj (Option.some.inj hf)
  exact z_zret (wd_zn h13) hx hb hr hlocks hZ trivial dX11_setForwarding_22

def f_X11_needTtl_j11 (n : Nat) (w : Wd) : Option Wd :=
  none
def f_X11_needTtl (n : Nat) (w : Wd) (p0 : Int32) : Option Wd :=
  if p0 < (1 : Int32) then
    f_X11_needTtl_j11 n w
  else
    if p0 ≤ (40 : Int32) then
      some w
    else
      f_X11_needTtl_j11 n w
set_option maxHeartbeats 4000000 in
set_option maxRecDepth 100000 in
theorem v_X11_needTtl_j11 {p : Program} {l : Launch} {e : Env} {R : Room} {s : State} {m : MethodId} {args : Array Value} {below : List Frame} {meth : Method} {c : Code} {E : wd_E} {w0 : Wd} {w' : Wd} (n : Nat) (C : wd_X p s m args meth c cX11_needTtl RX11 1 none "needTtl" E) (hR : 0 ≤ R.frames ∧ 0 ≤ R.locals) (w : Wd) (H : Heap) (locs : List Loc) (cells slots : Nat) (ls : Array Slot) (hZ : wd_Z E w0 R s w H locs cells slots []) (hl : lv_has ls 1 []) (hf : f_X11_needTtl_j11 n w = some w') : W p l e R s m args below meth c H locs cells slots (wd_fin E w0 none w' True R args s below) (F0 m 11 ls []) := by
  obtain ⟨hx, hb, hr, hml, hts, hown, hlocks, hmn, hK⟩ := id C
  unfold f_X11_needTtl_j11 at hf
  cases hf

set_option maxHeartbeats 4000000 in
set_option maxRecDepth 100000 in
theorem c_X11_needTtl (l : Launch) (E : wd_E) (n : Nat) (w : Wd) (p0 : Int32) (w' : Wd)  (hf : f_X11_needTtl n w p0 = some w') : wd_C l E yX11_needTtl cX11_needTtl 1 none 0 0 [.int p0] w none w' True := by
  refine wd_ofW (own := RX11) (nm := "needTtl") (ks := []) (lv := [(0, .int p0)]) (by decide) rfl rfl (Nat.le_of_ble_eq_true rfl) rfl (fun _ hq => absurd hq List.not_mem_nil) ?_
  intro p e s m args below meth c R H locs cells slots ls C hR hZ hl
  obtain ⟨hx, hb, hr, hml, hts, hown, hlocks, hmn, hK⟩ := id C
  unfold f_X11_needTtl at hf
  refine lv_iload_n (i := 0) hx hb dX11_needTtl_0 rfl (lv_at hl 0 rfl) ?_
  refine lv_iconst (v := 1) hx hb dX11_needTtl_1 (by decide) ?_
  refine lv_icmp_lt (tgt := 11) hx hb dX11_needTtl_2 (by decide) (fun h1 => ?_) (fun h1 => ?_)
  · replace hf := wd_ite_p h1 hf
    exact v_X11_needTtl_j11 n C hR w _ _ _ _ _ ⟨hZ.1, hZ.2.1, hZ.2.2.1, hZ.2.2.2.1, (fun _ hq => absurd hq List.not_mem_nil), hZ.2.2.2.2.2⟩ (lv_sub hl [] rfl) hf
  · replace hf := wd_ite_n h1 hf
    refine lv_iload_n (i := 0) hx hb dX11_needTtl_5 rfl (lv_at hl 0 rfl) ?_
    refine lv_bipush (v := 40) hx hb dX11_needTtl_6 (by decide) ?_
    refine lv_icmp_le (tgt := 22) hx hb dX11_needTtl_8 (by decide) (fun h2 => ?_) (fun h2 => ?_)
    · replace hf := wd_ite_p h2 hf
      obtain rfl := Option.some.inj hf
      exact z_vret hx hb hr hlocks hZ trivial dX11_needTtl_22
    · replace hf := wd_ite_n h2 hf
      exact v_X11_needTtl_j11 n C hR w _ _ _ _ _ ⟨hZ.1, hZ.2.1, hZ.2.2.1, hZ.2.2.2.1, (fun _ hq => absurd hq List.not_mem_nil), hZ.2.2.2.2.2⟩ (lv_sub hl [] rfl) hf

def f_X11_send_j24 (n : Nat) (w : Wd) : Option (Int32 × Wd) :=
  none
def f_X11_send_j54 (n : Nat) (y0 : Int32) (y1 : Option Nat) (y2 : Option Nat) (x2 : Int32) (x4 : Int32) (x5 : Int32) (x6 : Int32) (w : Wd) : Option (Int32 × Wd) :=
  Option.bind y2 fun a11 =>
  wd_b2 (f_X9_launch n w a11 y1 y0 x2 x4 x5 x6) fun r14 w12 =>
  some (r14, w12)
def f_X11_send (n : Nat) (w : Wd) (this : Nat) (p0 : Int32) (p1 : Int32) (p2 : Int32) (p3 : Int32) (p4 : Int32) (p5 : Int32) : Option (Int32 × Wd) :=
  wd_b2 (f_X11_hostOf n w this p0) fun r3 w1 =>
  Option.bind (f_X11_needAddress n w1 p1) fun w4 =>
  if p3 < 0 then
    f_X11_send_j24 n w4
  else
    if p3 ≤ (400 : Int32) then
      Option.bind (f_X11_needTtl n w4 p4) fun w8 =>
      if p2 = 0 then
        f_X11_send_j54 n (0 : Int32) r3 (wd_R w8 1101 this) p1 p3 p4 p5 w8
      else
        f_X11_send_j54 n (1 : Int32) r3 (wd_R w8 1101 this) p1 p3 p4 p5 w8
    else
      f_X11_send_j24 n w4
set_option maxHeartbeats 4000000 in
set_option maxRecDepth 100000 in
theorem v_X11_send_j24 {p : Program} {l : Launch} {e : Env} {R : Room} {s : State} {m : MethodId} {args : Array Value} {below : List Frame} {meth : Method} {c : Code} {E : wd_E} {w0 : Wd} {r' : Int32} {w' : Wd} (n : Nat) (C : wd_X p s m args meth c cX11_send RX11 8 (some .int) "send" E) (hR : 7 ≤ R.frames ∧ 178 ≤ R.locals) (w : Wd) (H : Heap) (locs : List Loc) (cells slots : Nat) (ls : Array Slot) (hZ : wd_Z E w0 R s w H locs cells slots []) (hl : lv_has ls 8 []) (hf : f_X11_send_j24 n w = some (r', w')) : W p l e R s m args below meth c H locs cells slots (wd_fin E w0 (some (.int r')) w' True R args s below) (F0 m 24 ls []) := by
  obtain ⟨hx, hb, hr, hml, hts, hown, hlocks, hmn, hK⟩ := id C
  unfold f_X11_send_j24 at hf
  cases hf

set_option maxHeartbeats 4000000 in
set_option maxRecDepth 100000 in
theorem v_X11_send_j54 {p : Program} {l : Launch} {e : Env} {R : Room} {s : State} {m : MethodId} {args : Array Value} {below : List Frame} {meth : Method} {c : Code} {E : wd_E} {w0 : Wd} {r' : Int32} {w' : Wd} (n : Nat) (C : wd_X p s m args meth c cX11_send RX11 8 (some .int) "send" E) (hR : 7 ≤ R.frames ∧ 178 ≤ R.locals) (y0 : Int32) (y1 : Option Nat) (y2 : Option Nat) (x2 : Int32) (x4 : Int32) (x5 : Int32) (x6 : Int32) (w : Wd) (H : Heap) (locs : List Loc) (cells slots : Nat) (ls : Array Slot) (hZ : wd_Z E w0 R s w H locs cells slots [(y1, 3), (y2, 10)]) (hl : lv_has ls 8 [(2, .int x2), (4, .int x4), (5, .int x5), (6, .int x6)]) (hf : f_X11_send_j54 n y0 y1 y2 x2 x4 x5 x6 w = some (r', w')) : W p l e R s m args below meth c H locs cells slots (wd_fin E w0 (some (.int r')) w' True R args s below) (F0 m 54 ls [.int y0, va_rf y1, va_rf y2]) := by
  obtain ⟨hx, hb, hr, hml, hts, hown, hlocks, hmn, hK⟩ := id C
  unfold f_X11_send_j54 at hf
  refine lv_iload_n (i := 2) hx hb dX11_send_54 rfl (lv_at hl 0 rfl) ?_
  refine lv_iload hx hb dX11_send_55 (lv_at hl 1 rfl) ?_
  refine lv_iload hx hb dX11_send_57 (lv_at hl 2 rfl) ?_
  refine lv_iload hx hb dX11_send_59 (lv_at hl 3 rfl) ?_
  have hf9 := Option.bind_eq_some_iff.mp hf; clear hf; obtain ⟨a11, ha11, hf⟩ := hf9
  subst ha11
  replace hl : lv_has ls 8 [(2, .int x2), (4, .int x4), (5, .int x5), (6, .int x6)] := hl
  replace hZ : wd_Z E w0 R s w H locs cells slots [(y1, 3), (some a11, 10)] := hZ
  have hf9 := wd_b2_e hf; clear hf; obtain ⟨r14, w12, hc13, hf⟩ := hf9
  refine z_callV (ci := 9) (As := [va_rf y1, .int y0, .int x2, .int x4, .int x5, .int x6]) (rest := []) (c_X9_launch l E n w a11 y1 y0 x2 x4 x5 x6 r14 w12 (hZ.k 1 rfl rfl) (fun q hq => hZ.k 0 rfl hq) hc13) mo_X9_launch rfl (by decide) rfl tw_642 tw_643 tw_641 hx hb hml hts hown hK ⟨Nat.le_trans (by decide) hR.1, Nat.le_trans (by decide) hR.2⟩ hZ (hZ.k 1 rfl rfl) rfl hl.1 rfl (Nat.le_of_ble_eq_true rfl) rfl dX11_send_61 ?_; clear hZ; intro H locs cells slots hX hZ
  obtain ⟨rfl, rfl⟩ := Prod.mk.inj (Option.some.inj hf)
  exact z_iret hx hb hr hlocks hZ trivial dX11_send_64

set_option maxHeartbeats 4000000 in
set_option maxRecDepth 100000 in
theorem c_X11_send (l : Launch) (E : wd_E) (n : Nat) (w : Wd) (this : Nat) (p0 : Int32) (p1 : Int32) (p2 : Int32) (p3 : Int32) (p4 : Int32) (p5 : Int32) (r' : Int32) (w' : Wd) (k_this : wd_K w this = 12) (hf : f_X11_send n w this p0 p1 p2 p3 p4 p5 = some (r', w')) : wd_C l E yX11_send cX11_send 8 (some .int) 7 178 [.ref this, .int p0, .int p1, .int p2, .int p3, .int p4, .int p5] w (some (.int r')) w' True := by
  refine wd_ofW (own := RX11) (nm := "send") (ks := [(some this, 12)]) (lv := [(0, .ref this), (1, .int p0), (2, .int p1), (3, .int p2), (4, .int p3), (5, .int p4), (6, .int p5)]) (by decide) rfl rfl (Nat.le_of_ble_eq_true rfl) rfl (List.forall_mem_cons.mpr ⟨⟨Nat.succ_ne_zero _, fun q hq => by cases hq; exact k_this⟩, (fun _ hq => absurd hq List.not_mem_nil)⟩) ?_
  intro p e s m args below meth c R H locs cells slots ls C hR hZ hl
  obtain ⟨hx, hb, hr, hml, hts, hown, hlocks, hmn, hK⟩ := id C
  unfold f_X11_send at hf
  refine lv_aload_n (i := 0) hx hb dX11_send_0 rfl (lv_at hl 0 rfl) ?_
  refine lv_iload_n (i := 1) hx hb dX11_send_1 rfl (lv_at hl 1 rfl) ?_
  have hf9 := wd_b2_e hf; clear hf; obtain ⟨r3, w1, hc2, hf⟩ := hf9
  refine z_callV (ci := 11) (As := [.int p0]) (rest := []) (c_X11_hostOf l E n w this p0 r3 w1 (hZ.k 0 rfl rfl) hc2) mo_X11_hostOf rfl (by decide) rfl tw_448 tw_2 tw_446 hx hb hml hts hown hK ⟨Nat.le_trans (by decide) hR.1, Nat.le_trans (by decide) hR.2⟩ hZ (hZ.k 0 rfl rfl) rfl hl.1 rfl (Nat.le_of_ble_eq_true rfl) rfl dX11_send_2 ?_; clear hZ; intro H locs cells slots hX hZ
  replace hZ := hZ.add (Nat.succ_ne_zero _) hX
  refine z_astore (i := 7) (lv' := [(7, va_rf r3), (0, .ref this), (1, .int p0), (2, .int p1), (3, .int p2), (4, .int p3), (5, .int p4), (6, .int p5)]) hx hb dX11_send_5 hl (by decide) rfl ?_; clear hl; intro ls hl
  refine lv_iload_n (i := 2) hx hb dX11_send_7 rfl (lv_at hl 3 rfl) ?_
  have hf9 := Option.bind_eq_some_iff.mp hf; clear hf; obtain ⟨w4, hc5, hf⟩ := hf9
  refine z_callS (As := [.int p1]) (rest := []) (c_X11_needAddress l E n w1 p1 w4  hc5) mo_X11_needAddress tw_535 tw_534 hx hb hml hts hown hK ⟨Nat.le_trans (by decide) hR.1, Nat.le_trans (by decide) hR.2⟩ hZ rfl hl.1 rfl (Nat.le_of_ble_eq_true rfl) rfl dX11_send_8 ?_; clear hZ; intro H locs cells slots hX hZ
  refine lv_iload hx hb dX11_send_11 (lv_at hl 5 rfl) ?_
  refine lv_if_lt (tgt := 24) hx hb dX11_send_13 (by decide) (fun h6 => ?_) (fun h6 => ?_)
  · replace hf := wd_ite_p h6 hf
    exact v_X11_send_j24 n C hR w4 _ _ _ _ _ ⟨hZ.1, hZ.2.1, hZ.2.2.1, hZ.2.2.2.1, (fun _ hq => absurd hq List.not_mem_nil), hZ.2.2.2.2.2⟩ (lv_sub hl [] rfl) hf
  · replace hf := wd_ite_n h6 hf
    refine lv_iload hx hb dX11_send_16 (lv_at hl 5 rfl) ?_
    refine lv_sipush (v := 400) hx hb dX11_send_18 (by decide) ?_
    refine lv_icmp_le (tgt := 34) hx hb dX11_send_21 (by decide) (fun h7 => ?_) (fun h7 => ?_)
    · replace hf := wd_ite_p h7 hf
      refine lv_iload hx hb dX11_send_34 (lv_at hl 6 rfl) ?_
      have hf9 := Option.bind_eq_some_iff.mp hf; clear hf; obtain ⟨w8, hc9, hf⟩ := hf9
      refine z_callS (As := [.int p4]) (rest := []) (c_X11_needTtl l E n w4 p4 w8  hc9) mo_X11_needTtl tw_638 tw_637 hx hb hml hts hown hK ⟨Nat.le_trans (by decide) hR.1, Nat.le_trans (by decide) hR.2⟩ hZ rfl hl.1 rfl (Nat.le_of_ble_eq_true rfl) rfl dX11_send_36 ?_; clear hZ; intro H locs cells slots hX hZ
      refine lv_aload_n (i := 0) hx hb dX11_send_39 rfl (lv_at hl 1 rfl) ?_
      refine z_getR (tk := 9) fd_1101 rfl hx hb hts hown hK hZ (hZ.k 1 rfl rfl) tw_307 dX11_send_40 ?_; clear hZ; intro hZ
      refine z_aload hx hb dX11_send_43 (lv_at hl 0 rfl) ?_
      refine lv_iload_n (i := 3) hx hb dX11_send_45 rfl (lv_at hl 4 rfl) ?_
      refine lv_if_eq (tgt := 53) hx hb dX11_send_46 (by decide) (fun h10 => ?_) (fun h10 => ?_)
      · replace hf := wd_ite_p h10 hf
        refine lv_iconst (v := 0) hx hb dX11_send_53 (by decide) ?_
        exact v_X11_send_j54 n C hR (0 : Int32) r3 (wd_R w8 1101 this) p1 p3 p4 p5 w8 _ _ _ _ _ ⟨hZ.1, hZ.2.1, hZ.2.2.1, hZ.2.2.2.1, (List.forall_mem_cons.mpr ⟨⟨Nat.succ_ne_zero _, (fun q hq => hZ.k 1 rfl hq)⟩, (List.forall_mem_cons.mpr ⟨⟨Nat.succ_ne_zero _, (fun q hq => hZ.k 0 rfl hq)⟩, (fun _ hq => absurd hq List.not_mem_nil)⟩)⟩), hZ.2.2.2.2.2⟩ (lv_sub hl [3, 5, 6, 7] rfl) hf
      · replace hf := wd_ite_n h10 hf
        refine lv_iconst (v := 1) hx hb dX11_send_49 (by decide) ?_
        refine lv_goto (tgt := 54) hx hb dX11_send_50 (by decide) ?_
        exact v_X11_send_j54 n C hR (1 : Int32) r3 (wd_R w8 1101 this) p1 p3 p4 p5 w8 _ _ _ _ _ ⟨hZ.1, hZ.2.1, hZ.2.2.1, hZ.2.2.2.1, (List.forall_mem_cons.mpr ⟨⟨Nat.succ_ne_zero _, (fun q hq => hZ.k 1 rfl hq)⟩, (List.forall_mem_cons.mpr ⟨⟨Nat.succ_ne_zero _, (fun q hq => hZ.k 0 rfl hq)⟩, (fun _ hq => absurd hq List.not_mem_nil)⟩)⟩), hZ.2.2.2.2.2⟩ (lv_sub hl [3, 5, 6, 7] rfl) hf
    · replace hf := wd_ite_n h7 hf
      exact v_X11_send_j24 n C hR w4 _ _ _ _ _ ⟨hZ.1, hZ.2.1, hZ.2.2.1, hZ.2.2.2.1, (fun _ hq => absurd hq List.not_mem_nil), hZ.2.2.2.2.2⟩ (lv_sub hl [] rfl) hf

def f_X11_step_j11 (n : Nat) (w : Wd) : Option (Int32 × Wd) :=
  none
def f_X11_step_j55 (n : Nat) (x0 : Nat) (w : Wd) : Option (Int32 × Wd) :=
  Option.bind (wd_R w 1101 x0) fun a4 =>
  Option.bind (wd_R w 900 a4) fun a5 =>
  some ((wd_I w 801 a5), w)
def f_X11_step_l23 (n : Nat) (rec23 : Nat → Int32 → Int32 → Wd → Option (Int32 × Wd)) (x0 : Nat) (x1 : Int32) (x2 : Int32) (w : Wd) : Option (Int32 × Wd) :=
  if x1 ≤ x2 then
    f_X11_step_j55 n x0 w
  else
    Option.bind (wd_R w 1101 x0) fun a6 =>
    Option.bind (wd_R w 900 a6) fun a7 =>
    if (wd_I w 801 a7) ≤ 0 then
      f_X11_step_j55 n x0 w
    else
      Option.bind (wd_R w 1101 x0) fun a9 =>
      wd_b2 (f_X9_deliverNext n w a9) fun r12 w10 =>
      wd_let (x2 + 1) fun v13 =>
      rec23 x0 x1 v13 w10
def f_X11_step (n : Nat) (w : Wd) (this : Nat) (p0 : Int32) : Option (Int32 × Wd) :=
  if p0 < (1 : Int32) then
    f_X11_step_j11 n w
  else
    if p0 ≤ (60 : Int32) then
      wd_lp4 (f_X11_step_l23 n) n this p0 (0 : Int32) w
    else
      f_X11_step_j11 n w
set_option maxHeartbeats 4000000 in
set_option maxRecDepth 100000 in
theorem v_X11_step_j11 {p : Program} {l : Launch} {e : Env} {R : Room} {s : State} {m : MethodId} {args : Array Value} {below : List Frame} {meth : Method} {c : Code} {E : wd_E} {w0 : Wd} {r' : Int32} {w' : Wd} (n : Nat) (C : wd_X p s m args meth c cX11_step RX11 3 (some .int) "step" E) (hR : 7 ≤ R.frames ∧ 171 ≤ R.locals) (w : Wd) (H : Heap) (locs : List Loc) (cells slots : Nat) (ls : Array Slot) (hZ : wd_Z E w0 R s w H locs cells slots []) (hl : lv_has ls 3 []) (hf : f_X11_step_j11 n w = some (r', w')) : W p l e R s m args below meth c H locs cells slots (wd_fin E w0 (some (.int r')) w' True R args s below) (F0 m 11 ls []) := by
  obtain ⟨hx, hb, hr, hml, hts, hown, hlocks, hmn, hK⟩ := id C
  unfold f_X11_step_j11 at hf
  cases hf

set_option maxHeartbeats 4000000 in
set_option maxRecDepth 100000 in
theorem v_X11_step_j55 {p : Program} {l : Launch} {e : Env} {R : Room} {s : State} {m : MethodId} {args : Array Value} {below : List Frame} {meth : Method} {c : Code} {E : wd_E} {w0 : Wd} {r' : Int32} {w' : Wd} (n : Nat) (C : wd_X p s m args meth c cX11_step RX11 3 (some .int) "step" E) (hR : 7 ≤ R.frames ∧ 171 ≤ R.locals) (x0 : Nat) (w : Wd) (H : Heap) (locs : List Loc) (cells slots : Nat) (ls : Array Slot) (hZ : wd_Z E w0 R s w H locs cells slots [(some x0, 12)]) (hl : lv_has ls 3 [(0, .ref x0)]) (hf : f_X11_step_j55 n x0 w = some (r', w')) : W p l e R s m args below meth c H locs cells slots (wd_fin E w0 (some (.int r')) w' True R args s below) (F0 m 55 ls []) := by
  obtain ⟨hx, hb, hr, hml, hts, hown, hlocks, hmn, hK⟩ := id C
  unfold f_X11_step_j55 at hf
  refine lv_aload_n (i := 0) hx hb dX11_step_55 rfl (lv_at hl 0 rfl) ?_
  refine z_getR (tk := 9) fd_1101 rfl hx hb hts hown hK hZ (hZ.k 0 rfl rfl) tw_307 dX11_step_56 ?_; clear hZ; intro hZ
  have hf9 := Option.bind_eq_some_iff.mp hf; clear hf; obtain ⟨a4, ha4, hf⟩ := hf9
  replace hZ := hZ.add (r := some a4) (k := 10) (Nat.succ_ne_zero _) (fun q hq => by cases hq; exact hZ.k 0 rfl ha4)
  rw [ha4]
  refine z_getR (tk := 8) fd_900 rfl hx hb hts hown hK hZ (hZ.k 0 rfl rfl) tw_244 dX11_step_59 ?_; clear hZ; intro hZ
  have hf9 := Option.bind_eq_some_iff.mp hf; clear hf; obtain ⟨a5, ha5, hf⟩ := hf9
  replace hZ := hZ.add (r := some a5) (k := 9) (Nat.succ_ne_zero _) (fun q hq => by cases hq; exact hZ.k 0 rfl ha5)
  rw [ha5]
  refine z_getI fd_801 rfl hx hb hts hown hK hZ (hZ.k 0 rfl rfl) tw_152 dX11_step_62 ?_
  obtain ⟨rfl, rfl⟩ := Prod.mk.inj (Option.some.inj hf)
  exact z_iret hx hb hr hlocks hZ trivial dX11_step_65

set_option maxHeartbeats 4000000 in
set_option maxRecDepth 100000 in
theorem v_X11_step_b23 {p : Program} {l : Launch} {e : Env} {R : Room} {s : State} {m : MethodId} {args : Array Value} {below : List Frame} {meth : Method} {c : Code} {E : wd_E} {w0 : Wd} {r' : Int32} {w' : Wd} (n : Nat) (C : wd_X p s m args meth c cX11_step RX11 3 (some .int) "step" E) (hR : 7 ≤ R.frames ∧ 171 ≤ R.locals) (rec23 : Nat → Int32 → Int32 → Wd → Option (Int32 × Wd)) (hrec23 : ∀ (x0_ : Nat) (x1_ : Int32) (x2_ : Int32) (w_ : Wd) (H : Heap) (locs : List Loc) (cells slots : Nat) (ls : Array Slot), wd_Z E w0 R s w_ H locs cells slots [(some x0_, 12)] → lv_has ls 3 [(0, .ref x0_), (1, .int x1_), (2, .int x2_)] → rec23 x0_ x1_ x2_ w_ = some (r', w') → W p l e R s m args below meth c H locs cells slots (wd_fin E w0 (some (.int r')) w' True R args s below) (F0 m 23 ls [])) (x0 : Nat) (x1 : Int32) (x2 : Int32) (w : Wd) (H : Heap) (locs : List Loc) (cells slots : Nat) (ls : Array Slot) (hZ : wd_Z E w0 R s w H locs cells slots [(some x0, 12)]) (hl : lv_has ls 3 [(0, .ref x0), (1, .int x1), (2, .int x2)]) (hf : f_X11_step_l23 n rec23 x0 x1 x2 w = some (r', w')) : W p l e R s m args below meth c H locs cells slots (wd_fin E w0 (some (.int r')) w' True R args s below) (F0 m 23 ls []) := by
  obtain ⟨hx, hb, hr, hml, hts, hown, hlocks, hmn, hK⟩ := id C
  unfold f_X11_step_l23 at hf
  refine lv_iload_n (i := 2) hx hb dX11_step_23 rfl (lv_at hl 2 rfl) ?_
  refine lv_iload_n (i := 1) hx hb dX11_step_24 rfl (lv_at hl 1 rfl) ?_
  refine lv_icmp_ge (tgt := 55) hx hb dX11_step_25 (by decide) (fun h3 => ?_) (fun h3 => ?_)
  · replace hf := wd_ite_p h3 hf
    exact v_X11_step_j55 n C hR x0 w _ _ _ _ _ ⟨hZ.1, hZ.2.1, hZ.2.2.1, hZ.2.2.2.1, (List.forall_mem_cons.mpr ⟨⟨Nat.succ_ne_zero _, (fun q hq => by cases hq; exact (hZ.k 0 rfl rfl))⟩, (fun _ hq => absurd hq List.not_mem_nil)⟩), hZ.2.2.2.2.2⟩ (lv_sub hl [0] rfl) hf
  · replace hf := wd_ite_n h3 hf
    refine lv_aload_n (i := 0) hx hb dX11_step_28 rfl (lv_at hl 0 rfl) ?_
    refine z_getR (tk := 9) fd_1101 rfl hx hb hts hown hK hZ (hZ.k 0 rfl rfl) tw_307 dX11_step_29 ?_; clear hZ; intro hZ
    have hf9 := Option.bind_eq_some_iff.mp hf; clear hf; obtain ⟨a6, ha6, hf⟩ := hf9
    replace hZ := hZ.add (r := some a6) (k := 10) (Nat.succ_ne_zero _) (fun q hq => by cases hq; exact hZ.k 0 rfl ha6)
    rw [ha6]
    refine z_getR (tk := 8) fd_900 rfl hx hb hts hown hK hZ (hZ.k 0 rfl rfl) tw_244 dX11_step_32 ?_; clear hZ; intro hZ
    have hf9 := Option.bind_eq_some_iff.mp hf; clear hf; obtain ⟨a7, ha7, hf⟩ := hf9
    replace hZ := hZ.add (r := some a7) (k := 9) (Nat.succ_ne_zero _) (fun q hq => by cases hq; exact hZ.k 0 rfl ha7)
    rw [ha7]
    refine z_getI fd_801 rfl hx hb hts hown hK hZ (hZ.k 0 rfl rfl) tw_152 dX11_step_35 ?_
    refine lv_if_le (tgt := 55) hx hb dX11_step_38 (by decide) (fun h8 => ?_) (fun h8 => ?_)
    · replace hf := wd_ite_p h8 hf
      exact v_X11_step_j55 n C hR x0 w _ _ _ _ _ ⟨hZ.1, hZ.2.1, hZ.2.2.1, hZ.2.2.2.1, (List.forall_mem_cons.mpr ⟨⟨Nat.succ_ne_zero _, (fun q hq => by cases hq; exact (hZ.k 4 rfl rfl))⟩, (fun _ hq => absurd hq List.not_mem_nil)⟩), hZ.2.2.2.2.2⟩ (lv_sub hl [0] rfl) hf
    · replace hf := wd_ite_n h8 hf
      refine lv_aload_n (i := 0) hx hb dX11_step_41 rfl (lv_at hl 0 rfl) ?_
      refine z_getR (tk := 9) fd_1101 rfl hx hb hts hown hK hZ (hZ.k 4 rfl rfl) tw_307 dX11_step_42 ?_; clear hZ; intro hZ
      have hf9 := Option.bind_eq_some_iff.mp hf; clear hf; obtain ⟨a9, ha9, hf⟩ := hf9
      replace hZ := hZ.add (r := some a9) (k := 10) (Nat.succ_ne_zero _) (fun q hq => by cases hq; exact hZ.k 0 rfl ha9)
      rw [ha9]
      have hf9 := wd_b2_e hf; clear hf; obtain ⟨r12, w10, hc11, hf⟩ := hf9
      refine z_callV (ci := 9) (As := []) (rest := []) (c_X9_deliverNext l E n w a9 r12 w10 (hZ.k 0 rfl rfl) hc11) mo_X9_deliverNext rfl (by decide) rfl tw_867 tw_868 tw_866 hx hb hml hts hown hK ⟨Nat.le_trans (by decide) hR.1, Nat.le_trans (by decide) hR.2⟩ hZ (hZ.k 0 rfl rfl) rfl hl.1 rfl (Nat.le_of_ble_eq_true rfl) rfl dX11_step_45 ?_; clear hZ; intro H locs cells slots hX hZ
      refine lv_pop hx hb dX11_step_48 rfl ?_
      have hf9 := wd_let_e hf; clear hf; obtain ⟨v13, e14, hf⟩ := hf9
      refine lv_iinc (k := 2) (v := v13) (lv' := [(2, .int v13), (0, .ref x0), (1, .int x1)]) hx hb dX11_step_49 hl rfl (by rw [← e14]; rfl) (by decide) rfl ?_; clear hl; intro ls hl
      refine lv_goto (tgt := 23) hx hb dX11_step_52 (by decide) ?_
      exact hrec23 x0 x1 v13 w10 _ _ _ _ _ ⟨hZ.1, hZ.2.1, hZ.2.2.1, hZ.2.2.2.1, (List.forall_mem_cons.mpr ⟨⟨Nat.succ_ne_zero _, (fun q hq => by cases hq; exact (hZ.k 6 rfl rfl))⟩, (fun _ hq => absurd hq List.not_mem_nil)⟩), hZ.2.2.2.2.2⟩ (lv_sub hl [1, 2, 0] rfl) hf

theorem v_X11_step_l23 {p : Program} {l : Launch} {e : Env} {R : Room} {s : State} {m : MethodId} {args : Array Value} {below : List Frame} {meth : Method} {c : Code} {E : wd_E} {w0 : Wd} {r' : Int32} {w' : Wd} (n : Nat) (C : wd_X p s m args meth c cX11_step RX11 3 (some .int) "step" E) (hR : 7 ≤ R.frames ∧ 171 ≤ R.locals) : ∀ (k : Nat) (x0 : Nat) (x1 : Int32) (x2 : Int32) (w : Wd) (H : Heap) (locs : List Loc) (cells slots : Nat) (ls : Array Slot), wd_Z E w0 R s w H locs cells slots [(some x0, 12)] → lv_has ls 3 [(0, .ref x0), (1, .int x1), (2, .int x2)] → wd_lp4 (f_X11_step_l23 n) k x0 x1 x2 w = some (r', w') → W p l e R s m args below meth c H locs cells slots (wd_fin E w0 (some (.int r')) w' True R args s below) (F0 m 23 ls []) := by
  intro k
  induction k with
  | zero => intro _ _ _ _ _ _ _ _ _ _ _ hf; cases hf
  | succ k ih =>
    intro x0 x1 x2 w H locs cells slots ls hZ hl hf
    exact v_X11_step_b23 n C hR (wd_lp4 (f_X11_step_l23 n) k) ih x0 x1 x2 w H locs cells slots ls hZ hl hf

set_option maxHeartbeats 4000000 in
set_option maxRecDepth 100000 in
theorem c_X11_step (l : Launch) (E : wd_E) (n : Nat) (w : Wd) (this : Nat) (p0 : Int32) (r' : Int32) (w' : Wd) (k_this : wd_K w this = 12) (hf : f_X11_step n w this p0 = some (r', w')) : wd_C l E yX11_step cX11_step 3 (some .int) 7 171 [.ref this, .int p0] w (some (.int r')) w' True := by
  refine wd_ofW (own := RX11) (nm := "step") (ks := [(some this, 12)]) (lv := [(0, .ref this), (1, .int p0)]) (by decide) rfl rfl (Nat.le_of_ble_eq_true rfl) rfl (List.forall_mem_cons.mpr ⟨⟨Nat.succ_ne_zero _, fun q hq => by cases hq; exact k_this⟩, (fun _ hq => absurd hq List.not_mem_nil)⟩) ?_
  intro p e s m args below meth c R H locs cells slots ls C hR hZ hl
  obtain ⟨hx, hb, hr, hml, hts, hown, hlocks, hmn, hK⟩ := id C
  unfold f_X11_step at hf
  refine lv_iload_n (i := 1) hx hb dX11_step_0 rfl (lv_at hl 1 rfl) ?_
  refine lv_iconst (v := 1) hx hb dX11_step_1 (by decide) ?_
  refine lv_icmp_lt (tgt := 11) hx hb dX11_step_2 (by decide) (fun h1 => ?_) (fun h1 => ?_)
  · replace hf := wd_ite_p h1 hf
    exact v_X11_step_j11 n C hR w _ _ _ _ _ ⟨hZ.1, hZ.2.1, hZ.2.2.1, hZ.2.2.2.1, (fun _ hq => absurd hq List.not_mem_nil), hZ.2.2.2.2.2⟩ (lv_sub hl [] rfl) hf
  · replace hf := wd_ite_n h1 hf
    refine lv_iload_n (i := 1) hx hb dX11_step_5 rfl (lv_at hl 1 rfl) ?_
    refine lv_bipush (v := 60) hx hb dX11_step_6 (by decide) ?_
    refine lv_icmp_le (tgt := 21) hx hb dX11_step_8 (by decide) (fun h2 => ?_) (fun h2 => ?_)
    · replace hf := wd_ite_p h2 hf
      refine lv_iconst (v := 0) hx hb dX11_step_21 (by decide) ?_
      refine lv_istore_n (i := 2) (lv' := [(2, .int (0 : Int32)), (0, .ref this), (1, .int p0)]) hx hb dX11_step_22 rfl hl (by decide) rfl ?_; clear hl; intro ls hl
      exact v_X11_step_l23 n C hR n this p0 (0 : Int32) w _ _ _ _ _ ⟨hZ.1, hZ.2.1, hZ.2.2.1, hZ.2.2.2.1, (List.forall_mem_cons.mpr ⟨⟨Nat.succ_ne_zero _, (fun q hq => by cases hq; exact (hZ.k 0 rfl rfl))⟩, (fun _ hq => absurd hq List.not_mem_nil)⟩), hZ.2.2.2.2.2⟩ (lv_sub hl [1, 2, 0] rfl) hf
    · replace hf := wd_ite_n h2 hf
      exact v_X11_step_j11 n C hR w _ _ _ _ _ ⟨hZ.1, hZ.2.1, hZ.2.2.1, hZ.2.2.2.1, (fun _ hq => absurd hq List.not_mem_nil), hZ.2.2.2.2.2⟩ (lv_sub hl [] rfl) hf

def f_X11_forget (n : Nat) (w : Wd) (this : Nat) (p0 : Int32) : Option (Int32 × Wd) :=
  wd_b2 (f_X11_hostOf n w this p0) fun r3 w1 =>
  Option.bind r3 fun a4 =>
  wd_b2 (f_X2_clearKnown n w1 a4) fun r7 w5 =>
  some (r7, w5)
set_option maxHeartbeats 4000000 in
set_option maxRecDepth 100000 in
theorem c_X11_forget (l : Launch) (E : wd_E) (n : Nat) (w : Wd) (this : Nat) (p0 : Int32) (r' : Int32) (w' : Wd) (k_this : wd_K w this = 12) (hf : f_X11_forget n w this p0 = some (r', w')) : wd_C l E yX11_forget cX11_forget 2 (some .int) 2 43 [.ref this, .int p0] w (some (.int r')) w' True := by
  refine wd_ofW (own := RX11) (nm := "forget") (ks := [(some this, 12)]) (lv := [(0, .ref this), (1, .int p0)]) (by decide) rfl rfl (Nat.le_of_ble_eq_true rfl) rfl (List.forall_mem_cons.mpr ⟨⟨Nat.succ_ne_zero _, fun q hq => by cases hq; exact k_this⟩, (fun _ hq => absurd hq List.not_mem_nil)⟩) ?_
  intro p e s m args below meth c R H locs cells slots ls C hR hZ hl
  obtain ⟨hx, hb, hr, hml, hts, hown, hlocks, hmn, hK⟩ := id C
  unfold f_X11_forget at hf
  refine lv_aload_n (i := 0) hx hb dX11_forget_0 rfl (lv_at hl 0 rfl) ?_
  refine lv_iload_n (i := 1) hx hb dX11_forget_1 rfl (lv_at hl 1 rfl) ?_
  have hf9 := wd_b2_e hf; clear hf; obtain ⟨r3, w1, hc2, hf⟩ := hf9
  refine z_callV (ci := 11) (As := [.int p0]) (rest := []) (c_X11_hostOf l E n w this p0 r3 w1 (hZ.k 0 rfl rfl) hc2) mo_X11_hostOf rfl (by decide) rfl tw_448 tw_2 tw_446 hx hb hml hts hown hK ⟨Nat.le_trans (by decide) hR.1, Nat.le_trans (by decide) hR.2⟩ hZ (hZ.k 0 rfl rfl) rfl hl.1 rfl (Nat.le_of_ble_eq_true rfl) rfl dX11_forget_2 ?_; clear hZ; intro H locs cells slots hX hZ
  replace hZ := hZ.add (Nat.succ_ne_zero _) hX
  have hf9 := Option.bind_eq_some_iff.mp hf; clear hf; obtain ⟨a4, ha4, hf⟩ := hf9
  subst ha4
  replace hl : lv_has ls 2 [(0, .ref this), (1, .int p0)] := hl
  replace hZ : wd_Z E w R s w1 H locs cells slots [(some a4, 3), (some this, 12)] := hZ
  have hf9 := wd_b2_e hf; clear hf; obtain ⟨r7, w5, hc6, hf⟩ := hf9
  refine z_callV (ci := 2) (As := []) (rest := []) (c_X2_clearKnown l E n w1 a4 r7 w5 (hZ.k 0 rfl rfl) hc6) mo_X2_clearKnown rfl (by decide) rfl tw_950 tw_951 tw_949 hx hb hml hts hown hK ⟨Nat.le_trans (by decide) hR.1, Nat.le_trans (by decide) hR.2⟩ hZ (hZ.k 0 rfl rfl) rfl hl.1 rfl (Nat.le_of_ble_eq_true rfl) rfl dX11_forget_5 ?_; clear hZ; intro H locs cells slots hX hZ
  obtain ⟨rfl, rfl⟩ := Prod.mk.inj (Option.some.inj hf)
  exact z_iret hx hb hr hlocks hZ trivial dX11_forget_8

def f_X11_giveUp (n : Nat) (w : Wd) (this : Nat) (p0 : Int32) : Option (Int32 × Wd) :=
  wd_b2 (f_X11_hostOf n w this p0) fun r3 w1 =>
  Option.bind (wd_R w 1101 this) fun a4 =>
  wd_b2 (f_X9_complainOfWaiting n w1 a4 r3) fun r7 w5 =>
  some (r7, w5)
set_option maxHeartbeats 4000000 in
set_option maxRecDepth 100000 in
theorem c_X11_giveUp (l : Launch) (E : wd_E) (n : Nat) (w : Wd) (this : Nat) (p0 : Int32) (r' : Int32) (w' : Wd) (k_this : wd_K w this = 12) (hf : f_X11_giveUp n w this p0 = some (r', w')) : wd_C l E yX11_giveUp cX11_giveUp 2 (some .int) 7 173 [.ref this, .int p0] w (some (.int r')) w' True := by
  refine wd_ofW (own := RX11) (nm := "giveUp") (ks := [(some this, 12)]) (lv := [(0, .ref this), (1, .int p0)]) (by decide) rfl rfl (Nat.le_of_ble_eq_true rfl) rfl (List.forall_mem_cons.mpr ⟨⟨Nat.succ_ne_zero _, fun q hq => by cases hq; exact k_this⟩, (fun _ hq => absurd hq List.not_mem_nil)⟩) ?_
  intro p e s m args below meth c R H locs cells slots ls C hR hZ hl
  obtain ⟨hx, hb, hr, hml, hts, hown, hlocks, hmn, hK⟩ := id C
  unfold f_X11_giveUp at hf
  refine lv_aload_n (i := 0) hx hb dX11_giveUp_0 rfl (lv_at hl 0 rfl) ?_
  refine z_getR (tk := 9) fd_1101 rfl hx hb hts hown hK hZ (hZ.k 0 rfl rfl) tw_307 dX11_giveUp_1 ?_; clear hZ; intro hZ
  refine lv_aload_n (i := 0) hx hb dX11_giveUp_4 rfl (lv_at hl 0 rfl) ?_
  refine lv_iload_n (i := 1) hx hb dX11_giveUp_5 rfl (lv_at hl 1 rfl) ?_
  have hf9 := wd_b2_e hf; clear hf; obtain ⟨r3, w1, hc2, hf⟩ := hf9
  refine z_callV (ci := 11) (As := [.int p0]) (rest := [va_rf (wd_R w 1101 this)]) (c_X11_hostOf l E n w this p0 r3 w1 (hZ.k 1 rfl rfl) hc2) mo_X11_hostOf rfl (by decide) rfl tw_448 tw_2 tw_446 hx hb hml hts hown hK ⟨Nat.le_trans (by decide) hR.1, Nat.le_trans (by decide) hR.2⟩ hZ (hZ.k 1 rfl rfl) rfl hl.1 rfl (by simp [va_rf_cat, va_cat_r, va_cat_i, va_cat_l, va_cat_d]) rfl dX11_giveUp_6 ?_; clear hZ; intro H locs cells slots hX hZ
  replace hZ := hZ.add (Nat.succ_ne_zero _) hX
  have hf9 := Option.bind_eq_some_iff.mp hf; clear hf; obtain ⟨a4, ha4, hf⟩ := hf9
  replace hZ := hZ.add (r := some a4) (k := 10) (Nat.succ_ne_zero _) (fun q hq => by cases hq; exact hZ.k 1 rfl ha4)
  rw [ha4]
  have hf9 := wd_b2_e hf; clear hf; obtain ⟨r7, w5, hc6, hf⟩ := hf9
  refine z_callV (ci := 9) (As := [va_rf r3]) (rest := []) (c_X9_complainOfWaiting l E n w1 a4 r3 r7 w5 (hZ.k 0 rfl rfl) (fun q hq => hZ.k 1 rfl hq) hc6) mo_X9_complainOfWaiting rfl (by decide) rfl tw_966 tw_967 tw_965 hx hb hml hts hown hK ⟨Nat.le_trans (by decide) hR.1, Nat.le_trans (by decide) hR.2⟩ hZ (hZ.k 0 rfl rfl) rfl hl.1 rfl (Nat.le_of_ble_eq_true rfl) rfl dX11_giveUp_9 ?_; clear hZ; intro H locs cells slots hX hZ
  obtain ⟨rfl, rfl⟩ := Prod.mk.inj (Option.some.inj hf)
  exact z_iret hx hb hr hlocks hZ trivial dX11_giveUp_12

def f_X11_machines (n : Nat) (w : Wd) (this : Nat) : Option (Int32 × Wd) :=
  Option.bind (wd_R w 1100 this) fun a1 =>
  some ((wd_I w 503 a1), w)
set_option maxHeartbeats 4000000 in
set_option maxRecDepth 100000 in
theorem c_X11_machines (l : Launch) (E : wd_E) (n : Nat) (w : Wd) (this : Nat) (r' : Int32) (w' : Wd) (k_this : wd_K w this = 12) (hf : f_X11_machines n w this = some (r', w')) : wd_C l E yX11_machines cX11_machines 1 (some .int) 0 0 [.ref this] w (some (.int r')) w' True := by
  refine wd_ofW (own := RX11) (nm := "machines") (ks := [(some this, 12)]) (lv := [(0, .ref this)]) (by decide) rfl rfl (Nat.le_of_ble_eq_true rfl) rfl (List.forall_mem_cons.mpr ⟨⟨Nat.succ_ne_zero _, fun q hq => by cases hq; exact k_this⟩, (fun _ hq => absurd hq List.not_mem_nil)⟩) ?_
  intro p e s m args below meth c R H locs cells slots ls C hR hZ hl
  obtain ⟨hx, hb, hr, hml, hts, hown, hlocks, hmn, hK⟩ := id C
  unfold f_X11_machines at hf
  refine lv_aload_n (i := 0) hx hb dX11_machines_0 rfl (lv_at hl 0 rfl) ?_
  refine z_getR (tk := 5) fd_1100 rfl hx hb hts hown hK hZ (hZ.k 0 rfl rfl) tw_306 dX11_machines_1 ?_; clear hZ; intro hZ
  have hf9 := Option.bind_eq_some_iff.mp hf; clear hf; obtain ⟨a1, ha1, hf⟩ := hf9
  replace hZ := hZ.add (r := some a1) (k := 6) (Nat.succ_ne_zero _) (fun q hq => by cases hq; exact hZ.k 0 rfl ha1)
  rw [ha1]
  refine z_getI fd_503 rfl hx hb hts hown hK hZ (hZ.k 0 rfl rfl) tw_124 dX11_machines_4 ?_
  obtain ⟨rfl, rfl⟩ := Prod.mk.inj (Option.some.inj hf)
  exact z_iret hx hb hr hlocks hZ trivial dX11_machines_7

def f_X11_packets (n : Nat) (w : Wd) (this : Nat) : Option (Int32 × Wd) :=
  Option.bind (wd_R w 1101 this) fun a1 =>
  some ((wd_I w 901 a1), w)
set_option maxHeartbeats 4000000 in
set_option maxRecDepth 100000 in
theorem c_X11_packets (l : Launch) (E : wd_E) (n : Nat) (w : Wd) (this : Nat) (r' : Int32) (w' : Wd) (k_this : wd_K w this = 12) (hf : f_X11_packets n w this = some (r', w')) : wd_C l E yX11_packets cX11_packets 1 (some .int) 0 0 [.ref this] w (some (.int r')) w' True := by
  refine wd_ofW (own := RX11) (nm := "packets") (ks := [(some this, 12)]) (lv := [(0, .ref this)]) (by decide) rfl rfl (Nat.le_of_ble_eq_true rfl) rfl (List.forall_mem_cons.mpr ⟨⟨Nat.succ_ne_zero _, fun q hq => by cases hq; exact k_this⟩, (fun _ hq => absurd hq List.not_mem_nil)⟩) ?_
  intro p e s m args below meth c R H locs cells slots ls C hR hZ hl
  obtain ⟨hx, hb, hr, hml, hts, hown, hlocks, hmn, hK⟩ := id C
  unfold f_X11_packets at hf
  refine lv_aload_n (i := 0) hx hb dX11_packets_0 rfl (lv_at hl 0 rfl) ?_
  refine z_getR (tk := 9) fd_1101 rfl hx hb hts hown hK hZ (hZ.k 0 rfl rfl) tw_307 dX11_packets_1 ?_; clear hZ; intro hZ
  have hf9 := Option.bind_eq_some_iff.mp hf; clear hf; obtain ⟨a1, ha1, hf⟩ := hf9
  replace hZ := hZ.add (r := some a1) (k := 10) (Nat.succ_ne_zero _) (fun q hq => by cases hq; exact hZ.k 0 rfl ha1)
  rw [ha1]
  refine z_getI fd_901 rfl hx hb hts hown hK hZ (hZ.k 0 rfl rfl) tw_246 dX11_packets_4 ?_
  obtain ⟨rfl, rfl⟩ := Prod.mk.inj (Option.some.inj hf)
  exact z_iret hx hb hr hlocks hZ trivial dX11_packets_7

def f_X11_steps (n : Nat) (w : Wd) (this : Nat) : Option (Int32 × Wd) :=
  Option.bind (wd_R w 1101 this) fun a1 =>
  some ((wd_I w 902 a1), w)
set_option maxHeartbeats 4000000 in
set_option maxRecDepth 100000 in
theorem c_X11_steps (l : Launch) (E : wd_E) (n : Nat) (w : Wd) (this : Nat) (r' : Int32) (w' : Wd) (k_this : wd_K w this = 12) (hf : f_X11_steps n w this = some (r', w')) : wd_C l E yX11_steps cX11_steps 1 (some .int) 0 0 [.ref this] w (some (.int r')) w' True := by
  refine wd_ofW (own := RX11) (nm := "steps") (ks := [(some this, 12)]) (lv := [(0, .ref this)]) (by decide) rfl rfl (Nat.le_of_ble_eq_true rfl) rfl (List.forall_mem_cons.mpr ⟨⟨Nat.succ_ne_zero _, fun q hq => by cases hq; exact k_this⟩, (fun _ hq => absurd hq List.not_mem_nil)⟩) ?_
  intro p e s m args below meth c R H locs cells slots ls C hR hZ hl
  obtain ⟨hx, hb, hr, hml, hts, hown, hlocks, hmn, hK⟩ := id C
  unfold f_X11_steps at hf
  refine lv_aload_n (i := 0) hx hb dX11_steps_0 rfl (lv_at hl 0 rfl) ?_
  refine z_getR (tk := 9) fd_1101 rfl hx hb hts hown hK hZ (hZ.k 0 rfl rfl) tw_307 dX11_steps_1 ?_; clear hZ; intro hZ
  have hf9 := Option.bind_eq_some_iff.mp hf; clear hf; obtain ⟨a1, ha1, hf⟩ := hf9
  replace hZ := hZ.add (r := some a1) (k := 10) (Nat.succ_ne_zero _) (fun q hq => by cases hq; exact hZ.k 0 rfl ha1)
  rw [ha1]
  refine z_getI fd_902 rfl hx hb hts hown hK hZ (hZ.k 0 rfl rfl) tw_247 dX11_steps_4 ?_
  obtain ⟨rfl, rfl⟩ := Prod.mk.inj (Option.some.inj hf)
  exact z_iret hx hb hr hlocks hZ trivial dX11_steps_7

def f_X11_gone (n : Nat) (w : Wd) (this : Nat) : Option (Int32 × Wd) :=
  Option.bind (wd_R w 1101 this) fun a1 =>
  wd_b2 (f_X9_goneInAll n w a1) fun r4 w2 =>
  some (r4, w2)
set_option maxHeartbeats 4000000 in
set_option maxRecDepth 100000 in
theorem c_X11_gone (l : Launch) (E : wd_E) (n : Nat) (w : Wd) (this : Nat) (r' : Int32) (w' : Wd) (k_this : wd_K w this = 12) (hf : f_X11_gone n w this = some (r', w')) : wd_C l E yX11_gone cX11_gone 1 (some .int) 1 22 [.ref this] w (some (.int r')) w' True := by
  refine wd_ofW (own := RX11) (nm := "gone") (ks := [(some this, 12)]) (lv := [(0, .ref this)]) (by decide) rfl rfl (Nat.le_of_ble_eq_true rfl) rfl (List.forall_mem_cons.mpr ⟨⟨Nat.succ_ne_zero _, fun q hq => by cases hq; exact k_this⟩, (fun _ hq => absurd hq List.not_mem_nil)⟩) ?_
  intro p e s m args below meth c R H locs cells slots ls C hR hZ hl
  obtain ⟨hx, hb, hr, hml, hts, hown, hlocks, hmn, hK⟩ := id C
  unfold f_X11_gone at hf
  refine lv_aload_n (i := 0) hx hb dX11_gone_0 rfl (lv_at hl 0 rfl) ?_
  refine z_getR (tk := 9) fd_1101 rfl hx hb hts hown hK hZ (hZ.k 0 rfl rfl) tw_307 dX11_gone_1 ?_; clear hZ; intro hZ
  have hf9 := Option.bind_eq_some_iff.mp hf; clear hf; obtain ⟨a1, ha1, hf⟩ := hf9
  replace hZ := hZ.add (r := some a1) (k := 10) (Nat.succ_ne_zero _) (fun q hq => by cases hq; exact hZ.k 0 rfl ha1)
  rw [ha1]
  have hf9 := wd_b2_e hf; clear hf; obtain ⟨r4, w2, hc3, hf⟩ := hf9
  refine z_callV (ci := 9) (As := []) (rest := []) (c_X9_goneInAll l E n w a1 r4 w2 (hZ.k 0 rfl rfl) hc3) mo_X9_goneInAll rfl (by decide) rfl tw_427 tw_428 tw_426 hx hb hml hts hown hK ⟨Nat.le_trans (by decide) hR.1, Nat.le_trans (by decide) hR.2⟩ hZ (hZ.k 0 rfl rfl) rfl hl.1 rfl (Nat.le_of_ble_eq_true rfl) rfl dX11_gone_4 ?_; clear hZ; intro H locs cells slots hX hZ
  obtain ⟨rfl, rfl⟩ := Prod.mk.inj (Option.some.inj hf)
  exact z_iret hx hb hr hlocks hZ trivial dX11_gone_7

def f_X11_frames (n : Nat) (w : Wd) (this : Nat) : Option (Int32 × Wd) :=
  Option.bind (wd_R w 1101 this) fun a1 =>
  Option.bind (wd_R w 900 a1) fun a2 =>
  some ((wd_I w 801 a2), w)
set_option maxHeartbeats 4000000 in
set_option maxRecDepth 100000 in
theorem c_X11_frames (l : Launch) (E : wd_E) (n : Nat) (w : Wd) (this : Nat) (r' : Int32) (w' : Wd) (k_this : wd_K w this = 12) (hf : f_X11_frames n w this = some (r', w')) : wd_C l E yX11_frames cX11_frames 1 (some .int) 0 0 [.ref this] w (some (.int r')) w' True := by
  refine wd_ofW (own := RX11) (nm := "frames") (ks := [(some this, 12)]) (lv := [(0, .ref this)]) (by decide) rfl rfl (Nat.le_of_ble_eq_true rfl) rfl (List.forall_mem_cons.mpr ⟨⟨Nat.succ_ne_zero _, fun q hq => by cases hq; exact k_this⟩, (fun _ hq => absurd hq List.not_mem_nil)⟩) ?_
  intro p e s m args below meth c R H locs cells slots ls C hR hZ hl
  obtain ⟨hx, hb, hr, hml, hts, hown, hlocks, hmn, hK⟩ := id C
  unfold f_X11_frames at hf
  refine lv_aload_n (i := 0) hx hb dX11_frames_0 rfl (lv_at hl 0 rfl) ?_
  refine z_getR (tk := 9) fd_1101 rfl hx hb hts hown hK hZ (hZ.k 0 rfl rfl) tw_307 dX11_frames_1 ?_; clear hZ; intro hZ
  have hf9 := Option.bind_eq_some_iff.mp hf; clear hf; obtain ⟨a1, ha1, hf⟩ := hf9
  replace hZ := hZ.add (r := some a1) (k := 10) (Nat.succ_ne_zero _) (fun q hq => by cases hq; exact hZ.k 0 rfl ha1)
  rw [ha1]
  refine z_getR (tk := 8) fd_900 rfl hx hb hts hown hK hZ (hZ.k 0 rfl rfl) tw_244 dX11_frames_4 ?_; clear hZ; intro hZ
  have hf9 := Option.bind_eq_some_iff.mp hf; clear hf; obtain ⟨a2, ha2, hf⟩ := hf9
  replace hZ := hZ.add (r := some a2) (k := 9) (Nat.succ_ne_zero _) (fun q hq => by cases hq; exact hZ.k 0 rfl ha2)
  rw [ha2]
  refine z_getI fd_801 rfl hx hb hts hown hK hZ (hZ.k 0 rfl rfl) tw_152 dX11_frames_7 ?_
  obtain ⟨rfl, rfl⟩ := Prod.mk.inj (Option.some.inj hf)
  exact z_iret hx hb hr hlocks hZ trivial dX11_frames_10

def f_X11_needPart_j9 (n : Nat) (w : Wd) : Option Wd :=
  none
def f_X11_needPart (n : Nat) (w : Wd) (p0 : Int32) (p1 : Int32) : Option Wd :=
  if p0 < 0 then
    f_X11_needPart_j9 n w
  else
    if p0 < p1 then
      some w
    else
      f_X11_needPart_j9 n w
set_option maxHeartbeats 4000000 in
set_option maxRecDepth 100000 in
theorem v_X11_needPart_j9 {p : Program} {l : Launch} {e : Env} {R : Room} {s : State} {m : MethodId} {args : Array Value} {below : List Frame} {meth : Method} {c : Code} {E : wd_E} {w0 : Wd} {w' : Wd} (n : Nat) (C : wd_X p s m args meth c cX11_needPart RX11 2 none "needPart" E) (hR : 0 ≤ R.frames ∧ 0 ≤ R.locals) (w : Wd) (H : Heap) (locs : List Loc) (cells slots : Nat) (ls : Array Slot) (hZ : wd_Z E w0 R s w H locs cells slots []) (hl : lv_has ls 2 []) (hf : f_X11_needPart_j9 n w = some w') : W p l e R s m args below meth c H locs cells slots (wd_fin E w0 none w' True R args s below) (F0 m 9 ls []) := by
  obtain ⟨hx, hb, hr, hml, hts, hown, hlocks, hmn, hK⟩ := id C
  unfold f_X11_needPart_j9 at hf
  cases hf

set_option maxHeartbeats 4000000 in
set_option maxRecDepth 100000 in
theorem c_X11_needPart (l : Launch) (E : wd_E) (n : Nat) (w : Wd) (p0 : Int32) (p1 : Int32) (w' : Wd)  (hf : f_X11_needPart n w p0 p1 = some w') : wd_C l E yX11_needPart cX11_needPart 2 none 0 0 [.int p0, .int p1] w none w' True := by
  refine wd_ofW (own := RX11) (nm := "needPart") (ks := []) (lv := [(0, .int p0), (1, .int p1)]) (by decide) rfl rfl (Nat.le_of_ble_eq_true rfl) rfl (fun _ hq => absurd hq List.not_mem_nil) ?_
  intro p e s m args below meth c R H locs cells slots ls C hR hZ hl
  obtain ⟨hx, hb, hr, hml, hts, hown, hlocks, hmn, hK⟩ := id C
  unfold f_X11_needPart at hf
  refine lv_iload_n (i := 0) hx hb dX11_needPart_0 rfl (lv_at hl 0 rfl) ?_
  refine lv_if_lt (tgt := 9) hx hb dX11_needPart_1 (by decide) (fun h1 => ?_) (fun h1 => ?_)
  · replace hf := wd_ite_p h1 hf
    exact v_X11_needPart_j9 n C hR w _ _ _ _ _ ⟨hZ.1, hZ.2.1, hZ.2.2.1, hZ.2.2.2.1, (fun _ hq => absurd hq List.not_mem_nil), hZ.2.2.2.2.2⟩ (lv_sub hl [] rfl) hf
  · replace hf := wd_ite_n h1 hf
    refine lv_iload_n (i := 0) hx hb dX11_needPart_4 rfl (lv_at hl 0 rfl) ?_
    refine lv_iload_n (i := 1) hx hb dX11_needPart_5 rfl (lv_at hl 1 rfl) ?_
    refine lv_icmp_lt (tgt := 20) hx hb dX11_needPart_6 (by decide) (fun h2 => ?_) (fun h2 => ?_)
    · replace hf := wd_ite_p h2 hf
      obtain rfl := Option.some.inj hf
      exact z_vret hx hb hr hlocks hZ trivial dX11_needPart_20
    · replace hf := wd_ite_n h2 hf
      exact v_X11_needPart_j9 n C hR w _ _ _ _ _ ⟨hZ.1, hZ.2.1, hZ.2.2.1, hZ.2.2.2.1, (fun _ hq => absurd hq List.not_mem_nil), hZ.2.2.2.2.2⟩ (lv_sub hl [] rfl) hf

