/-! ===== meanings and contracts, laid by wip/p33/gen ===== -/
def f_X10_look_j134 (n : Nat) (rec12 : Nat → Option Nat → Int32 → Wd → Option Wd) (x0 : Nat) (x1 : Option Nat) (x2 : Int32) (w : Wd) : Option Wd :=
  wd_let (x2 + (-1)) fun v19 =>
  rec12 x0 x1 v19 w
def f_X10_look_j109 (n : Nat) (rec12 : Nat → Option Nat → Int32 → Wd → Option Wd) (x0 : Nat) (x1 : Option Nat) (x2 : Int32) (x3 : Int32) (w : Wd) : Option Wd :=
  wd_let (wd_sI w 1001 x0 x3) fun w22 =>
  Option.bind x1 fun a24 =>
  wd_b2 (f_X2_notePart n w22 a24 x2 (1 : Int32)) fun r27 w25 =>
  wd_let (wd_sI w25 1002 x0 r27) fun w28 =>
  wd_b2 (f_X2_notePart n w28 a24 x2 (5 : Int32)) fun r32 w30 =>
  wd_let (wd_sI w30 1003 x0 r32) fun w33 =>
  f_X10_look_j134 n rec12 x0 (some a24) x2 w33
def f_X10_look_j88 (n : Nat) (rec12 : Nat → Option Nat → Int32 → Wd → Option Wd) (y0 : Int32) (y1 : Nat) (x0 : Nat) (x1 : Option Nat) (x2 : Int32) (x3 : Int32) (x4 : Int32) (x5 : Int32) (w : Wd) : Option Wd :=
  wd_gd (¬ (y0 = 0 ∨ y0 = 1)) <|
  wd_let (wd_sI w 1000 y1 y0) fun w16 =>
  if (wd_I w16 1001 x0) = (-1 : Int32) then
    if x4 = 0 then
      if x5 = 0 then
        f_X10_look_j134 n rec12 x0 x1 x2 w16
      else
        f_X10_look_j109 n rec12 x0 x1 x2 x3 w16
    else
      f_X10_look_j109 n rec12 x0 x1 x2 x3 w16
  else
    f_X10_look_j134 n rec12 x0 x1 x2 w16
def f_X10_look_j83 (n : Nat) (rec12 : Nat → Option Nat → Int32 → Wd → Option Wd) (y0 : Nat) (x0 : Nat) (x1 : Option Nat) (x2 : Int32) (x3 : Int32) (x4 : Int32) (x5 : Int32) (w : Wd) : Option Wd :=
  f_X10_look_j88 n rec12 (1 : Int32) y0 x0 x1 x2 x3 x4 x5 w
def f_X10_look_j68 (n : Nat) (rec12 : Nat → Option Nat → Int32 → Wd → Option Wd) (y0 : Int32) (x0 : Nat) (x1 : Option Nat) (x2 : Int32) (x3 : Int32) (x4 : Int32) (w : Wd) : Option Wd :=
  if (wd_I w 1000 x0) = 0 then
    if x4 = 0 then
      f_X10_look_j88 n rec12 (0 : Int32) x0 x0 x1 x2 x3 x4 y0 w
    else
      f_X10_look_j83 n rec12 x0 x0 x1 x2 x3 x4 y0 w
  else
    f_X10_look_j83 n rec12 x0 x0 x1 x2 x3 x4 y0 w
def f_X10_look_j63 (n : Nat) (rec12 : Nat → Option Nat → Int32 → Wd → Option Wd) (x0 : Nat) (x1 : Option Nat) (x2 : Int32) (x3 : Int32) (x4 : Int32) (w : Wd) : Option Wd :=
  f_X10_look_j68 n rec12 (1 : Int32) x0 x1 x2 x3 x4 w
def f_X10_look_j46 (n : Nat) (rec12 : Nat → Option Nat → Int32 → Wd → Option Wd) (y0 : Int32) (x0 : Nat) (x1 : Option Nat) (x2 : Int32) (x3 : Int32) (w : Wd) : Option Wd :=
  if x3 = (3 : Int32) then
    f_X10_look_j63 n rec12 x0 x1 x2 x3 y0 w
  else
    if x3 = (4 : Int32) then
      f_X10_look_j63 n rec12 x0 x1 x2 x3 y0 w
    else
      if x3 = (5 : Int32) then
        f_X10_look_j63 n rec12 x0 x1 x2 x3 y0 w
      else
        f_X10_look_j68 n rec12 (0 : Int32) x0 x1 x2 x3 y0 w
def f_X10_look_j45 (n : Nat) (rec12 : Nat → Option Nat → Int32 → Wd → Option Wd) (x0 : Nat) (x1 : Option Nat) (x2 : Int32) (x3 : Int32) (w : Wd) : Option Wd :=
  f_X10_look_j46 n rec12 (0 : Int32) x0 x1 x2 x3 w
def f_X10_look_l12 (n : Nat) (rec12 : Nat → Option Nat → Int32 → Wd → Option Wd) (x0 : Nat) (x1 : Option Nat) (x2 : Int32) (w : Wd) : Option Wd :=
  if x2 < 0 then
    Option.bind x1 fun a5 =>
    wd_let (wd_sI w 1006 x0 (wd_I w 203 a5)) fun w6 =>
    some w6
  else
    Option.bind x1 fun a8 =>
    wd_b2 (f_X2_notePart n w a8 x2 (0 : Int32)) fun r11 w9 =>
    if r11 = (2 : Int32) then
      wd_b2 (f_X2_notePart n w9 a8 x2 (5 : Int32)) fun r41 w39 =>
      if r41 = (wd_I w39 1005 x0) then
        f_X10_look_j46 n rec12 (1 : Int32) x0 (some a8) x2 r11 w39
      else
        f_X10_look_j45 n rec12 x0 (some a8) x2 r11 w39
    else
      f_X10_look_j45 n rec12 x0 (some a8) x2 r11 w9
def f_X10_look (n : Nat) (w : Wd) (this : Nat) (p0 : Option Nat) : Option Wd :=
  Option.bind p0 fun a1 =>
  wd_let (((wd_I w 203 a1) - (wd_I w 1006 this)) - (1 : Int32)) fun v2 =>
  wd_lp4 (f_X10_look_l12 n) n this (some a1) v2 w
set_option maxHeartbeats 4000000 in
set_option maxRecDepth 100000 in
theorem v_X10_look_j134 {p : Program} {l : Launch} {e : Env} {R : Room} {s : State} {m : MethodId} {args : Array Value} {below : List Frame} {meth : Method} {c : Code} {E : wd_E} {w0 : Wd} {w' : Wd} (n : Nat) (C : wd_X p s m args meth c cX10_look RX10 6 none "look" E) (hR : 2 ≤ R.frames ∧ 43 ≤ R.locals) (rec12 : Nat → Option Nat → Int32 → Wd → Option Wd) (hrec12 : ∀ (x0_ : Nat) (x1_ : Option Nat) (x2_ : Int32) (w_ : Wd) (H : Heap) (locs : List Loc) (cells slots : Nat) (ls : Array Slot), wd_Z E w0 R s w_ H locs cells slots [(some x0_, 11), (x1_, 3)] → lv_has ls 6 [(0, .ref x0_), (1, va_rf x1_), (2, .int x2_)] → rec12 x0_ x1_ x2_ w_ = some w' → W p l e R s m args below meth c H locs cells slots (wd_fin E w0 none w' True R args s below) (F0 m 12 ls [])) (x0 : Nat) (x1 : Option Nat) (x2 : Int32) (w : Wd) (H : Heap) (locs : List Loc) (cells slots : Nat) (ls : Array Slot) (hZ : wd_Z E w0 R s w H locs cells slots [(some x0, 11), (x1, 3)]) (hl : lv_has ls 6 [(0, .ref x0), (1, va_rf x1), (2, .int x2)]) (hf : f_X10_look_j134 n rec12 x0 x1 x2 w = some w') : W p l e R s m args below meth c H locs cells slots (wd_fin E w0 none w' True R args s below) (F0 m 134 ls []) := by
  obtain ⟨hx, hb, hr, hml, hts, hown, hlocks, hmn, hK⟩ := id C
  unfold f_X10_look_j134 at hf
  obtain ⟨v19, e20, hf⟩ := wd_let_e hf
  refine lv_iinc (k := 2) (v := v19) (lv' := [(2, .int v19), (0, .ref x0), (1, va_rf x1)]) hx hb dX10_look_134 hl rfl (by rw [← e20]; rfl) (by decide) (by simp [va_rf_cat, Value.category]) (fun ls hl => ?_)
  refine lv_goto (tgt := 12) hx hb dX10_look_137 (by decide) ?_
  exact hrec12 x0 x1 v19 w _ _ _ _ _ ⟨hZ.1, hZ.2.1, hZ.2.2.1, hZ.2.2.2.1, (List.forall_mem_cons.mpr ⟨⟨by decide, (fun q hq => by cases hq; exact (hZ.k 0 rfl rfl))⟩, (List.forall_mem_cons.mpr ⟨⟨by decide, (fun q hq => hZ.k 1 rfl hq)⟩, (fun _ hq => absurd hq List.not_mem_nil)⟩)⟩), hZ.2.2.2.2.2⟩ (lv_sub hl [1, 2, 0] rfl) hf

set_option maxHeartbeats 4000000 in
set_option maxRecDepth 100000 in
theorem v_X10_look_j109 {p : Program} {l : Launch} {e : Env} {R : Room} {s : State} {m : MethodId} {args : Array Value} {below : List Frame} {meth : Method} {c : Code} {E : wd_E} {w0 : Wd} {w' : Wd} (n : Nat) (C : wd_X p s m args meth c cX10_look RX10 6 none "look" E) (hR : 2 ≤ R.frames ∧ 43 ≤ R.locals) (rec12 : Nat → Option Nat → Int32 → Wd → Option Wd) (hrec12 : ∀ (x0_ : Nat) (x1_ : Option Nat) (x2_ : Int32) (w_ : Wd) (H : Heap) (locs : List Loc) (cells slots : Nat) (ls : Array Slot), wd_Z E w0 R s w_ H locs cells slots [(some x0_, 11), (x1_, 3)] → lv_has ls 6 [(0, .ref x0_), (1, va_rf x1_), (2, .int x2_)] → rec12 x0_ x1_ x2_ w_ = some w' → W p l e R s m args below meth c H locs cells slots (wd_fin E w0 none w' True R args s below) (F0 m 12 ls [])) (x0 : Nat) (x1 : Option Nat) (x2 : Int32) (x3 : Int32) (w : Wd) (H : Heap) (locs : List Loc) (cells slots : Nat) (ls : Array Slot) (hZ : wd_Z E w0 R s w H locs cells slots [(some x0, 11), (x1, 3)]) (hl : lv_has ls 6 [(0, .ref x0), (1, va_rf x1), (2, .int x2), (3, .int x3)]) (hf : f_X10_look_j109 n rec12 x0 x1 x2 x3 w = some w') : W p l e R s m args below meth c H locs cells slots (wd_fin E w0 none w' True R args s below) (F0 m 109 ls []) := by
  obtain ⟨hx, hb, hr, hml, hts, hown, hlocks, hmn, hK⟩ := id C
  unfold f_X10_look_j109 at hf
  refine lv_aload_n hx hb dX10_look_109 rfl (lv_at hl 0 rfl) ?_
  refine lv_iload_n hx hb dX10_look_110 rfl (lv_at hl 3 rfl) ?_
  refine z_putI fd_1001 cok_10 rfl rfl rfl rfl rfl hx hb hts hown hK hZ (hZ.k 0 rfl rfl) tw_282 dX10_look_111 (fun H locs hZ => ?_)
  obtain ⟨w22, e23, hf⟩ := wd_let_e hf
  rw [e23] at hZ
  refine lv_aload_n hx hb dX10_look_114 rfl (lv_at hl 0 rfl) ?_
  refine z_aload_n hx hb dX10_look_115 rfl (lv_at hl 1 rfl) ?_
  refine lv_iload_n hx hb dX10_look_116 rfl (lv_at hl 2 rfl) ?_
  refine lv_iconst (v := 1) hx hb dX10_look_117 (by decide) ?_
  obtain ⟨a24, ha24, hf⟩ := Option.bind_eq_some_iff.mp hf
  subst ha24
  have hl : lv_has ls 6 [(0, .ref x0), (1, .ref a24), (2, .int x2), (3, .int x3)] := hl
  have hZ : wd_Z E w0 R s w22 H locs cells slots [(some x0, 11), (some a24, 3)] := hZ
  obtain ⟨r27, w25, hc26, hf⟩ := wd_b2_e hf
  refine z_callV (ci := 2) (As := [.int x2, .int (1 : Int32)]) (rest := [.ref x0]) (c_X2_notePart l E n w22 a24 x2 (1 : Int32) r27 w25 (hZ.k 1 rfl rfl) hc26) mo_X2_notePart rfl (by decide) rfl tw_479 tw_480 tw_1086 hx hb hml hts hown hK ⟨Nat.le_trans (by decide) hR.1, Nat.le_trans (by decide) hR.2⟩ hZ (hZ.k 1 rfl rfl) rfl hl.1 rfl (Nat.le_of_ble_eq_true rfl) rfl dX10_look_118 (fun H locs cells slots hX hZ => ?_)
  refine z_putI fd_1002 cok_10 rfl rfl rfl rfl rfl hx hb hts hown hK hZ (hZ.k 0 rfl rfl) tw_284 dX10_look_121 (fun H locs hZ => ?_)
  obtain ⟨w28, e29, hf⟩ := wd_let_e hf
  rw [e29] at hZ
  refine lv_aload_n hx hb dX10_look_124 rfl (lv_at hl 0 rfl) ?_
  refine lv_aload_n hx hb dX10_look_125 rfl (lv_at hl 1 rfl) ?_
  refine lv_iload_n hx hb dX10_look_126 rfl (lv_at hl 2 rfl) ?_
  refine lv_iconst (v := 5) hx hb dX10_look_127 (by decide) ?_
  obtain ⟨r32, w30, hc31, hf⟩ := wd_b2_e hf
  refine z_callV (ci := 2) (As := [.int x2, .int (5 : Int32)]) (rest := [.ref x0]) (c_X2_notePart l E n w28 a24 x2 (5 : Int32) r32 w30 (hZ.k 1 rfl rfl) hc31) mo_X2_notePart rfl (by decide) rfl tw_479 tw_480 tw_1086 hx hb hml hts hown hK ⟨Nat.le_trans (by decide) hR.1, Nat.le_trans (by decide) hR.2⟩ hZ (hZ.k 1 rfl rfl) rfl hl.1 rfl (Nat.le_of_ble_eq_true rfl) rfl dX10_look_128 (fun H locs cells slots hX hZ => ?_)
  refine z_putI fd_1003 cok_10 rfl rfl rfl rfl rfl hx hb hts hown hK hZ (hZ.k 0 rfl rfl) tw_286 dX10_look_131 (fun H locs hZ => ?_)
  obtain ⟨w33, e34, hf⟩ := wd_let_e hf
  rw [e34] at hZ
  exact v_X10_look_j134 n C hR rec12 hrec12 x0 (some a24) x2 w33 _ _ _ _ _ ⟨hZ.1, hZ.2.1, hZ.2.2.1, hZ.2.2.2.1, (List.forall_mem_cons.mpr ⟨⟨by decide, (fun q hq => by cases hq; exact (hZ.k 0 rfl rfl))⟩, (List.forall_mem_cons.mpr ⟨⟨by decide, (fun q hq => by cases hq; exact (hZ.k 1 rfl rfl))⟩, (fun _ hq => absurd hq List.not_mem_nil)⟩)⟩), hZ.2.2.2.2.2⟩ (lv_sub hl [0, 1, 2] rfl) hf

set_option maxHeartbeats 4000000 in
set_option maxRecDepth 100000 in
theorem v_X10_look_j88 {p : Program} {l : Launch} {e : Env} {R : Room} {s : State} {m : MethodId} {args : Array Value} {below : List Frame} {meth : Method} {c : Code} {E : wd_E} {w0 : Wd} {w' : Wd} (n : Nat) (C : wd_X p s m args meth c cX10_look RX10 6 none "look" E) (hR : 2 ≤ R.frames ∧ 43 ≤ R.locals) (rec12 : Nat → Option Nat → Int32 → Wd → Option Wd) (hrec12 : ∀ (x0_ : Nat) (x1_ : Option Nat) (x2_ : Int32) (w_ : Wd) (H : Heap) (locs : List Loc) (cells slots : Nat) (ls : Array Slot), wd_Z E w0 R s w_ H locs cells slots [(some x0_, 11), (x1_, 3)] → lv_has ls 6 [(0, .ref x0_), (1, va_rf x1_), (2, .int x2_)] → rec12 x0_ x1_ x2_ w_ = some w' → W p l e R s m args below meth c H locs cells slots (wd_fin E w0 none w' True R args s below) (F0 m 12 ls [])) (y0 : Int32) (y1 : Nat) (x0 : Nat) (x1 : Option Nat) (x2 : Int32) (x3 : Int32) (x4 : Int32) (x5 : Int32) (w : Wd) (H : Heap) (locs : List Loc) (cells slots : Nat) (ls : Array Slot) (hZ : wd_Z E w0 R s w H locs cells slots [(some y1, 11), (some x0, 11), (x1, 3)]) (hl : lv_has ls 6 [(0, .ref x0), (1, va_rf x1), (2, .int x2), (3, .int x3), (4, .int x4), (5, .int x5)]) (hf : f_X10_look_j88 n rec12 y0 y1 x0 x1 x2 x3 x4 x5 w = some w') : W p l e R s m args below meth c H locs cells slots (wd_fin E w0 none w' True R args s below) (F0 m 88 ls [.int y0, .ref y1]) := by
  obtain ⟨hx, hb, hr, hml, hts, hown, hlocks, hmn, hK⟩ := id C
  unfold f_X10_look_j88 at hf
  obtain ⟨h15, hf⟩ := wd_gd_e hf
  refine z_putI fd_1000 cok_10 rfl rfl rfl (wd_zn h15) (wd_zf h15) hx hb hts hown hK hZ (hZ.k 0 rfl rfl) tw_280 dX10_look_88 (fun H locs hZ => ?_)
  obtain ⟨w16, e17, hf⟩ := wd_let_e hf
  rw [e17] at hZ
  refine lv_aload_n hx hb dX10_look_91 rfl (lv_at hl 0 rfl) ?_
  refine z_getI fd_1001 rfl hx hb hts hown hK hZ (hZ.k 1 rfl rfl) tw_282 dX10_look_92 ?_
  refine lv_iconst (v := -1) hx hb dX10_look_95 (by decide) ?_
  refine lv_icmp_ne (tgt := 134) hx hb dX10_look_96 (by decide) (fun h18 => ?_) (fun h18 => ?_)
  · have hf := wd_ite_n h18 hf
    exact v_X10_look_j134 n C hR rec12 hrec12 x0 x1 x2 w16 _ _ _ _ _ ⟨hZ.1, hZ.2.1, hZ.2.2.1, hZ.2.2.2.1, (List.forall_mem_cons.mpr ⟨⟨by decide, (fun q hq => by cases hq; exact (hZ.k 1 rfl rfl))⟩, (List.forall_mem_cons.mpr ⟨⟨by decide, (fun q hq => hZ.k 2 rfl hq)⟩, (fun _ hq => absurd hq List.not_mem_nil)⟩)⟩), hZ.2.2.2.2.2⟩ (lv_sub hl [0, 1, 2] rfl) hf
  · have hf := wd_ite_p h18 hf
    refine lv_iload hx hb dX10_look_99 (lv_at hl 4 rfl) ?_
    refine lv_if_ne (tgt := 109) hx hb dX10_look_101 (by decide) (fun h21 => ?_) (fun h21 => ?_)
    · have hf := wd_ite_n h21 hf
      exact v_X10_look_j109 n C hR rec12 hrec12 x0 x1 x2 x3 w16 _ _ _ _ _ ⟨hZ.1, hZ.2.1, hZ.2.2.1, hZ.2.2.2.1, (List.forall_mem_cons.mpr ⟨⟨by decide, (fun q hq => by cases hq; exact (hZ.k 1 rfl rfl))⟩, (List.forall_mem_cons.mpr ⟨⟨by decide, (fun q hq => hZ.k 2 rfl hq)⟩, (fun _ hq => absurd hq List.not_mem_nil)⟩)⟩), hZ.2.2.2.2.2⟩ (lv_sub hl [0, 1, 2, 3] rfl) hf
    · have hf := wd_ite_p h21 hf
      refine lv_iload hx hb dX10_look_104 (lv_at hl 5 rfl) ?_
      refine lv_if_eq (tgt := 134) hx hb dX10_look_106 (by decide) (fun h35 => ?_) (fun h35 => ?_)
      · have hf := wd_ite_p h35 hf
        exact v_X10_look_j134 n C hR rec12 hrec12 x0 x1 x2 w16 _ _ _ _ _ ⟨hZ.1, hZ.2.1, hZ.2.2.1, hZ.2.2.2.1, (List.forall_mem_cons.mpr ⟨⟨by decide, (fun q hq => by cases hq; exact (hZ.k 1 rfl rfl))⟩, (List.forall_mem_cons.mpr ⟨⟨by decide, (fun q hq => hZ.k 2 rfl hq)⟩, (fun _ hq => absurd hq List.not_mem_nil)⟩)⟩), hZ.2.2.2.2.2⟩ (lv_sub hl [0, 1, 2] rfl) hf
      · have hf := wd_ite_n h35 hf
        exact v_X10_look_j109 n C hR rec12 hrec12 x0 x1 x2 x3 w16 _ _ _ _ _ ⟨hZ.1, hZ.2.1, hZ.2.2.1, hZ.2.2.2.1, (List.forall_mem_cons.mpr ⟨⟨by decide, (fun q hq => by cases hq; exact (hZ.k 1 rfl rfl))⟩, (List.forall_mem_cons.mpr ⟨⟨by decide, (fun q hq => hZ.k 2 rfl hq)⟩, (fun _ hq => absurd hq List.not_mem_nil)⟩)⟩), hZ.2.2.2.2.2⟩ (lv_sub hl [0, 1, 2, 3] rfl) hf

set_option maxHeartbeats 4000000 in
set_option maxRecDepth 100000 in
theorem v_X10_look_j83 {p : Program} {l : Launch} {e : Env} {R : Room} {s : State} {m : MethodId} {args : Array Value} {below : List Frame} {meth : Method} {c : Code} {E : wd_E} {w0 : Wd} {w' : Wd} (n : Nat) (C : wd_X p s m args meth c cX10_look RX10 6 none "look" E) (hR : 2 ≤ R.frames ∧ 43 ≤ R.locals) (rec12 : Nat → Option Nat → Int32 → Wd → Option Wd) (hrec12 : ∀ (x0_ : Nat) (x1_ : Option Nat) (x2_ : Int32) (w_ : Wd) (H : Heap) (locs : List Loc) (cells slots : Nat) (ls : Array Slot), wd_Z E w0 R s w_ H locs cells slots [(some x0_, 11), (x1_, 3)] → lv_has ls 6 [(0, .ref x0_), (1, va_rf x1_), (2, .int x2_)] → rec12 x0_ x1_ x2_ w_ = some w' → W p l e R s m args below meth c H locs cells slots (wd_fin E w0 none w' True R args s below) (F0 m 12 ls [])) (y0 : Nat) (x0 : Nat) (x1 : Option Nat) (x2 : Int32) (x3 : Int32) (x4 : Int32) (x5 : Int32) (w : Wd) (H : Heap) (locs : List Loc) (cells slots : Nat) (ls : Array Slot) (hZ : wd_Z E w0 R s w H locs cells slots [(some y0, 11), (some x0, 11), (x1, 3)]) (hl : lv_has ls 6 [(0, .ref x0), (1, va_rf x1), (2, .int x2), (3, .int x3), (4, .int x4), (5, .int x5)]) (hf : f_X10_look_j83 n rec12 y0 x0 x1 x2 x3 x4 x5 w = some w') : W p l e R s m args below meth c H locs cells slots (wd_fin E w0 none w' True R args s below) (F0 m 83 ls [.ref y0]) := by
  obtain ⟨hx, hb, hr, hml, hts, hown, hlocks, hmn, hK⟩ := id C
  unfold f_X10_look_j83 at hf
  refine lv_iconst (v := 1) hx hb dX10_look_83 (by decide) ?_
  refine lv_goto (tgt := 88) hx hb dX10_look_84 (by decide) ?_
  exact v_X10_look_j88 n C hR rec12 hrec12 (1 : Int32) y0 x0 x1 x2 x3 x4 x5 w _ _ _ _ _ ⟨hZ.1, hZ.2.1, hZ.2.2.1, hZ.2.2.2.1, (List.forall_mem_cons.mpr ⟨⟨by decide, (fun q hq => by cases hq; exact (hZ.k 0 rfl rfl))⟩, (List.forall_mem_cons.mpr ⟨⟨by decide, (fun q hq => by cases hq; exact (hZ.k 1 rfl rfl))⟩, (List.forall_mem_cons.mpr ⟨⟨by decide, (fun q hq => hZ.k 2 rfl hq)⟩, (fun _ hq => absurd hq List.not_mem_nil)⟩)⟩)⟩), hZ.2.2.2.2.2⟩ (lv_sub hl [0, 1, 2, 3, 4, 5] rfl) hf

set_option maxHeartbeats 4000000 in
set_option maxRecDepth 100000 in
theorem v_X10_look_j68 {p : Program} {l : Launch} {e : Env} {R : Room} {s : State} {m : MethodId} {args : Array Value} {below : List Frame} {meth : Method} {c : Code} {E : wd_E} {w0 : Wd} {w' : Wd} (n : Nat) (C : wd_X p s m args meth c cX10_look RX10 6 none "look" E) (hR : 2 ≤ R.frames ∧ 43 ≤ R.locals) (rec12 : Nat → Option Nat → Int32 → Wd → Option Wd) (hrec12 : ∀ (x0_ : Nat) (x1_ : Option Nat) (x2_ : Int32) (w_ : Wd) (H : Heap) (locs : List Loc) (cells slots : Nat) (ls : Array Slot), wd_Z E w0 R s w_ H locs cells slots [(some x0_, 11), (x1_, 3)] → lv_has ls 6 [(0, .ref x0_), (1, va_rf x1_), (2, .int x2_)] → rec12 x0_ x1_ x2_ w_ = some w' → W p l e R s m args below meth c H locs cells slots (wd_fin E w0 none w' True R args s below) (F0 m 12 ls [])) (y0 : Int32) (x0 : Nat) (x1 : Option Nat) (x2 : Int32) (x3 : Int32) (x4 : Int32) (w : Wd) (H : Heap) (locs : List Loc) (cells slots : Nat) (ls : Array Slot) (hZ : wd_Z E w0 R s w H locs cells slots [(some x0, 11), (x1, 3)]) (hl : lv_has ls 6 [(0, .ref x0), (1, va_rf x1), (2, .int x2), (3, .int x3), (4, .int x4)]) (hf : f_X10_look_j68 n rec12 y0 x0 x1 x2 x3 x4 w = some w') : W p l e R s m args below meth c H locs cells slots (wd_fin E w0 none w' True R args s below) (F0 m 68 ls [.int y0]) := by
  obtain ⟨hx, hb, hr, hml, hts, hown, hlocks, hmn, hK⟩ := id C
  unfold f_X10_look_j68 at hf
  refine lv_istore (lv' := [(5, .int y0), (0, .ref x0), (1, va_rf x1), (2, .int x2), (3, .int x3), (4, .int x4)]) hx hb dX10_look_68 hl (by decide) rfl (fun ls hl => ?_)
  refine lv_aload_n hx hb dX10_look_70 rfl (lv_at hl 1 rfl) ?_
  refine lv_aload_n hx hb dX10_look_71 rfl (lv_at hl 1 rfl) ?_
  refine z_getI fd_1000 rfl hx hb hts hown hK hZ (hZ.k 0 rfl rfl) tw_280 dX10_look_72 ?_
  refine lv_if_ne (tgt := 83) hx hb dX10_look_75 (by decide) (fun h14 => ?_) (fun h14 => ?_)
  · have hf := wd_ite_n h14 hf
    exact v_X10_look_j83 n C hR rec12 hrec12 x0 x0 x1 x2 x3 x4 y0 w _ _ _ _ _ ⟨hZ.1, hZ.2.1, hZ.2.2.1, hZ.2.2.2.1, (List.forall_mem_cons.mpr ⟨⟨by decide, (fun q hq => by cases hq; exact (hZ.k 0 rfl rfl))⟩, (List.forall_mem_cons.mpr ⟨⟨by decide, (fun q hq => by cases hq; exact (hZ.k 0 rfl rfl))⟩, (List.forall_mem_cons.mpr ⟨⟨by decide, (fun q hq => hZ.k 1 rfl hq)⟩, (fun _ hq => absurd hq List.not_mem_nil)⟩)⟩)⟩), hZ.2.2.2.2.2⟩ (lv_sub hl [1, 2, 3, 4, 5, 0] rfl) hf
  · have hf := wd_ite_p h14 hf
    refine lv_iload hx hb dX10_look_78 (lv_at hl 5 rfl) ?_
    refine lv_if_eq (tgt := 87) hx hb dX10_look_80 (by decide) (fun h36 => ?_) (fun h36 => ?_)
    · have hf := wd_ite_p h36 hf
      refine lv_iconst (v := 0) hx hb dX10_look_87 (by decide) ?_
      exact v_X10_look_j88 n C hR rec12 hrec12 (0 : Int32) x0 x0 x1 x2 x3 x4 y0 w _ _ _ _ _ ⟨hZ.1, hZ.2.1, hZ.2.2.1, hZ.2.2.2.1, (List.forall_mem_cons.mpr ⟨⟨by decide, (fun q hq => by cases hq; exact (hZ.k 0 rfl rfl))⟩, (List.forall_mem_cons.mpr ⟨⟨by decide, (fun q hq => by cases hq; exact (hZ.k 0 rfl rfl))⟩, (List.forall_mem_cons.mpr ⟨⟨by decide, (fun q hq => hZ.k 1 rfl hq)⟩, (fun _ hq => absurd hq List.not_mem_nil)⟩)⟩)⟩), hZ.2.2.2.2.2⟩ (lv_sub hl [1, 2, 3, 4, 5, 0] rfl) hf
    · have hf := wd_ite_n h36 hf
      exact v_X10_look_j83 n C hR rec12 hrec12 x0 x0 x1 x2 x3 x4 y0 w _ _ _ _ _ ⟨hZ.1, hZ.2.1, hZ.2.2.1, hZ.2.2.2.1, (List.forall_mem_cons.mpr ⟨⟨by decide, (fun q hq => by cases hq; exact (hZ.k 0 rfl rfl))⟩, (List.forall_mem_cons.mpr ⟨⟨by decide, (fun q hq => by cases hq; exact (hZ.k 0 rfl rfl))⟩, (List.forall_mem_cons.mpr ⟨⟨by decide, (fun q hq => hZ.k 1 rfl hq)⟩, (fun _ hq => absurd hq List.not_mem_nil)⟩)⟩)⟩), hZ.2.2.2.2.2⟩ (lv_sub hl [1, 2, 3, 4, 5, 0] rfl) hf

set_option maxHeartbeats 4000000 in
set_option maxRecDepth 100000 in
theorem v_X10_look_j63 {p : Program} {l : Launch} {e : Env} {R : Room} {s : State} {m : MethodId} {args : Array Value} {below : List Frame} {meth : Method} {c : Code} {E : wd_E} {w0 : Wd} {w' : Wd} (n : Nat) (C : wd_X p s m args meth c cX10_look RX10 6 none "look" E) (hR : 2 ≤ R.frames ∧ 43 ≤ R.locals) (rec12 : Nat → Option Nat → Int32 → Wd → Option Wd) (hrec12 : ∀ (x0_ : Nat) (x1_ : Option Nat) (x2_ : Int32) (w_ : Wd) (H : Heap) (locs : List Loc) (cells slots : Nat) (ls : Array Slot), wd_Z E w0 R s w_ H locs cells slots [(some x0_, 11), (x1_, 3)] → lv_has ls 6 [(0, .ref x0_), (1, va_rf x1_), (2, .int x2_)] → rec12 x0_ x1_ x2_ w_ = some w' → W p l e R s m args below meth c H locs cells slots (wd_fin E w0 none w' True R args s below) (F0 m 12 ls [])) (x0 : Nat) (x1 : Option Nat) (x2 : Int32) (x3 : Int32) (x4 : Int32) (w : Wd) (H : Heap) (locs : List Loc) (cells slots : Nat) (ls : Array Slot) (hZ : wd_Z E w0 R s w H locs cells slots [(some x0, 11), (x1, 3)]) (hl : lv_has ls 6 [(0, .ref x0), (1, va_rf x1), (2, .int x2), (3, .int x3), (4, .int x4)]) (hf : f_X10_look_j63 n rec12 x0 x1 x2 x3 x4 w = some w') : W p l e R s m args below meth c H locs cells slots (wd_fin E w0 none w' True R args s below) (F0 m 63 ls []) := by
  obtain ⟨hx, hb, hr, hml, hts, hown, hlocks, hmn, hK⟩ := id C
  unfold f_X10_look_j63 at hf
  refine lv_iconst (v := 1) hx hb dX10_look_63 (by decide) ?_
  refine lv_goto (tgt := 68) hx hb dX10_look_64 (by decide) ?_
  exact v_X10_look_j68 n C hR rec12 hrec12 (1 : Int32) x0 x1 x2 x3 x4 w _ _ _ _ _ ⟨hZ.1, hZ.2.1, hZ.2.2.1, hZ.2.2.2.1, (List.forall_mem_cons.mpr ⟨⟨by decide, (fun q hq => by cases hq; exact (hZ.k 0 rfl rfl))⟩, (List.forall_mem_cons.mpr ⟨⟨by decide, (fun q hq => hZ.k 1 rfl hq)⟩, (fun _ hq => absurd hq List.not_mem_nil)⟩)⟩), hZ.2.2.2.2.2⟩ (lv_sub hl [0, 1, 2, 3, 4] rfl) hf

set_option maxHeartbeats 4000000 in
set_option maxRecDepth 100000 in
theorem v_X10_look_j46 {p : Program} {l : Launch} {e : Env} {R : Room} {s : State} {m : MethodId} {args : Array Value} {below : List Frame} {meth : Method} {c : Code} {E : wd_E} {w0 : Wd} {w' : Wd} (n : Nat) (C : wd_X p s m args meth c cX10_look RX10 6 none "look" E) (hR : 2 ≤ R.frames ∧ 43 ≤ R.locals) (rec12 : Nat → Option Nat → Int32 → Wd → Option Wd) (hrec12 : ∀ (x0_ : Nat) (x1_ : Option Nat) (x2_ : Int32) (w_ : Wd) (H : Heap) (locs : List Loc) (cells slots : Nat) (ls : Array Slot), wd_Z E w0 R s w_ H locs cells slots [(some x0_, 11), (x1_, 3)] → lv_has ls 6 [(0, .ref x0_), (1, va_rf x1_), (2, .int x2_)] → rec12 x0_ x1_ x2_ w_ = some w' → W p l e R s m args below meth c H locs cells slots (wd_fin E w0 none w' True R args s below) (F0 m 12 ls [])) (y0 : Int32) (x0 : Nat) (x1 : Option Nat) (x2 : Int32) (x3 : Int32) (w : Wd) (H : Heap) (locs : List Loc) (cells slots : Nat) (ls : Array Slot) (hZ : wd_Z E w0 R s w H locs cells slots [(some x0, 11), (x1, 3)]) (hl : lv_has ls 6 [(0, .ref x0), (1, va_rf x1), (2, .int x2), (3, .int x3)]) (hf : f_X10_look_j46 n rec12 y0 x0 x1 x2 x3 w = some w') : W p l e R s m args below meth c H locs cells slots (wd_fin E w0 none w' True R args s below) (F0 m 46 ls [.int y0]) := by
  obtain ⟨hx, hb, hr, hml, hts, hown, hlocks, hmn, hK⟩ := id C
  unfold f_X10_look_j46 at hf
  refine lv_istore (lv' := [(4, .int y0), (0, .ref x0), (1, va_rf x1), (2, .int x2), (3, .int x3)]) hx hb dX10_look_46 hl (by decide) rfl (fun ls hl => ?_)
  refine lv_iload_n hx hb dX10_look_48 rfl (lv_at hl 4 rfl) ?_
  refine lv_iconst (v := 3) hx hb dX10_look_49 (by decide) ?_
  refine lv_icmp_eq (tgt := 63) hx hb dX10_look_50 (by decide) (fun h13 => ?_) (fun h13 => ?_)
  · have hf := wd_ite_p h13 hf
    exact v_X10_look_j63 n C hR rec12 hrec12 x0 x1 x2 x3 y0 w _ _ _ _ _ ⟨hZ.1, hZ.2.1, hZ.2.2.1, hZ.2.2.2.1, (List.forall_mem_cons.mpr ⟨⟨by decide, (fun q hq => by cases hq; exact (hZ.k 0 rfl rfl))⟩, (List.forall_mem_cons.mpr ⟨⟨by decide, (fun q hq => hZ.k 1 rfl hq)⟩, (fun _ hq => absurd hq List.not_mem_nil)⟩)⟩), hZ.2.2.2.2.2⟩ (lv_sub hl [1, 2, 3, 4, 0] rfl) hf
  · have hf := wd_ite_n h13 hf
    refine lv_iload_n hx hb dX10_look_53 rfl (lv_at hl 4 rfl) ?_
    refine lv_iconst (v := 4) hx hb dX10_look_54 (by decide) ?_
    refine lv_icmp_eq (tgt := 63) hx hb dX10_look_55 (by decide) (fun h37 => ?_) (fun h37 => ?_)
    · have hf := wd_ite_p h37 hf
      exact v_X10_look_j63 n C hR rec12 hrec12 x0 x1 x2 x3 y0 w _ _ _ _ _ ⟨hZ.1, hZ.2.1, hZ.2.2.1, hZ.2.2.2.1, (List.forall_mem_cons.mpr ⟨⟨by decide, (fun q hq => by cases hq; exact (hZ.k 0 rfl rfl))⟩, (List.forall_mem_cons.mpr ⟨⟨by decide, (fun q hq => hZ.k 1 rfl hq)⟩, (fun _ hq => absurd hq List.not_mem_nil)⟩)⟩), hZ.2.2.2.2.2⟩ (lv_sub hl [1, 2, 3, 4, 0] rfl) hf
    · have hf := wd_ite_n h37 hf
      refine lv_iload_n hx hb dX10_look_58 rfl (lv_at hl 4 rfl) ?_
      refine lv_iconst (v := 5) hx hb dX10_look_59 (by decide) ?_
      refine lv_icmp_ne (tgt := 67) hx hb dX10_look_60 (by decide) (fun h38 => ?_) (fun h38 => ?_)
      · have hf := wd_ite_n h38 hf
        refine lv_iconst (v := 0) hx hb dX10_look_67 (by decide) ?_
        exact v_X10_look_j68 n C hR rec12 hrec12 (0 : Int32) x0 x1 x2 x3 y0 w _ _ _ _ _ ⟨hZ.1, hZ.2.1, hZ.2.2.1, hZ.2.2.2.1, (List.forall_mem_cons.mpr ⟨⟨by decide, (fun q hq => by cases hq; exact (hZ.k 0 rfl rfl))⟩, (List.forall_mem_cons.mpr ⟨⟨by decide, (fun q hq => hZ.k 1 rfl hq)⟩, (fun _ hq => absurd hq List.not_mem_nil)⟩)⟩), hZ.2.2.2.2.2⟩ (lv_sub hl [1, 2, 3, 4, 0] rfl) hf
      · have hf := wd_ite_p h38 hf
        exact v_X10_look_j63 n C hR rec12 hrec12 x0 x1 x2 x3 y0 w _ _ _ _ _ ⟨hZ.1, hZ.2.1, hZ.2.2.1, hZ.2.2.2.1, (List.forall_mem_cons.mpr ⟨⟨by decide, (fun q hq => by cases hq; exact (hZ.k 0 rfl rfl))⟩, (List.forall_mem_cons.mpr ⟨⟨by decide, (fun q hq => hZ.k 1 rfl hq)⟩, (fun _ hq => absurd hq List.not_mem_nil)⟩)⟩), hZ.2.2.2.2.2⟩ (lv_sub hl [1, 2, 3, 4, 0] rfl) hf

set_option maxHeartbeats 4000000 in
set_option maxRecDepth 100000 in
theorem v_X10_look_j45 {p : Program} {l : Launch} {e : Env} {R : Room} {s : State} {m : MethodId} {args : Array Value} {below : List Frame} {meth : Method} {c : Code} {E : wd_E} {w0 : Wd} {w' : Wd} (n : Nat) (C : wd_X p s m args meth c cX10_look RX10 6 none "look" E) (hR : 2 ≤ R.frames ∧ 43 ≤ R.locals) (rec12 : Nat → Option Nat → Int32 → Wd → Option Wd) (hrec12 : ∀ (x0_ : Nat) (x1_ : Option Nat) (x2_ : Int32) (w_ : Wd) (H : Heap) (locs : List Loc) (cells slots : Nat) (ls : Array Slot), wd_Z E w0 R s w_ H locs cells slots [(some x0_, 11), (x1_, 3)] → lv_has ls 6 [(0, .ref x0_), (1, va_rf x1_), (2, .int x2_)] → rec12 x0_ x1_ x2_ w_ = some w' → W p l e R s m args below meth c H locs cells slots (wd_fin E w0 none w' True R args s below) (F0 m 12 ls [])) (x0 : Nat) (x1 : Option Nat) (x2 : Int32) (x3 : Int32) (w : Wd) (H : Heap) (locs : List Loc) (cells slots : Nat) (ls : Array Slot) (hZ : wd_Z E w0 R s w H locs cells slots [(some x0, 11), (x1, 3)]) (hl : lv_has ls 6 [(0, .ref x0), (1, va_rf x1), (2, .int x2), (3, .int x3)]) (hf : f_X10_look_j45 n rec12 x0 x1 x2 x3 w = some w') : W p l e R s m args below meth c H locs cells slots (wd_fin E w0 none w' True R args s below) (F0 m 45 ls []) := by
  obtain ⟨hx, hb, hr, hml, hts, hown, hlocks, hmn, hK⟩ := id C
  unfold f_X10_look_j45 at hf
  refine lv_iconst (v := 0) hx hb dX10_look_45 (by decide) ?_
  exact v_X10_look_j46 n C hR rec12 hrec12 (0 : Int32) x0 x1 x2 x3 w _ _ _ _ _ ⟨hZ.1, hZ.2.1, hZ.2.2.1, hZ.2.2.2.1, (List.forall_mem_cons.mpr ⟨⟨by decide, (fun q hq => by cases hq; exact (hZ.k 0 rfl rfl))⟩, (List.forall_mem_cons.mpr ⟨⟨by decide, (fun q hq => hZ.k 1 rfl hq)⟩, (fun _ hq => absurd hq List.not_mem_nil)⟩)⟩), hZ.2.2.2.2.2⟩ (lv_sub hl [0, 1, 2, 3] rfl) hf

set_option maxHeartbeats 4000000 in
set_option maxRecDepth 100000 in
theorem v_X10_look_b12 {p : Program} {l : Launch} {e : Env} {R : Room} {s : State} {m : MethodId} {args : Array Value} {below : List Frame} {meth : Method} {c : Code} {E : wd_E} {w0 : Wd} {w' : Wd} (n : Nat) (C : wd_X p s m args meth c cX10_look RX10 6 none "look" E) (hR : 2 ≤ R.frames ∧ 43 ≤ R.locals) (rec12 : Nat → Option Nat → Int32 → Wd → Option Wd) (hrec12 : ∀ (x0_ : Nat) (x1_ : Option Nat) (x2_ : Int32) (w_ : Wd) (H : Heap) (locs : List Loc) (cells slots : Nat) (ls : Array Slot), wd_Z E w0 R s w_ H locs cells slots [(some x0_, 11), (x1_, 3)] → lv_has ls 6 [(0, .ref x0_), (1, va_rf x1_), (2, .int x2_)] → rec12 x0_ x1_ x2_ w_ = some w' → W p l e R s m args below meth c H locs cells slots (wd_fin E w0 none w' True R args s below) (F0 m 12 ls [])) (x0 : Nat) (x1 : Option Nat) (x2 : Int32) (w : Wd) (H : Heap) (locs : List Loc) (cells slots : Nat) (ls : Array Slot) (hZ : wd_Z E w0 R s w H locs cells slots [(some x0, 11), (x1, 3)]) (hl : lv_has ls 6 [(0, .ref x0), (1, va_rf x1), (2, .int x2)]) (hf : f_X10_look_l12 n rec12 x0 x1 x2 w = some w') : W p l e R s m args below meth c H locs cells slots (wd_fin E w0 none w' True R args s below) (F0 m 12 ls []) := by
  obtain ⟨hx, hb, hr, hml, hts, hown, hlocks, hmn, hK⟩ := id C
  unfold f_X10_look_l12 at hf
  refine lv_iload_n hx hb dX10_look_12 rfl (lv_at hl 2 rfl) ?_
  refine lv_if_lt (tgt := 140) hx hb dX10_look_13 (by decide) (fun h4 => ?_) (fun h4 => ?_)
  · have hf := wd_ite_p h4 hf
    refine lv_aload_n hx hb dX10_look_140 rfl (lv_at hl 0 rfl) ?_
    refine z_aload_n hx hb dX10_look_141 rfl (lv_at hl 1 rfl) ?_
    obtain ⟨a5, ha5, hf⟩ := Option.bind_eq_some_iff.mp hf
    subst ha5
    have hl : lv_has ls 6 [(0, .ref x0), (1, .ref a5), (2, .int x2)] := hl
    have hZ : wd_Z E w0 R s w H locs cells slots [(some x0, 11), (some a5, 3)] := hZ
    refine z_getI fd_203 rfl hx hb hts hown hK hZ (hZ.k 1 rfl rfl) tw_212 dX10_look_142 ?_
    refine z_putI fd_1006 cok_10 rfl rfl rfl rfl rfl hx hb hts hown hK hZ (hZ.k 0 rfl rfl) tw_290 dX10_look_145 (fun H locs hZ => ?_)
    obtain ⟨w6, e7, hf⟩ := wd_let_e hf
    rw [e7] at hZ
    obtain rfl := Option.some.inj hf
    exact z_vret hx hb hr hlocks hZ trivial dX10_look_148
  · have hf := wd_ite_n h4 hf
    refine z_aload_n hx hb dX10_look_16 rfl (lv_at hl 1 rfl) ?_
    refine lv_iload_n hx hb dX10_look_17 rfl (lv_at hl 2 rfl) ?_
    refine lv_iconst (v := 0) hx hb dX10_look_18 (by decide) ?_
    obtain ⟨a8, ha8, hf⟩ := Option.bind_eq_some_iff.mp hf
    subst ha8
    have hl : lv_has ls 6 [(0, .ref x0), (1, .ref a8), (2, .int x2)] := hl
    have hZ : wd_Z E w0 R s w H locs cells slots [(some x0, 11), (some a8, 3)] := hZ
    obtain ⟨r11, w9, hc10, hf⟩ := wd_b2_e hf
    refine z_callV (ci := 2) (As := [.int x2, .int (0 : Int32)]) (rest := []) (c_X2_notePart l E n w a8 x2 (0 : Int32) r11 w9 (hZ.k 1 rfl rfl) hc10) mo_X2_notePart rfl (by decide) rfl tw_479 tw_480 tw_1086 hx hb hml hts hown hK ⟨Nat.le_trans (by decide) hR.1, Nat.le_trans (by decide) hR.2⟩ hZ (hZ.k 1 rfl rfl) rfl hl.1 rfl (Nat.le_of_ble_eq_true rfl) rfl dX10_look_19 (fun H locs cells slots hX hZ => ?_)
    refine lv_istore_n (lv' := [(3, .int r11), (0, .ref x0), (1, .ref a8), (2, .int x2)]) hx hb dX10_look_22 rfl hl (by decide) rfl (fun ls hl => ?_)
    refine lv_iload_n hx hb dX10_look_23 rfl (lv_at hl 0 rfl) ?_
    refine lv_iconst (v := 2) hx hb dX10_look_24 (by decide) ?_
    refine lv_icmp_ne (tgt := 45) hx hb dX10_look_25 (by decide) (fun h12 => ?_) (fun h12 => ?_)
    · have hf := wd_ite_n h12 hf
      exact v_X10_look_j45 n C hR rec12 hrec12 x0 (some a8) x2 r11 w9 _ _ _ _ _ ⟨hZ.1, hZ.2.1, hZ.2.2.1, hZ.2.2.2.1, (List.forall_mem_cons.mpr ⟨⟨by decide, (fun q hq => by cases hq; exact (hZ.k 0 rfl rfl))⟩, (List.forall_mem_cons.mpr ⟨⟨by decide, (fun q hq => by cases hq; exact (hZ.k 1 rfl rfl))⟩, (fun _ hq => absurd hq List.not_mem_nil)⟩)⟩), hZ.2.2.2.2.2⟩ (lv_sub hl [1, 2, 3, 0] rfl) hf
    · have hf := wd_ite_p h12 hf
      refine lv_aload_n hx hb dX10_look_28 rfl (lv_at hl 2 rfl) ?_
      refine lv_iload_n hx hb dX10_look_29 rfl (lv_at hl 3 rfl) ?_
      refine lv_iconst (v := 5) hx hb dX10_look_30 (by decide) ?_
      obtain ⟨r41, w39, hc40, hf⟩ := wd_b2_e hf
      refine z_callV (ci := 2) (As := [.int x2, .int (5 : Int32)]) (rest := []) (c_X2_notePart l E n w9 a8 x2 (5 : Int32) r41 w39 (hZ.k 1 rfl rfl) hc40) mo_X2_notePart rfl (by decide) rfl tw_479 tw_480 tw_1086 hx hb hml hts hown hK ⟨Nat.le_trans (by decide) hR.1, Nat.le_trans (by decide) hR.2⟩ hZ (hZ.k 1 rfl rfl) rfl hl.1 rfl (Nat.le_of_ble_eq_true rfl) rfl dX10_look_31 (fun H locs cells slots hX hZ => ?_)
      refine lv_aload_n hx hb dX10_look_34 rfl (lv_at hl 1 rfl) ?_
      refine z_getI fd_1005 rfl hx hb hts hown hK hZ (hZ.k 0 rfl rfl) tw_289 dX10_look_35 ?_
      refine lv_icmp_ne (tgt := 45) hx hb dX10_look_38 (by decide) (fun h42 => ?_) (fun h42 => ?_)
      · have hf := wd_ite_n h42 hf
        exact v_X10_look_j45 n C hR rec12 hrec12 x0 (some a8) x2 r11 w39 _ _ _ _ _ ⟨hZ.1, hZ.2.1, hZ.2.2.1, hZ.2.2.2.1, (List.forall_mem_cons.mpr ⟨⟨by decide, (fun q hq => by cases hq; exact (hZ.k 0 rfl rfl))⟩, (List.forall_mem_cons.mpr ⟨⟨by decide, (fun q hq => by cases hq; exact (hZ.k 1 rfl rfl))⟩, (fun _ hq => absurd hq List.not_mem_nil)⟩)⟩), hZ.2.2.2.2.2⟩ (lv_sub hl [1, 2, 3, 0] rfl) hf
      · have hf := wd_ite_p h42 hf
        refine lv_iconst (v := 1) hx hb dX10_look_41 (by decide) ?_
        refine lv_goto (tgt := 46) hx hb dX10_look_42 (by decide) ?_
        exact v_X10_look_j46 n C hR rec12 hrec12 (1 : Int32) x0 (some a8) x2 r11 w39 _ _ _ _ _ ⟨hZ.1, hZ.2.1, hZ.2.2.1, hZ.2.2.2.1, (List.forall_mem_cons.mpr ⟨⟨by decide, (fun q hq => by cases hq; exact (hZ.k 0 rfl rfl))⟩, (List.forall_mem_cons.mpr ⟨⟨by decide, (fun q hq => by cases hq; exact (hZ.k 1 rfl rfl))⟩, (fun _ hq => absurd hq List.not_mem_nil)⟩)⟩), hZ.2.2.2.2.2⟩ (lv_sub hl [1, 2, 3, 0] rfl) hf

theorem v_X10_look_l12 {p : Program} {l : Launch} {e : Env} {R : Room} {s : State} {m : MethodId} {args : Array Value} {below : List Frame} {meth : Method} {c : Code} {E : wd_E} {w0 : Wd} {w' : Wd} (n : Nat) (C : wd_X p s m args meth c cX10_look RX10 6 none "look" E) (hR : 2 ≤ R.frames ∧ 43 ≤ R.locals) : ∀ (k : Nat) (x0 : Nat) (x1 : Option Nat) (x2 : Int32) (w : Wd) (H : Heap) (locs : List Loc) (cells slots : Nat) (ls : Array Slot), wd_Z E w0 R s w H locs cells slots [(some x0, 11), (x1, 3)] → lv_has ls 6 [(0, .ref x0), (1, va_rf x1), (2, .int x2)] → wd_lp4 (f_X10_look_l12 n) k x0 x1 x2 w = some w' → W p l e R s m args below meth c H locs cells slots (wd_fin E w0 none w' True R args s below) (F0 m 12 ls []) := by
  intro k
  induction k with
  | zero => intro _ _ _ _ _ _ _ _ _ _ _ hf; cases hf
  | succ k ih =>
    intro x0 x1 x2 w H locs cells slots ls hZ hl hf
    exact v_X10_look_b12 n C hR (wd_lp4 (f_X10_look_l12 n) k) ih x0 x1 x2 w H locs cells slots ls hZ hl hf

set_option maxHeartbeats 4000000 in
set_option maxRecDepth 100000 in
theorem c_X10_look (l : Launch) (E : wd_E) (n : Nat) (w : Wd) (this : Nat) (p0 : Option Nat) (w' : Wd) (k_this : wd_K w this = 11) (k_p0 : ∀ q, p0 = some q → wd_K w q = 3) (hf : f_X10_look n w this p0 = some w') : wd_C l E yX10_look cX10_look 6 none 2 43 [.ref this, va_rf p0] w none w' True := by
  refine wd_ofW (own := RX10) (nm := "look") (ks := [(some this, 11), (p0, 3)]) (lv := [(0, .ref this), (1, va_rf p0)]) (by decide) rfl rfl (by simp [lg_sl, va_rf_cat, Value.category]) (by simp [lv_args, va_rf_cat, Value.category]) (List.forall_mem_cons.mpr ⟨⟨by decide, fun q hq => by cases hq; exact k_this⟩, (List.forall_mem_cons.mpr ⟨⟨by decide, k_p0⟩, (fun _ hq => absurd hq List.not_mem_nil)⟩)⟩) ?_
  intro p e s m args below meth c R H ls C hR hZ hl
  obtain ⟨hx, hb, hr, hml, hts, hown, hlocks, hmn, hK⟩ := id C
  unfold f_X10_look at hf
  refine z_aload_n hx hb dX10_look_0 rfl (lv_at hl 1 rfl) ?_
  obtain ⟨a1, ha1, hf⟩ := Option.bind_eq_some_iff.mp hf
  subst ha1
  have hl : lv_has ls 6 [(0, .ref this), (1, .ref a1)] := hl
  have hZ : wd_Z E w R s w H locs cells slots [(some this, 11), (some a1, 3)] := hZ
  refine z_getI fd_203 rfl hx hb hts hown hK hZ (hZ.k 1 rfl rfl) tw_212 dX10_look_1 ?_
  refine lv_aload_n hx hb dX10_look_4 rfl (lv_at hl 0 rfl) ?_
  refine z_getI fd_1006 rfl hx hb hts hown hK hZ (hZ.k 0 rfl rfl) tw_290 dX10_look_5 ?_
  refine lv_isub hx hb dX10_look_8 ?_
  refine lv_iconst (v := 1) hx hb dX10_look_9 (by decide) ?_
  refine lv_isub hx hb dX10_look_10 ?_
  obtain ⟨v2, e3, hf⟩ := wd_let_e hf
  rw [e3]
  refine lv_istore_n (lv' := [(2, .int v2), (0, .ref this), (1, .ref a1)]) hx hb dX10_look_11 rfl hl (by decide) rfl (fun ls hl => ?_)
  exact v_X10_look_l12 n C hR n this (some a1) v2 w _ _ _ _ _ ⟨hZ.1, hZ.2.1, hZ.2.2.1, hZ.2.2.2.1, (List.forall_mem_cons.mpr ⟨⟨by decide, (fun q hq => by cases hq; exact (hZ.k 0 rfl rfl))⟩, (List.forall_mem_cons.mpr ⟨⟨by decide, (fun q hq => by cases hq; exact (hZ.k 1 rfl rfl))⟩, (fun _ hq => absurd hq List.not_mem_nil)⟩)⟩), hZ.2.2.2.2.2⟩ (lv_sub hl [1, 2, 0] rfl) hf

def f_X10_ask_l81 (n : Nat) (rec81 : Nat → Option Nat → Int32 → Wd → Option Wd) (x0 : Nat) (x6 : Option Nat) (x7 : Int32) (w : Wd) : Option Wd :=
  if (200 : Int32) ≤ x7 then
    some w
  else
    Option.bind (wd_R w 1004 x0) fun a28 =>
    wd_b2 (f_X9_deliverNext n w a28) fun r31 w29 =>
    if r31 = 0 then
      some w29
    else
      Option.bind (f_X10_look n w29 x0 x6) fun w33 =>
      wd_let (x7 + 1) fun v35 =>
      rec81 x0 x6 v35 w33
def f_X10_ask (n : Nat) (w : Wd) (this : Nat) (p0 : Int32) (p1 : Int32) (p2 : Int32) (p3 : Int32) (p4 : Int32) : Option Wd :=
  wd_let (wd_sI w 1000 this (0 : Int32)) fun w1 =>
  wd_let (wd_sI w1 1001 this (-1 : Int32)) fun w3 =>
  wd_let (wd_sI w3 1002 this (-1 : Int32)) fun w5 =>
  wd_let (wd_sI w5 1003 this (-1 : Int32)) fun w7 =>
  Option.bind (wd_R w7 1004 this) fun a9 =>
  Option.bind (f_X9_dropAllUnderWay n w7 a9) fun w10 =>
  Option.bind (wd_R w10 1004 this) fun a12 =>
  wd_b2 (f_X9_host n w10 a12 p0) fun r15 w13 =>
  wd_on r15 (
    some w13)
    (fun a16 =>
    wd_let (wd_sI w13 1006 this (wd_I w13 203 a16)) fun w17 =>
    Option.bind (wd_R w17 1004 this) fun a19 =>
    wd_b2 (f_X9_launch n w17 a19 (some a16) (1 : Int32) p1 p2 p3 p4) fun r22 w20 =>
    wd_let (wd_sI w20 1005 this r22) fun w23 =>
    Option.bind (f_X10_look n w23 this (some a16)) fun w25 =>
    wd_lp4 (f_X10_ask_l81 n) n this (some a16) (0 : Int32) w25)
set_option maxHeartbeats 4000000 in
set_option maxRecDepth 100000 in
theorem v_X10_ask_b81 {p : Program} {l : Launch} {e : Env} {R : Room} {s : State} {m : MethodId} {args : Array Value} {below : List Frame} {meth : Method} {c : Code} {E : wd_E} {w0 : Wd} {w' : Wd} (n : Nat) (C : wd_X p s m args meth c cX10_ask RX10 8 none "ask" E) (hR : 7 ≤ R.frames ∧ 178 ≤ R.locals) (rec81 : Nat → Option Nat → Int32 → Wd → Option Wd) (hrec81 : ∀ (x0_ : Nat) (x6_ : Option Nat) (x7_ : Int32) (w_ : Wd) (H : Heap) (locs : List Loc) (cells slots : Nat) (ls : Array Slot), wd_Z E w0 R s w_ H locs cells slots [(some x0_, 11), (x6_, 3)] → lv_has ls 8 [(0, .ref x0_), (6, va_rf x6_), (7, .int x7_)] → rec81 x0_ x6_ x7_ w_ = some w' → W p l e R s m args below meth c H locs cells slots (wd_fin E w0 none w' True R args s below) (F0 m 81 ls [])) (x0 : Nat) (x6 : Option Nat) (x7 : Int32) (w : Wd) (H : Heap) (locs : List Loc) (cells slots : Nat) (ls : Array Slot) (hZ : wd_Z E w0 R s w H locs cells slots [(some x0, 11), (x6, 3)]) (hl : lv_has ls 8 [(0, .ref x0), (6, va_rf x6), (7, .int x7)]) (hf : f_X10_ask_l81 n rec81 x0 x6 x7 w = some w') : W p l e R s m args below meth c H locs cells slots (wd_fin E w0 none w' True R args s below) (F0 m 81 ls []) := by
  obtain ⟨hx, hb, hr, hml, hts, hown, hlocks, hmn, hK⟩ := id C
  unfold f_X10_ask_l81 at hf
  refine lv_iload hx hb dX10_ask_81 (lv_at hl 2 rfl) ?_
  refine lv_sipush (v := 200) hx hb dX10_ask_83 (by decide) ?_
  refine lv_icmp_ge (tgt := 111) hx hb dX10_ask_86 (by decide) (fun h27 => ?_) (fun h27 => ?_)
  · have hf := wd_ite_p h27 hf
    obtain rfl := Option.some.inj hf
    exact z_vret hx hb hr hlocks hZ trivial dX10_ask_111
  · have hf := wd_ite_n h27 hf
    refine lv_aload_n hx hb dX10_ask_89 rfl (lv_at hl 0 rfl) ?_
    refine z_getR (tk := 9) fd_1004 rfl hx hb hts hown hK hZ (hZ.k 0 rfl rfl) tw_288 dX10_ask_90 (fun hZ => ?_)
    obtain ⟨a28, ha28, hf⟩ := Option.bind_eq_some_iff.mp hf
    have hZ := hZ.add (r := some a28) (k := 10) (by decide) (fun q hq => by cases hq; exact hZ.k 0 rfl ha28)
    rw [ha28]
    obtain ⟨r31, w29, hc30, hf⟩ := wd_b2_e hf
    refine z_callV (ci := 9) (As := []) (rest := []) (c_X9_deliverNext l E n w a28 r31 w29 (hZ.k 0 rfl rfl) hc30) mo_X9_deliverNext rfl (by decide) rfl tw_867 tw_868 tw_1087 hx hb hml hts hown hK ⟨Nat.le_trans (by decide) hR.1, Nat.le_trans (by decide) hR.2⟩ hZ (hZ.k 0 rfl rfl) rfl hl.1 rfl (Nat.le_of_ble_eq_true rfl) rfl dX10_ask_93 (fun H locs cells slots hX hZ => ?_)
    refine lv_if_eq (tgt := 111) hx hb dX10_ask_96 (by decide) (fun h32 => ?_) (fun h32 => ?_)
    · have hf := wd_ite_p h32 hf
      obtain rfl := Option.some.inj hf
      exact z_vret hx hb hr hlocks hZ trivial dX10_ask_111
    · have hf := wd_ite_n h32 hf
      refine lv_aload_n hx hb dX10_ask_99 rfl (lv_at hl 0 rfl) ?_
      refine z_aload hx hb dX10_ask_100 (lv_at hl 1 rfl) ?_
      obtain ⟨w33, hc34, hf⟩ := Option.bind_eq_some_iff.mp hf
      refine z_callV (ci := 10) (As := [va_rf x6]) (rest := []) (c_X10_look l E n w29 x0 x6 w33 (hZ.k 2 rfl rfl) (fun q hq => hZ.k 3 rfl hq) hc34) mo_X10_look rfl (by decide) rfl tw_1084 tw_25 tw_1082 hx hb hml hts hown hK ⟨Nat.le_trans (by decide) hR.1, Nat.le_trans (by decide) hR.2⟩ hZ (hZ.k 2 rfl rfl) rfl hl.1 rfl (Nat.le_of_ble_eq_true rfl) rfl dX10_ask_102 (fun H locs cells slots hX hZ => ?_)
      obtain ⟨v35, e36, hf⟩ := wd_let_e hf
      refine lv_iinc (k := 2) (v := v35) (lv' := [(7, .int v35), (0, .ref x0), (6, va_rf x6)]) hx hb dX10_ask_105 hl rfl (by rw [← e36]; rfl) (by decide) (by simp [va_rf_cat, Value.category]) (fun ls hl => ?_)
      refine lv_goto (tgt := 81) hx hb dX10_ask_108 (by decide) ?_
      exact hrec81 x0 x6 v35 w33 _ _ _ _ _ ⟨hZ.1, hZ.2.1, hZ.2.2.1, hZ.2.2.2.1, (List.forall_mem_cons.mpr ⟨⟨by decide, (fun q hq => by cases hq; exact (hZ.k 2 rfl rfl))⟩, (List.forall_mem_cons.mpr ⟨⟨by decide, (fun q hq => hZ.k 3 rfl hq)⟩, (fun _ hq => absurd hq List.not_mem_nil)⟩)⟩), hZ.2.2.2.2.2⟩ (lv_sub hl [1, 2, 0] rfl) hf

theorem v_X10_ask_l81 {p : Program} {l : Launch} {e : Env} {R : Room} {s : State} {m : MethodId} {args : Array Value} {below : List Frame} {meth : Method} {c : Code} {E : wd_E} {w0 : Wd} {w' : Wd} (n : Nat) (C : wd_X p s m args meth c cX10_ask RX10 8 none "ask" E) (hR : 7 ≤ R.frames ∧ 178 ≤ R.locals) : ∀ (k : Nat) (x0 : Nat) (x6 : Option Nat) (x7 : Int32) (w : Wd) (H : Heap) (locs : List Loc) (cells slots : Nat) (ls : Array Slot), wd_Z E w0 R s w H locs cells slots [(some x0, 11), (x6, 3)] → lv_has ls 8 [(0, .ref x0), (6, va_rf x6), (7, .int x7)] → wd_lp4 (f_X10_ask_l81 n) k x0 x6 x7 w = some w' → W p l e R s m args below meth c H locs cells slots (wd_fin E w0 none w' True R args s below) (F0 m 81 ls []) := by
  intro k
  induction k with
  | zero => intro _ _ _ _ _ _ _ _ _ _ _ hf; cases hf
  | succ k ih =>
    intro x0 x6 x7 w H locs cells slots ls hZ hl hf
    exact v_X10_ask_b81 n C hR (wd_lp4 (f_X10_ask_l81 n) k) ih x0 x6 x7 w H locs cells slots ls hZ hl hf

set_option maxHeartbeats 4000000 in
set_option maxRecDepth 100000 in
theorem c_X10_ask (l : Launch) (E : wd_E) (n : Nat) (w : Wd) (this : Nat) (p0 : Int32) (p1 : Int32) (p2 : Int32) (p3 : Int32) (p4 : Int32) (w' : Wd) (k_this : wd_K w this = 11) (hf : f_X10_ask n w this p0 p1 p2 p3 p4 = some w') : wd_C l E yX10_ask cX10_ask 8 none 7 178 [.ref this, .int p0, .int p1, .int p2, .int p3, .int p4] w none w' True := by
  refine wd_ofW (own := RX10) (nm := "ask") (ks := [(some this, 11)]) (lv := [(0, .ref this), (1, .int p0), (2, .int p1), (3, .int p2), (4, .int p3), (5, .int p4)]) (by decide) rfl rfl (Nat.le_of_ble_eq_true rfl) rfl (List.forall_mem_cons.mpr ⟨⟨by decide, fun q hq => by cases hq; exact k_this⟩, (fun _ hq => absurd hq List.not_mem_nil)⟩) ?_
  intro p e s m args below meth c R H ls C hR hZ hl
  obtain ⟨hx, hb, hr, hml, hts, hown, hlocks, hmn, hK⟩ := id C
  unfold f_X10_ask at hf
  refine lv_aload_n hx hb dX10_ask_0 rfl (lv_at hl 0 rfl) ?_
  refine lv_iconst (v := 0) hx hb dX10_ask_1 (by decide) ?_
  refine z_putI fd_1000 cok_10 rfl rfl rfl (by decide) (by decide) hx hb hts hown hK hZ (hZ.k 0 rfl rfl) tw_280 dX10_ask_2 (fun H locs hZ => ?_)
  obtain ⟨w1, e2, hf⟩ := wd_let_e hf
  rw [e2] at hZ
  refine lv_aload_n hx hb dX10_ask_5 rfl (lv_at hl 0 rfl) ?_
  refine lv_iconst (v := -1) hx hb dX10_ask_6 (by decide) ?_
  refine z_putI fd_1001 cok_10 rfl rfl rfl rfl rfl hx hb hts hown hK hZ (hZ.k 0 rfl rfl) tw_282 dX10_ask_7 (fun H locs hZ => ?_)
  obtain ⟨w3, e4, hf⟩ := wd_let_e hf
  rw [e4] at hZ
  refine lv_aload_n hx hb dX10_ask_10 rfl (lv_at hl 0 rfl) ?_
  refine lv_iconst (v := -1) hx hb dX10_ask_11 (by decide) ?_
  refine z_putI fd_1002 cok_10 rfl rfl rfl rfl rfl hx hb hts hown hK hZ (hZ.k 0 rfl rfl) tw_284 dX10_ask_12 (fun H locs hZ => ?_)
  obtain ⟨w5, e6, hf⟩ := wd_let_e hf
  rw [e6] at hZ
  refine lv_aload_n hx hb dX10_ask_15 rfl (lv_at hl 0 rfl) ?_
  refine lv_iconst (v := -1) hx hb dX10_ask_16 (by decide) ?_
  refine z_putI fd_1003 cok_10 rfl rfl rfl rfl rfl hx hb hts hown hK hZ (hZ.k 0 rfl rfl) tw_286 dX10_ask_17 (fun H locs hZ => ?_)
  obtain ⟨w7, e8, hf⟩ := wd_let_e hf
  rw [e8] at hZ
  refine lv_aload_n hx hb dX10_ask_20 rfl (lv_at hl 0 rfl) ?_
  refine z_getR (tk := 9) fd_1004 rfl hx hb hts hown hK hZ (hZ.k 0 rfl rfl) tw_288 dX10_ask_21 (fun hZ => ?_)
  obtain ⟨a9, ha9, hf⟩ := Option.bind_eq_some_iff.mp hf
  have hZ := hZ.add (r := some a9) (k := 10) (by decide) (fun q hq => by cases hq; exact hZ.k 0 rfl ha9)
  rw [ha9]
  obtain ⟨w10, hc11, hf⟩ := Option.bind_eq_some_iff.mp hf
  refine z_callV (ci := 9) (As := []) (rest := []) (c_X9_dropAllUnderWay l E n w7 a9 w10 (hZ.k 0 rfl rfl) hc11) mo_X9_dropAllUnderWay rfl (by decide) rfl tw_1064 tw_1065 tw_1063 hx hb hml hts hown hK ⟨Nat.le_trans (by decide) hR.1, Nat.le_trans (by decide) hR.2⟩ hZ (hZ.k 0 rfl rfl) rfl hl.1 rfl (Nat.le_of_ble_eq_true rfl) rfl dX10_ask_24 (fun H locs cells slots hX hZ => ?_)
  refine lv_aload_n hx hb dX10_ask_27 rfl (lv_at hl 0 rfl) ?_
  refine z_getR (tk := 9) fd_1004 rfl hx hb hts hown hK hZ (hZ.k 2 rfl rfl) tw_288 dX10_ask_28 (fun hZ => ?_)
  refine lv_iload_n hx hb dX10_ask_31 rfl (lv_at hl 1 rfl) ?_
  obtain ⟨a12, ha12, hf⟩ := Option.bind_eq_some_iff.mp hf
  have hZ := hZ.add (r := some a12) (k := 10) (by decide) (fun q hq => by cases hq; exact hZ.k 0 rfl ha12)
  rw [ha12]
  obtain ⟨r15, w13, hc14, hf⟩ := wd_b2_e hf
  refine z_callV (ci := 9) (As := [.int p0]) (rest := []) (c_X9_host l E n w10 a12 p0 r15 w13 (hZ.k 0 rfl rfl) hc14) mo_X9_host rfl (by decide) rfl tw_451 tw_452 tw_1080 hx hb hml hts hown hK ⟨Nat.le_trans (by decide) hR.1, Nat.le_trans (by decide) hR.2⟩ hZ (hZ.k 0 rfl rfl) rfl hl.1 rfl (Nat.le_of_ble_eq_true rfl) rfl dX10_ask_32 (fun H locs cells slots hX hZ => ?_)
  have hZ := hZ.add (by decide) hX
  refine z_astore (lv' := [(6, va_rf r15), (0, .ref this), (1, .int p0), (2, .int p1), (3, .int p2), (4, .int p3), (5, .int p4)]) hx hb dX10_ask_35 hl (by decide) rfl (fun ls hl => ?_)
  refine z_aload hx hb dX10_ask_37 (lv_at hl 0 rfl) ?_
  refine z_ifnonnull (tgt := 43) hx hb dX10_ask_39 (by decide) (fun a16 ha16 => ?_) (fun hn => ?_)
  · have hf := wd_on_s ha16 hf
    subst ha16
    have hl : lv_has ls 8 [(6, .ref a16), (0, .ref this), (1, .int p0), (2, .int p1), (3, .int p2), (4, .int p3), (5, .int p4)] := hl
    have hZ : wd_Z E w R s w13 H locs cells slots [(some a16, 3), (some a12, 10), ((wd_R w10 1004 this), 10), (some a9, 10), ((wd_R w7 1004 this), 10), (some this, 11)] := hZ
    refine lv_aload_n hx hb dX10_ask_43 rfl (lv_at hl 1 rfl) ?_
    refine lv_aload hx hb dX10_ask_44 (lv_at hl 0 rfl) ?_
    refine z_getI fd_203 rfl hx hb hts hown hK hZ (hZ.k 0 rfl rfl) tw_212 dX10_ask_46 ?_
    refine z_putI fd_1006 cok_10 rfl rfl rfl rfl rfl hx hb hts hown hK hZ (hZ.k 5 rfl rfl) tw_290 dX10_ask_49 (fun H locs hZ => ?_)
    obtain ⟨w17, e18, hf⟩ := wd_let_e hf
    rw [e18] at hZ
    refine lv_aload_n hx hb dX10_ask_52 rfl (lv_at hl 1 rfl) ?_
    refine lv_aload_n hx hb dX10_ask_53 rfl (lv_at hl 1 rfl) ?_
    refine z_getR (tk := 9) fd_1004 rfl hx hb hts hown hK hZ (hZ.k 5 rfl rfl) tw_288 dX10_ask_54 (fun hZ => ?_)
    refine lv_aload hx hb dX10_ask_57 (lv_at hl 0 rfl) ?_
    refine lv_iconst (v := 1) hx hb dX10_ask_59 (by decide) ?_
    refine lv_iload_n hx hb dX10_ask_60 rfl (lv_at hl 3 rfl) ?_
    refine lv_iload_n hx hb dX10_ask_61 rfl (lv_at hl 4 rfl) ?_
    refine lv_iload hx hb dX10_ask_62 (lv_at hl 5 rfl) ?_
    refine lv_iload hx hb dX10_ask_64 (lv_at hl 6 rfl) ?_
    obtain ⟨a19, ha19, hf⟩ := Option.bind_eq_some_iff.mp hf
    have hZ := hZ.add (r := some a19) (k := 10) (by decide) (fun q hq => by cases hq; exact hZ.k 0 rfl ha19)
    rw [ha19]
    obtain ⟨r22, w20, hc21, hf⟩ := wd_b2_e hf
    refine z_callV (ci := 9) (As := [va_rf (some a16), .int (1 : Int32), .int p1, .int p2, .int p3, .int p4]) (rest := [.ref this]) (c_X9_launch l E n w17 a19 (some a16) (1 : Int32) p1 p2 p3 p4 r22 w20 (hZ.k 0 rfl rfl) (fun q hq => by cases hq; exact (hZ.k 2 rfl rfl)) hc21) mo_X9_launch rfl (by decide) rfl tw_642 tw_643 tw_1081 hx hb hml hts hown hK ⟨Nat.le_trans (by decide) hR.1, Nat.le_trans (by decide) hR.2⟩ hZ (hZ.k 0 rfl rfl) rfl hl.1 rfl (Nat.le_of_ble_eq_true rfl) rfl dX10_ask_66 (fun H locs cells slots hX hZ => ?_)
    refine z_putI fd_1005 cok_10 rfl rfl rfl rfl rfl hx hb hts hown hK hZ (hZ.k 7 rfl rfl) tw_289 dX10_ask_69 (fun H locs hZ => ?_)
    obtain ⟨w23, e24, hf⟩ := wd_let_e hf
    rw [e24] at hZ
    refine lv_aload_n hx hb dX10_ask_72 rfl (lv_at hl 1 rfl) ?_
    refine lv_aload hx hb dX10_ask_73 (lv_at hl 0 rfl) ?_
    obtain ⟨w25, hc26, hf⟩ := Option.bind_eq_some_iff.mp hf
    refine z_callV (ci := 10) (As := [va_rf (some a16)]) (rest := []) (c_X10_look l E n w23 this (some a16) w25 (hZ.k 7 rfl rfl) (fun q hq => by cases hq; exact (hZ.k 2 rfl rfl)) hc26) mo_X10_look rfl (by decide) rfl tw_1084 tw_25 tw_1082 hx hb hml hts hown hK ⟨Nat.le_trans (by decide) hR.1, Nat.le_trans (by decide) hR.2⟩ hZ (hZ.k 7 rfl rfl) rfl hl.1 rfl (Nat.le_of_ble_eq_true rfl) rfl dX10_ask_75 (fun H locs cells slots hX hZ => ?_)
    refine lv_iconst (v := 0) hx hb dX10_ask_78 (by decide) ?_
    refine lv_istore (lv' := [(7, .int (0 : Int32)), (6, .ref a16), (0, .ref this), (1, .int p0), (2, .int p1), (3, .int p2), (4, .int p3), (5, .int p4)]) hx hb dX10_ask_79 hl (by decide) rfl (fun ls hl => ?_)
    exact v_X10_ask_l81 n C hR n this (some a16) (0 : Int32) w25 _ _ _ _ _ ⟨hZ.1, hZ.2.1, hZ.2.2.1, hZ.2.2.2.1, (List.forall_mem_cons.mpr ⟨⟨by decide, (fun q hq => by cases hq; exact (hZ.k 7 rfl rfl))⟩, (List.forall_mem_cons.mpr ⟨⟨by decide, (fun q hq => by cases hq; exact (hZ.k 2 rfl rfl))⟩, (fun _ hq => absurd hq List.not_mem_nil)⟩)⟩), hZ.2.2.2.2.2⟩ (lv_sub hl [2, 1, 0] rfl) hf
  · have hf := wd_on_n hn hf
    subst hn
    have hl : lv_has ls 8 [(6, va_rf none), (0, .ref this), (1, .int p0), (2, .int p1), (3, .int p2), (4, .int p3), (5, .int p4)] := hl
    have hZ : wd_Z E w R s w13 H locs cells slots [(none, 3), (some a12, 10), ((wd_R w10 1004 this), 10), (some a9, 10), ((wd_R w7 1004 this), 10), (some this, 11)] := hZ
    obtain rfl := Option.some.inj hf
    exact z_vret hx hb hr hlocks hZ trivial dX10_ask_42

def f_X11_init (n : Nat) (w : Wd) (this : Nat) : Option Wd :=
  wd_gd (wd_M w = 0 ∨ wd_S w < 5) <|
  wd_let (wd_H w) fun a2 =>
  wd_let (wd_nw w 6 0 5) fun w4 =>
  Option.bind (f_X5_init n w4 a2) fun w6 =>
  wd_let (wd_sR w6 1100 this (some a2)) fun w8 =>
  wd_gd (wd_M w8 = 0 ∨ wd_S w8 < 8) <|
  wd_let (wd_H w8) fun a11 =>
  wd_let (wd_nw w8 10 0 8) fun w13 =>
  Option.bind (f_X9_init n w13 a11 (wd_R w13 1100 this)) fun w15 =>
  wd_let (wd_sR w15 1101 this (some a11)) fun w17 =>
  wd_gd (wd_M w17 = 0 ∨ wd_S w17 < 7) <|
  wd_let (wd_H w17) fun a20 =>
  wd_let (wd_nw w17 11 0 7) fun w22 =>
  Option.bind (f_X10_init n w22 a20 (wd_R w22 1100 this)) fun w24 =>
  wd_let (wd_sR w24 1102 this (some a20)) fun w26 =>
  some w26
set_option maxHeartbeats 4000000 in
set_option maxRecDepth 100000 in
theorem c_X11_init (l : Launch) (E : wd_E) (n : Nat) (w : Wd) (this : Nat) (w' : Wd) (k_this : wd_K w this = 12) (hf : f_X11_init n w this = some w') : wd_C l E yX11_init cX11_init 1 none 5 109 [.ref this] w none w' True := by
  refine wd_ofW (own := RX11) (nm := "<init>") (ks := [(some this, 12)]) (lv := [(0, .ref this)]) (by decide) rfl rfl (Nat.le_of_ble_eq_true rfl) rfl (List.forall_mem_cons.mpr ⟨⟨by decide, fun q hq => by cases hq; exact k_this⟩, (fun _ hq => absurd hq List.not_mem_nil)⟩) ?_
  intro p e s m args below meth c R H ls C hR hZ hl
  obtain ⟨hx, hb, hr, hml, hts, hown, hlocks, hmn, hK⟩ := id C
  unfold f_X11_init at hf
  refine lv_aload_n hx hb dX11_init_0 rfl (lv_at hl 0 rfl) ?_
  refine W.objInit hx hb hown (hts _ tw_53) (hts _ tw_54) (hts _ tw_55) rfl (by rw [hml]; exact hl.1) rfl dX11_init_1 (Nat.le_trans (by decide) hR.1) (Nat.le_trans (Nat.le_of_ble_eq_true rfl) hR.2) ?_
  refine W.eq (g2 := F0 m 4 ls []) rfl ?_
  refine lv_aload_n hx hb dX11_init_4 rfl (lv_at hl 0 rfl) ?_
  obtain ⟨h1, hf⟩ := wd_gd_e hf
  refine z_new cok_5 hx hb hts hown hK hZ tw_56 tw_57 tw_28 h1 dX11_init_5 (fun H cells slots hZ => ?_)
  obtain ⟨a2, e3, hf⟩ := wd_let_e hf
  rw [e3]
  rw [e3] at hZ
  obtain ⟨w4, e5, hf⟩ := wd_let_e hf
  rw [e5] at hZ
  refine lv_dup hx hb dX11_init_8 rfl ?_
  obtain ⟨w6, hc7, hf⟩ := Option.bind_eq_some_iff.mp hf
  refine z_callI (As := []) (rest := [.ref a2, .ref this]) (c_X5_init l E n w4 a2 w6 (hZ.k 0 rfl rfl) hc7) mo_X5_init rfl tw_59 tw_58 hx hb hml hts hown hK ⟨Nat.le_trans (by decide) hR.1, Nat.le_trans (by decide) hR.2⟩ hZ rfl hl.1 rfl (Nat.le_of_ble_eq_true rfl) dX11_init_9 (fun H locs cells slots hX hZ => ?_)
  refine z_putFR (r := (some a2)) rfl hmn rfl fd_1100 cok_11 (tk := 5) rfl (fun q hq => by cases hq; exact (hZ.k 0 rfl rfl)) rfl rfl (wd_obO _) hx hb hts hown hK hZ (hZ.k 1 rfl rfl) tw_306 dX11_init_12 (fun H locs hZ => ?_)
  obtain ⟨w8, e9, hf⟩ := wd_let_e hf
  rw [e9] at hZ
  refine lv_aload_n hx hb dX11_init_15 rfl (lv_at hl 0 rfl) ?_
  obtain ⟨h10, hf⟩ := wd_gd_e hf
  refine z_new cok_9 hx hb hts hown hK hZ tw_137 tw_138 tw_31 h10 dX11_init_16 (fun H cells slots hZ => ?_)
  obtain ⟨a11, e12, hf⟩ := wd_let_e hf
  rw [e12]
  rw [e12] at hZ
  obtain ⟨w13, e14, hf⟩ := wd_let_e hf
  rw [e14] at hZ
  refine lv_dup hx hb dX11_init_19 rfl ?_
  refine lv_aload_n hx hb dX11_init_20 rfl (lv_at hl 0 rfl) ?_
  refine z_getR (tk := 5) fd_1100 rfl hx hb hts hown hK hZ (hZ.k 2 rfl rfl) tw_306 dX11_init_21 (fun hZ => ?_)
  obtain ⟨w15, hc16, hf⟩ := Option.bind_eq_some_iff.mp hf
  refine z_callI (As := [va_rf (wd_R w13 1100 this)]) (rest := [.ref a11, .ref this]) (c_X9_init l E n w13 a11 (wd_R w13 1100 this) w15 (hZ.k 1 rfl rfl) (fun q hq => hZ.k 0 rfl hq) hc16) mo_X9_init rfl tw_140 tw_139 hx hb hml hts hown hK ⟨Nat.le_trans (by decide) hR.1, Nat.le_trans (by decide) hR.2⟩ hZ rfl hl.1 rfl (Nat.le_of_ble_eq_true rfl) dX11_init_24 (fun H locs cells slots hX hZ => ?_)
  refine z_putFR (r := (some a11)) rfl hmn rfl fd_1101 cok_11 (tk := 9) rfl (fun q hq => by cases hq; exact (hZ.k 1 rfl rfl)) rfl rfl (wd_obO _) hx hb hts hown hK hZ (hZ.k 3 rfl rfl) tw_307 dX11_init_27 (fun H locs hZ => ?_)
  obtain ⟨w17, e18, hf⟩ := wd_let_e hf
  rw [e18] at hZ
  refine lv_aload_n hx hb dX11_init_30 rfl (lv_at hl 0 rfl) ?_
  obtain ⟨h19, hf⟩ := wd_gd_e hf
  refine z_new cok_10 hx hb hts hown hK hZ tw_272 tw_273 tw_36 h19 dX11_init_31 (fun H cells slots hZ => ?_)
  obtain ⟨a20, e21, hf⟩ := wd_let_e hf
  rw [e21]
  rw [e21] at hZ
  obtain ⟨w22, e23, hf⟩ := wd_let_e hf
  rw [e23] at hZ
  refine lv_dup hx hb dX11_init_34 rfl ?_
  refine lv_aload_n hx hb dX11_init_35 rfl (lv_at hl 0 rfl) ?_
  refine z_getR (tk := 5) fd_1100 rfl hx hb hts hown hK hZ (hZ.k 4 rfl rfl) tw_306 dX11_init_36 (fun hZ => ?_)
  obtain ⟨w24, hc25, hf⟩ := Option.bind_eq_some_iff.mp hf
  refine z_callI (As := [va_rf (wd_R w22 1100 this)]) (rest := [.ref a20, .ref this]) (c_X10_init l E n w22 a20 (wd_R w22 1100 this) w24 (hZ.k 1 rfl rfl) (fun q hq => hZ.k 0 rfl hq) hc25) mo_X10_init rfl tw_275 tw_274 hx hb hml hts hown hK ⟨Nat.le_trans (by decide) hR.1, Nat.le_trans (by decide) hR.2⟩ hZ rfl hl.1 rfl (Nat.le_of_ble_eq_true rfl) dX11_init_39 (fun H locs cells slots hX hZ => ?_)
  refine z_putFR (r := (some a20)) rfl hmn rfl fd_1102 cok_11 (tk := 10) rfl (fun q hq => by cases hq; exact (hZ.k 1 rfl rfl)) rfl rfl (wd_obO _) hx hb hts hown hK hZ (hZ.k 5 rfl rfl) tw_308 dX11_init_42 (fun H locs hZ => ?_)
  obtain ⟨w26, e27, hf⟩ := wd_let_e hf
  rw [e27] at hZ
  obtain rfl := Option.some.inj hf
  exact z_vret hx hb hr hlocks hZ trivial dX11_init_45

def f_X11_needWidth_j13 (n : Nat) (w : Wd) : Option Wd :=
  none
def f_X11_needWidth (n : Nat) (w : Wd) (p0 : Int32) : Option Wd :=
  if p0 < (12 : Int32) then
    f_X11_needWidth_j13 n w
  else
    if p0 ≤ (200 : Int32) then
      some w
    else
      f_X11_needWidth_j13 n w
set_option maxHeartbeats 4000000 in
set_option maxRecDepth 100000 in
theorem v_X11_needWidth_j13 {p : Program} {l : Launch} {e : Env} {R : Room} {s : State} {m : MethodId} {args : Array Value} {below : List Frame} {meth : Method} {c : Code} {E : wd_E} {w0 : Wd} {w' : Wd} (n : Nat) (C : wd_X p s m args meth c cX11_needWidth RX11 1 none "needWidth" E) (hR : 0 ≤ R.frames ∧ 0 ≤ R.locals) (w : Wd) (H : Heap) (locs : List Loc) (cells slots : Nat) (ls : Array Slot) (hZ : wd_Z E w0 R s w H locs cells slots []) (hl : lv_has ls 1 []) (hf : f_X11_needWidth_j13 n w = some w') : W p l e R s m args below meth c H locs cells slots (wd_fin E w0 none w' True R args s below) (F0 m 13 ls []) := by
  obtain ⟨hx, hb, hr, hml, hts, hown, hlocks, hmn, hK⟩ := id C
  unfold f_X11_needWidth_j13 at hf
  cases hf

set_option maxHeartbeats 4000000 in
set_option maxRecDepth 100000 in
theorem c_X11_needWidth (l : Launch) (E : wd_E) (n : Nat) (w : Wd) (p0 : Int32) (w' : Wd)  (hf : f_X11_needWidth n w p0 = some w') : wd_C l E yX11_needWidth cX11_needWidth 1 none 0 0 [.int p0] w none w' True := by
  refine wd_ofW (own := RX11) (nm := "needWidth") (ks := []) (lv := [(0, .int p0)]) (by decide) rfl rfl (Nat.le_of_ble_eq_true rfl) rfl (fun _ hq => absurd hq List.not_mem_nil) ?_
  intro p e s m args below meth c R H ls C hR hZ hl
  obtain ⟨hx, hb, hr, hml, hts, hown, hlocks, hmn, hK⟩ := id C
  unfold f_X11_needWidth at hf
  refine lv_iload_n hx hb dX11_needWidth_0 rfl (lv_at hl 0 rfl) ?_
  refine lv_bipush (v := 12) hx hb dX11_needWidth_1 (by decide) ?_
  refine lv_icmp_lt (tgt := 13) hx hb dX11_needWidth_3 (by decide) (fun h1 => ?_) (fun h1 => ?_)
  · have hf := wd_ite_p h1 hf
    exact v_X11_needWidth_j13 n C hR w _ _ _ _ _ ⟨hZ.1, hZ.2.1, hZ.2.2.1, hZ.2.2.2.1, (fun _ hq => absurd hq List.not_mem_nil), hZ.2.2.2.2.2⟩ (lv_sub hl [] rfl) hf
  · have hf := wd_ite_n h1 hf
    refine lv_iload_n hx hb dX11_needWidth_6 rfl (lv_at hl 0 rfl) ?_
    refine lv_sipush (v := 200) hx hb dX11_needWidth_7 (by decide) ?_
    refine lv_icmp_le (tgt := 24) hx hb dX11_needWidth_10 (by decide) (fun h2 => ?_) (fun h2 => ?_)
    · have hf := wd_ite_p h2 hf
      obtain rfl := Option.some.inj hf
      exact z_vret hx hb hr hlocks hZ trivial dX11_needWidth_24
    · have hf := wd_ite_n h2 hf
      exact v_X11_needWidth_j13 n C hR w _ _ _ _ _ ⟨hZ.1, hZ.2.1, hZ.2.2.1, hZ.2.2.2.1, (fun _ hq => absurd hq List.not_mem_nil), hZ.2.2.2.2.2⟩ (lv_sub hl [] rfl) hf

def f_X11_addCable (n : Nat) (w : Wd) (this : Nat) (p0 : Int32) : Option (Int32 × Wd) :=
  Option.bind (f_X11_needWidth n w p0) fun w1 =>
  Option.bind (wd_R w1 1100 this) fun a3 =>
  wd_b2 (f_X5_putCable n w1 a3 p0) fun r6 w4 =>
  if 0 ≤ r6 then
    some (r6, w4)
  else
    none
set_option maxHeartbeats 4000000 in
set_option maxRecDepth 100000 in
theorem c_X11_addCable (l : Launch) (E : wd_E) (n : Nat) (w : Wd) (this : Nat) (p0 : Int32) (r' : Int32) (w' : Wd) (k_this : wd_K w this = 12) (hf : f_X11_addCable n w this p0 = some (r', w')) : wd_C l E yX11_addCable cX11_addCable 3 (some .int) 1 21 [.ref this, .int p0] w (some (.int r')) w' True := by
  refine wd_ofW (own := RX11) (nm := "addCable") (ks := [(some this, 12)]) (lv := [(0, .ref this), (1, .int p0)]) (by decide) rfl rfl (Nat.le_of_ble_eq_true rfl) rfl (List.forall_mem_cons.mpr ⟨⟨by decide, fun q hq => by cases hq; exact k_this⟩, (fun _ hq => absurd hq List.not_mem_nil)⟩) ?_
  intro p e s m args below meth c R H ls C hR hZ hl
  obtain ⟨hx, hb, hr, hml, hts, hown, hlocks, hmn, hK⟩ := id C
  unfold f_X11_addCable at hf
  refine lv_iload_n hx hb dX11_addCable_0 rfl (lv_at hl 1 rfl) ?_
  obtain ⟨w1, hc2, hf⟩ := Option.bind_eq_some_iff.mp hf
  refine z_callS (As := [.int p0]) (rest := []) (c_X11_needWidth l E n w p0 w1  hc2) mo_X11_needWidth tw_321 tw_320 hx hb hml hts hown hK ⟨Nat.le_trans (by decide) hR.1, Nat.le_trans (by decide) hR.2⟩ hZ rfl hl.1 rfl (Nat.le_of_ble_eq_true rfl) rfl dX11_addCable_1 (fun H locs cells slots hX hZ => ?_)
  refine lv_aload_n hx hb dX11_addCable_4 rfl (lv_at hl 0 rfl) ?_
  refine z_getR (tk := 5) fd_1100 rfl hx hb hts hown hK hZ (hZ.k 0 rfl rfl) tw_306 dX11_addCable_5 (fun hZ => ?_)
  refine lv_iload_n hx hb dX11_addCable_8 rfl (lv_at hl 1 rfl) ?_
  obtain ⟨a3, ha3, hf⟩ := Option.bind_eq_some_iff.mp hf
  have hZ := hZ.add (r := some a3) (k := 6) (by decide) (fun q hq => by cases hq; exact hZ.k 0 rfl ha3)
  rw [ha3]
  obtain ⟨r6, w4, hc5, hf⟩ := wd_b2_e hf
  refine z_callV (ci := 5) (As := [.int p0]) (rest := []) (c_X5_putCable l E n w1 a3 p0 r6 w4 (hZ.k 0 rfl rfl) hc5) mo_X5_putCable rfl (by decide) rfl tw_392 tw_393 tw_391 hx hb hml hts hown hK ⟨Nat.le_trans (by decide) hR.1, Nat.le_trans (by decide) hR.2⟩ hZ (hZ.k 0 rfl rfl) rfl hl.1 rfl (Nat.le_of_ble_eq_true rfl) rfl dX11_addCable_9 (fun H locs cells slots hX hZ => ?_)
  refine lv_istore_n (lv' := [(2, .int r6), (0, .ref this), (1, .int p0)]) hx hb dX11_addCable_12 rfl hl (by decide) rfl (fun ls hl => ?_)
  refine lv_iload_n hx hb dX11_addCable_13 rfl (lv_at hl 0 rfl) ?_
  refine lv_if_ge (tgt := 27) hx hb dX11_addCable_14 (by decide) (fun h7 => ?_) (fun h7 => ?_)
  · have hf := wd_ite_p h7 hf
    refine lv_iload_n hx hb dX11_addCable_27 rfl (lv_at hl 0 rfl) ?_
    obtain ⟨rfl, rfl⟩ := Prod.mk.inj (Option.some.inj hf)
    exact z_iret hx hb hr hlocks hZ trivial dX11_addCable_28
  · have hf := wd_ite_n h7 hf
    cases hf

def f_X11_needCable_j15 (n : Nat) (w : Wd) : Option Wd :=
  none
def f_X11_needCable (n : Nat) (w : Wd) (this : Nat) (p0 : Int32) : Option Wd :=
  if p0 < 0 then
    f_X11_needCable_j15 n w
  else
    Option.bind (wd_R w 1100 this) fun a2 =>
    if p0 < (wd_I w 501 a2) then
      some w
    else
      f_X11_needCable_j15 n w
set_option maxHeartbeats 4000000 in
set_option maxRecDepth 100000 in
theorem v_X11_needCable_j15 {p : Program} {l : Launch} {e : Env} {R : Room} {s : State} {m : MethodId} {args : Array Value} {below : List Frame} {meth : Method} {c : Code} {E : wd_E} {w0 : Wd} {w' : Wd} (n : Nat) (C : wd_X p s m args meth c cX11_needCable RX11 2 none "needCable" E) (hR : 0 ≤ R.frames ∧ 0 ≤ R.locals) (w : Wd) (H : Heap) (locs : List Loc) (cells slots : Nat) (ls : Array Slot) (hZ : wd_Z E w0 R s w H locs cells slots []) (hl : lv_has ls 2 []) (hf : f_X11_needCable_j15 n w = some w') : W p l e R s m args below meth c H locs cells slots (wd_fin E w0 none w' True R args s below) (F0 m 15 ls []) := by
  obtain ⟨hx, hb, hr, hml, hts, hown, hlocks, hmn, hK⟩ := id C
  unfold f_X11_needCable_j15 at hf
  cases hf

set_option maxHeartbeats 4000000 in
set_option maxRecDepth 100000 in
theorem c_X11_needCable (l : Launch) (E : wd_E) (n : Nat) (w : Wd) (this : Nat) (p0 : Int32) (w' : Wd) (k_this : wd_K w this = 12) (hf : f_X11_needCable n w this p0 = some w') : wd_C l E yX11_needCable cX11_needCable 2 none 0 0 [.ref this, .int p0] w none w' True := by
  refine wd_ofW (own := RX11) (nm := "needCable") (ks := [(some this, 12)]) (lv := [(0, .ref this), (1, .int p0)]) (by decide) rfl rfl (Nat.le_of_ble_eq_true rfl) rfl (List.forall_mem_cons.mpr ⟨⟨by decide, fun q hq => by cases hq; exact k_this⟩, (fun _ hq => absurd hq List.not_mem_nil)⟩) ?_
  intro p e s m args below meth c R H ls C hR hZ hl
  obtain ⟨hx, hb, hr, hml, hts, hown, hlocks, hmn, hK⟩ := id C
  unfold f_X11_needCable at hf
  refine lv_iload_n hx hb dX11_needCable_0 rfl (lv_at hl 1 rfl) ?_
  refine lv_if_lt (tgt := 15) hx hb dX11_needCable_1 (by decide) (fun h1 => ?_) (fun h1 => ?_)
  · have hf := wd_ite_p h1 hf
    exact v_X11_needCable_j15 n C hR w _ _ _ _ _ ⟨hZ.1, hZ.2.1, hZ.2.2.1, hZ.2.2.2.1, (fun _ hq => absurd hq List.not_mem_nil), hZ.2.2.2.2.2⟩ (lv_sub hl [] rfl) hf
  · have hf := wd_ite_n h1 hf
    refine lv_iload_n hx hb dX11_needCable_4 rfl (lv_at hl 1 rfl) ?_
    refine lv_aload_n hx hb dX11_needCable_5 rfl (lv_at hl 0 rfl) ?_
    refine z_getR (tk := 5) fd_1100 rfl hx hb hts hown hK hZ (hZ.k 0 rfl rfl) tw_306 dX11_needCable_6 (fun hZ => ?_)
    obtain ⟨a2, ha2, hf⟩ := Option.bind_eq_some_iff.mp hf
    have hZ := hZ.add (r := some a2) (k := 6) (by decide) (fun q hq => by cases hq; exact hZ.k 0 rfl ha2)
    rw [ha2]
    refine z_getI fd_501 rfl hx hb hts hown hK hZ (hZ.k 0 rfl rfl) tw_120 dX11_needCable_9 ?_
    refine lv_icmp_lt (tgt := 26) hx hb dX11_needCable_12 (by decide) (fun h3 => ?_) (fun h3 => ?_)
    · have hf := wd_ite_p h3 hf
      obtain rfl := Option.some.inj hf
      exact z_vret hx hb hr hlocks hZ trivial dX11_needCable_26
    · have hf := wd_ite_n h3 hf
      exact v_X11_needCable_j15 n C hR w _ _ _ _ _ ⟨hZ.1, hZ.2.1, hZ.2.2.1, hZ.2.2.2.1, (fun _ hq => absurd hq List.not_mem_nil), hZ.2.2.2.2.2⟩ (lv_sub hl [] rfl) hf

def f_X11_setWidth (n : Nat) (w : Wd) (this : Nat) (p0 : Int32) (p1 : Int32) : Option (Int32 × Wd) :=
  Option.bind (f_X11_needCable n w this p0) fun w1 =>
  Option.bind (f_X11_needWidth n w1 p1) fun w3 =>
  Option.bind (wd_R w3 1100 this) fun a5 =>
  wd_b2 (f_X5_changeWidth n w3 a5 p0 p1) fun r8 w6 =>
  some (r8, w6)
set_option maxHeartbeats 4000000 in
set_option maxRecDepth 100000 in
theorem c_X11_setWidth (l : Launch) (E : wd_E) (n : Nat) (w : Wd) (this : Nat) (p0 : Int32) (p1 : Int32) (r' : Int32) (w' : Wd) (k_this : wd_K w this = 12) (hf : f_X11_setWidth n w this p0 p1 = some (r', w')) : wd_C l E yX11_setWidth cX11_setWidth 3 (some .int) 2 44 [.ref this, .int p0, .int p1] w (some (.int r')) w' True := by
  refine wd_ofW (own := RX11) (nm := "setWidth") (ks := [(some this, 12)]) (lv := [(0, .ref this), (1, .int p0), (2, .int p1)]) (by decide) rfl rfl (Nat.le_of_ble_eq_true rfl) rfl (List.forall_mem_cons.mpr ⟨⟨by decide, fun q hq => by cases hq; exact k_this⟩, (fun _ hq => absurd hq List.not_mem_nil)⟩) ?_
  intro p e s m args below meth c R H ls C hR hZ hl
  obtain ⟨hx, hb, hr, hml, hts, hown, hlocks, hmn, hK⟩ := id C
  unfold f_X11_setWidth at hf
  refine lv_aload_n hx hb dX11_setWidth_0 rfl (lv_at hl 0 rfl) ?_
  refine lv_iload_n hx hb dX11_setWidth_1 rfl (lv_at hl 1 rfl) ?_
  obtain ⟨w1, hc2, hf⟩ := Option.bind_eq_some_iff.mp hf
  refine z_callV (ci := 11) (As := [.int p0]) (rest := []) (c_X11_needCable l E n w this p0 w1 (hZ.k 0 rfl rfl) hc2) mo_X11_needCable rfl (by decide) rfl tw_531 tw_4 tw_529 hx hb hml hts hown hK ⟨Nat.le_trans (by decide) hR.1, Nat.le_trans (by decide) hR.2⟩ hZ (hZ.k 0 rfl rfl) rfl hl.1 rfl (Nat.le_of_ble_eq_true rfl) rfl dX11_setWidth_2 (fun H locs cells slots hX hZ => ?_)
  refine lv_iload_n hx hb dX11_setWidth_5 rfl (lv_at hl 2 rfl) ?_
  obtain ⟨w3, hc4, hf⟩ := Option.bind_eq_some_iff.mp hf
  refine z_callS (As := [.int p1]) (rest := []) (c_X11_needWidth l E n w1 p1 w3  hc4) mo_X11_needWidth tw_321 tw_320 hx hb hml hts hown hK ⟨Nat.le_trans (by decide) hR.1, Nat.le_trans (by decide) hR.2⟩ hZ rfl hl.1 rfl (Nat.le_of_ble_eq_true rfl) rfl dX11_setWidth_6 (fun H locs cells slots hX hZ => ?_)
  refine lv_aload_n hx hb dX11_setWidth_9 rfl (lv_at hl 0 rfl) ?_
  refine z_getR (tk := 5) fd_1100 rfl hx hb hts hown hK hZ (hZ.k 0 rfl rfl) tw_306 dX11_setWidth_10 (fun hZ => ?_)
  refine lv_iload_n hx hb dX11_setWidth_13 rfl (lv_at hl 1 rfl) ?_
  refine lv_iload_n hx hb dX11_setWidth_14 rfl (lv_at hl 2 rfl) ?_
  obtain ⟨a5, ha5, hf⟩ := Option.bind_eq_some_iff.mp hf
  have hZ := hZ.add (r := some a5) (k := 6) (by decide) (fun q hq => by cases hq; exact hZ.k 0 rfl ha5)
  rw [ha5]
  obtain ⟨r8, w6, hc7, hf⟩ := wd_b2_e hf
  refine z_callV (ci := 5) (As := [.int p0, .int p1]) (rest := []) (c_X5_changeWidth l E n w3 a5 p0 p1 r8 w6 (hZ.k 0 rfl rfl) hc7) mo_X5_changeWidth rfl (by decide) rfl tw_974 tw_975 tw_973 hx hb hml hts hown hK ⟨Nat.le_trans (by decide) hR.1, Nat.le_trans (by decide) hR.2⟩ hZ (hZ.k 0 rfl rfl) rfl hl.1 rfl (Nat.le_of_ble_eq_true rfl) rfl dX11_setWidth_15 (fun H locs cells slots hX hZ => ?_)
  obtain ⟨rfl, rfl⟩ := Prod.mk.inj (Option.some.inj hf)
  exact z_iret hx hb hr hlocks hZ trivial dX11_setWidth_18

def f_X11_addMachine (n : Nat) (w : Wd) (this : Nat) (p0 : Int32) : Option (Int32 × Wd) :=
  Option.bind (wd_R w 1100 this) fun a1 =>
  wd_b2 (f_X5_putMachine n w a1 p0) fun r4 w2 =>
  if 0 ≤ r4 then
    some (r4, w2)
  else
    none
set_option maxHeartbeats 4000000 in
set_option maxRecDepth 100000 in
theorem c_X11_addMachine (l : Launch) (E : wd_E) (n : Nat) (w : Wd) (this : Nat) (p0 : Int32) (r' : Int32) (w' : Wd) (k_this : wd_K w this = 12) (hf : f_X11_addMachine n w this p0 = some (r', w')) : wd_C l E yX11_addMachine cX11_addMachine 3 (some .int) 1 21 [.ref this, .int p0] w (some (.int r')) w' True := by
  refine wd_ofW (own := RX11) (nm := "addMachine") (ks := [(some this, 12)]) (lv := [(0, .ref this), (1, .int p0)]) (by decide) rfl rfl (Nat.le_of_ble_eq_true rfl) rfl (List.forall_mem_cons.mpr ⟨⟨by decide, fun q hq => by cases hq; exact k_this⟩, (fun _ hq => absurd hq List.not_mem_nil)⟩) ?_
  intro p e s m args below meth c R H ls C hR hZ hl
  obtain ⟨hx, hb, hr, hml, hts, hown, hlocks, hmn, hK⟩ := id C
  unfold f_X11_addMachine at hf
  refine lv_aload_n hx hb dX11_addMachine_0 rfl (lv_at hl 0 rfl) ?_
  refine z_getR (tk := 5) fd_1100 rfl hx hb hts hown hK hZ (hZ.k 0 rfl rfl) tw_306 dX11_addMachine_1 (fun hZ => ?_)
  refine lv_iload_n hx hb dX11_addMachine_4 rfl (lv_at hl 1 rfl) ?_
  obtain ⟨a1, ha1, hf⟩ := Option.bind_eq_some_iff.mp hf
  have hZ := hZ.add (r := some a1) (k := 6) (by decide) (fun q hq => by cases hq; exact hZ.k 0 rfl ha1)
  rw [ha1]
  obtain ⟨r4, w2, hc3, hf⟩ := wd_b2_e hf
  refine z_callV (ci := 5) (As := [.int p0]) (rest := []) (c_X5_putMachine l E n w a1 p0 r4 w2 (hZ.k 0 rfl rfl) hc3) mo_X5_putMachine rfl (by decide) rfl tw_416 tw_417 tw_415 hx hb hml hts hown hK ⟨Nat.le_trans (by decide) hR.1, Nat.le_trans (by decide) hR.2⟩ hZ (hZ.k 0 rfl rfl) rfl hl.1 rfl (Nat.le_of_ble_eq_true rfl) rfl dX11_addMachine_5 (fun H locs cells slots hX hZ => ?_)
  refine lv_istore_n (lv' := [(2, .int r4), (0, .ref this), (1, .int p0)]) hx hb dX11_addMachine_8 rfl hl (by decide) rfl (fun ls hl => ?_)
  refine lv_iload_n hx hb dX11_addMachine_9 rfl (lv_at hl 0 rfl) ?_
  refine lv_if_ge (tgt := 23) hx hb dX11_addMachine_10 (by decide) (fun h5 => ?_) (fun h5 => ?_)
  · have hf := wd_ite_p h5 hf
    refine lv_iload_n hx hb dX11_addMachine_23 rfl (lv_at hl 0 rfl) ?_
    obtain ⟨rfl, rfl⟩ := Prod.mk.inj (Option.some.inj hf)
    exact z_iret hx hb hr hlocks hZ trivial dX11_addMachine_24
  · have hf := wd_ite_n h5 hf
    cases hf

def f_X11_hostOf_j23 (n : Nat) (y0 : Option Nat) (w : Wd) : Option (Option Nat × Wd) :=
  wd_on y0 (
    none)
    (fun a3 =>
    some ((some a3), w))
def f_X11_hostOf (n : Nat) (w : Wd) (this : Nat) (p0 : Int32) : Option (Option Nat × Wd) :=
  Option.bind (wd_R w 1100 this) fun a1 =>
  if (wd_I w 503 a1) ≤ p0 then
    f_X11_hostOf_j23 n none w
  else
    Option.bind (wd_R w 1101 this) fun a4 =>
    wd_b2 (f_X9_host n w a4 p0) fun r7 w5 =>
    f_X11_hostOf_j23 n r7 w5
set_option maxHeartbeats 4000000 in
set_option maxRecDepth 100000 in
theorem v_X11_hostOf_j23 {p : Program} {l : Launch} {e : Env} {R : Room} {s : State} {m : MethodId} {args : Array Value} {below : List Frame} {meth : Method} {c : Code} {E : wd_E} {w0 : Wd} {r' : Option Nat} {w' : Wd} (n : Nat) (C : wd_X p s m args meth c cX11_hostOf RX11 3 (some (.object "SeamarkNet$Host")) "hostOf" E) (hR : 1 ≤ R.frames ∧ 21 ≤ R.locals) (y0 : Option Nat) (w : Wd) (H : Heap) (locs : List Loc) (cells slots : Nat) (ls : Array Slot) (hZ : wd_Z E w0 R s w H locs cells slots [(y0, 3)]) (hl : lv_has ls 3 []) (hf : f_X11_hostOf_j23 n y0 w = some (r', w')) : W p l e R s m args below meth c H locs cells slots (wd_fin E w0 (some (va_rf r')) w' (∀ q, r' = some q → wd_K w' q = 3) R args s below) (F0 m 23 ls [va_rf y0]) := by
  obtain ⟨hx, hb, hr, hml, hts, hown, hlocks, hmn, hK⟩ := id C
  unfold f_X11_hostOf_j23 at hf
  refine z_astore_n (lv' := [(2, va_rf y0)]) hx hb dX11_hostOf_23 rfl hl (by decide) rfl (fun ls hl => ?_)
  refine z_aload_n hx hb dX11_hostOf_24 rfl (lv_at hl 0 rfl) ?_
  refine z_ifnonnull (tgt := 39) hx hb dX11_hostOf_25 (by decide) (fun a3 ha3 => ?_) (fun hn => ?_)
  · have hf := wd_on_s ha3 hf
    subst ha3
    have hl : lv_has ls 3 [(2, .ref a3)] := hl
    have hZ : wd_Z E w0 R s w H locs cells slots [(some a3, 3)] := hZ
    refine lv_aload_n hx hb dX11_hostOf_39 rfl (lv_at hl 0 rfl) ?_
    obtain ⟨rfl, rfl⟩ := Prod.mk.inj (Option.some.inj hf)
    exact z_aret rfl hx hb hr hlocks hZ (fun q hq => by cases hq; exact (hZ.k 0 rfl rfl)) dX11_hostOf_40
  · have hf := wd_on_n hn hf
    subst hn
    have hl : lv_has ls 3 [(2, va_rf none)] := hl
    have hZ : wd_Z E w0 R s w H locs cells slots [(none, 3)] := hZ
    cases hf

set_option maxHeartbeats 4000000 in
set_option maxRecDepth 100000 in
theorem c_X11_hostOf (l : Launch) (E : wd_E) (n : Nat) (w : Wd) (this : Nat) (p0 : Int32) (r' : Option Nat) (w' : Wd) (k_this : wd_K w this = 12) (hf : f_X11_hostOf n w this p0 = some (r', w')) : wd_C l E yX11_hostOf cX11_hostOf 3 (some (.object "SeamarkNet$Host")) 1 21 [.ref this, .int p0] w (some (va_rf r')) w' (∀ q, r' = some q → wd_K w' q = 3) := by
  refine wd_ofW (own := RX11) (nm := "hostOf") (ks := [(some this, 12)]) (lv := [(0, .ref this), (1, .int p0)]) (by decide) rfl rfl (Nat.le_of_ble_eq_true rfl) rfl (List.forall_mem_cons.mpr ⟨⟨by decide, fun q hq => by cases hq; exact k_this⟩, (fun _ hq => absurd hq List.not_mem_nil)⟩) ?_
  intro p e s m args below meth c R H ls C hR hZ hl
  obtain ⟨hx, hb, hr, hml, hts, hown, hlocks, hmn, hK⟩ := id C
  unfold f_X11_hostOf at hf
  refine lv_iload_n hx hb dX11_hostOf_0 rfl (lv_at hl 1 rfl) ?_
  refine lv_aload_n hx hb dX11_hostOf_1 rfl (lv_at hl 0 rfl) ?_
  refine z_getR (tk := 5) fd_1100 rfl hx hb hts hown hK hZ (hZ.k 0 rfl rfl) tw_306 dX11_hostOf_2 (fun hZ => ?_)
  obtain ⟨a1, ha1, hf⟩ := Option.bind_eq_some_iff.mp hf
  have hZ := hZ.add (r := some a1) (k := 6) (by decide) (fun q hq => by cases hq; exact hZ.k 0 rfl ha1)
  rw [ha1]
  refine z_getI fd_503 rfl hx hb hts hown hK hZ (hZ.k 0 rfl rfl) tw_124 dX11_hostOf_5 ?_
  refine lv_icmp_ge (tgt := 22) hx hb dX11_hostOf_8 (by decide) (fun h2 => ?_) (fun h2 => ?_)
  · have hf := wd_ite_p h2 hf
    refine z_null hx hb dX11_hostOf_22 ?_
    exact v_X11_hostOf_j23 n C hR none w _ _ _ _ _ ⟨hZ.1, hZ.2.1, hZ.2.2.1, hZ.2.2.2.1, (List.forall_mem_cons.mpr ⟨⟨by decide, (fun q hq => by cases hq)⟩, (fun _ hq => absurd hq List.not_mem_nil)⟩), hZ.2.2.2.2.2⟩ (lv_sub hl [] rfl) hf
  · have hf := wd_ite_n h2 hf
    refine lv_aload_n hx hb dX11_hostOf_11 rfl (lv_at hl 0 rfl) ?_
    refine z_getR (tk := 9) fd_1101 rfl hx hb hts hown hK hZ (hZ.k 2 rfl rfl) tw_307 dX11_hostOf_12 (fun hZ => ?_)
    refine lv_iload_n hx hb dX11_hostOf_15 rfl (lv_at hl 1 rfl) ?_
    obtain ⟨a4, ha4, hf⟩ := Option.bind_eq_some_iff.mp hf
    have hZ := hZ.add (r := some a4) (k := 10) (by decide) (fun q hq => by cases hq; exact hZ.k 0 rfl ha4)
    rw [ha4]
    obtain ⟨r7, w5, hc6, hf⟩ := wd_b2_e hf
    refine z_callV (ci := 9) (As := [.int p0]) (rest := []) (c_X9_host l E n w a4 p0 r7 w5 (hZ.k 0 rfl rfl) hc6) mo_X9_host rfl (by decide) rfl tw_451 tw_452 tw_450 hx hb hml hts hown hK ⟨Nat.le_trans (by decide) hR.1, Nat.le_trans (by decide) hR.2⟩ hZ (hZ.k 0 rfl rfl) rfl hl.1 rfl (Nat.le_of_ble_eq_true rfl) rfl dX11_hostOf_16 (fun H locs cells slots hX hZ => ?_)
    have hZ := hZ.add (by decide) hX
    refine lv_goto (tgt := 23) hx hb dX11_hostOf_19 (by decide) ?_
    exact v_X11_hostOf_j23 n C hR r7 w5 _ _ _ _ _ ⟨hZ.1, hZ.2.1, hZ.2.2.1, hZ.2.2.2.1, (List.forall_mem_cons.mpr ⟨⟨by decide, (fun q hq => hZ.k 0 rfl hq)⟩, (fun _ hq => absurd hq List.not_mem_nil)⟩), hZ.2.2.2.2.2⟩ (lv_sub hl [] rfl) hf

def f_X11_needAddress_j11 (n : Nat) (w : Wd) : Option Wd :=
  none
def f_X11_needAddress (n : Nat) (w : Wd) (p0 : Int32) : Option Wd :=
  if p0 < 0 then
    f_X11_needAddress_j11 n w
  else
    if p0 < (256 : Int32) then
      some w
    else
      f_X11_needAddress_j11 n w
set_option maxHeartbeats 4000000 in
set_option maxRecDepth 100000 in
theorem v_X11_needAddress_j11 {p : Program} {l : Launch} {e : Env} {R : Room} {s : State} {m : MethodId} {args : Array Value} {below : List Frame} {meth : Method} {c : Code} {E : wd_E} {w0 : Wd} {w' : Wd} (n : Nat) (C : wd_X p s m args meth c cX11_needAddress RX11 1 none "needAddress" E) (hR : 0 ≤ R.frames ∧ 0 ≤ R.locals) (w : Wd) (H : Heap) (locs : List Loc) (cells slots : Nat) (ls : Array Slot) (hZ : wd_Z E w0 R s w H locs cells slots []) (hl : lv_has ls 1 []) (hf : f_X11_needAddress_j11 n w = some w') : W p l e R s m args below meth c H locs cells slots (wd_fin E w0 none w' True R args s below) (F0 m 11 ls []) := by
  obtain ⟨hx, hb, hr, hml, hts, hown, hlocks, hmn, hK⟩ := id C
  unfold f_X11_needAddress_j11 at hf
  cases hf

set_option maxHeartbeats 4000000 in
set_option maxRecDepth 100000 in
theorem c_X11_needAddress (l : Launch) (E : wd_E) (n : Nat) (w : Wd) (p0 : Int32) (w' : Wd)  (hf : f_X11_needAddress n w p0 = some w') : wd_C l E yX11_needAddress cX11_needAddress 1 none 0 0 [.int p0] w none w' True := by
  refine wd_ofW (own := RX11) (nm := "needAddress") (ks := []) (lv := [(0, .int p0)]) (by decide) rfl rfl (Nat.le_of_ble_eq_true rfl) rfl (fun _ hq => absurd hq List.not_mem_nil) ?_
  intro p e s m args below meth c R H ls C hR hZ hl
  obtain ⟨hx, hb, hr, hml, hts, hown, hlocks, hmn, hK⟩ := id C
  unfold f_X11_needAddress at hf
  refine lv_iload_n hx hb dX11_needAddress_0 rfl (lv_at hl 0 rfl) ?_
  refine lv_if_lt (tgt := 11) hx hb dX11_needAddress_1 (by decide) (fun h1 => ?_) (fun h1 => ?_)
  · have hf := wd_ite_p h1 hf
    exact v_X11_needAddress_j11 n C hR w _ _ _ _ _ ⟨hZ.1, hZ.2.1, hZ.2.2.1, hZ.2.2.2.1, (fun _ hq => absurd hq List.not_mem_nil), hZ.2.2.2.2.2⟩ (lv_sub hl [] rfl) hf
  · have hf := wd_ite_n h1 hf
    refine lv_iload_n hx hb dX11_needAddress_4 rfl (lv_at hl 0 rfl) ?_
    refine lv_sipush (v := 256) hx hb dX11_needAddress_5 (by decide) ?_
    refine lv_icmp_lt (tgt := 22) hx hb dX11_needAddress_8 (by decide) (fun h2 => ?_) (fun h2 => ?_)
    · have hf := wd_ite_p h2 hf
      obtain rfl := Option.some.inj hf
      exact z_vret hx hb hr hlocks hZ trivial dX11_needAddress_22
    · have hf := wd_ite_n h2 hf
      exact v_X11_needAddress_j11 n C hR w _ _ _ _ _ ⟨hZ.1, hZ.2.1, hZ.2.2.1, hZ.2.2.2.1, (fun _ hq => absurd hq List.not_mem_nil), hZ.2.2.2.2.2⟩ (lv_sub hl [] rfl) hf

def f_X11_needLength_j10 (n : Nat) (w : Wd) : Option Wd :=
  none
def f_X11_needLength (n : Nat) (w : Wd) (p0 : Int32) : Option Wd :=
  if p0 < 0 then
    f_X11_needLength_j10 n w
  else
    if p0 ≤ (8 : Int32) then
      some w
    else
      f_X11_needLength_j10 n w
set_option maxHeartbeats 4000000 in
set_option maxRecDepth 100000 in
theorem v_X11_needLength_j10 {p : Program} {l : Launch} {e : Env} {R : Room} {s : State} {m : MethodId} {args : Array Value} {below : List Frame} {meth : Method} {c : Code} {E : wd_E} {w0 : Wd} {w' : Wd} (n : Nat) (C : wd_X p s m args meth c cX11_needLength RX11 1 none "needLength" E) (hR : 0 ≤ R.frames ∧ 0 ≤ R.locals) (w : Wd) (H : Heap) (locs : List Loc) (cells slots : Nat) (ls : Array Slot) (hZ : wd_Z E w0 R s w H locs cells slots []) (hl : lv_has ls 1 []) (hf : f_X11_needLength_j10 n w = some w') : W p l e R s m args below meth c H locs cells slots (wd_fin E w0 none w' True R args s below) (F0 m 10 ls []) := by
  obtain ⟨hx, hb, hr, hml, hts, hown, hlocks, hmn, hK⟩ := id C
  unfold f_X11_needLength_j10 at hf
  cases hf

set_option maxHeartbeats 4000000 in
set_option maxRecDepth 100000 in
theorem c_X11_needLength (l : Launch) (E : wd_E) (n : Nat) (w : Wd) (p0 : Int32) (w' : Wd)  (hf : f_X11_needLength n w p0 = some w') : wd_C l E yX11_needLength cX11_needLength 1 none 0 0 [.int p0] w none w' True := by
  refine wd_ofW (own := RX11) (nm := "needLength") (ks := []) (lv := [(0, .int p0)]) (by decide) rfl rfl (Nat.le_of_ble_eq_true rfl) rfl (fun _ hq => absurd hq List.not_mem_nil) ?_
  intro p e s m args below meth c R H ls C hR hZ hl
  obtain ⟨hx, hb, hr, hml, hts, hown, hlocks, hmn, hK⟩ := id C
  unfold f_X11_needLength at hf
  refine lv_iload_n hx hb dX11_needLength_0 rfl (lv_at hl 0 rfl) ?_
  refine lv_if_lt (tgt := 10) hx hb dX11_needLength_1 (by decide) (fun h1 => ?_) (fun h1 => ?_)
  · have hf := wd_ite_p h1 hf
    exact v_X11_needLength_j10 n C hR w _ _ _ _ _ ⟨hZ.1, hZ.2.1, hZ.2.2.1, hZ.2.2.2.1, (fun _ hq => absurd hq List.not_mem_nil), hZ.2.2.2.2.2⟩ (lv_sub hl [] rfl) hf
  · have hf := wd_ite_n h1 hf
    refine lv_iload_n hx hb dX11_needLength_4 rfl (lv_at hl 0 rfl) ?_
    refine lv_bipush (v := 8) hx hb dX11_needLength_5 (by decide) ?_
    refine lv_icmp_le (tgt := 21) hx hb dX11_needLength_7 (by decide) (fun h2 => ?_) (fun h2 => ?_)
    · have hf := wd_ite_p h2 hf
      obtain rfl := Option.some.inj hf
      exact z_vret hx hb hr hlocks hZ trivial dX11_needLength_21
    · have hf := wd_ite_n h2 hf
      exact v_X11_needLength_j10 n C hR w _ _ _ _ _ ⟨hZ.1, hZ.2.1, hZ.2.2.1, hZ.2.2.2.1, (fun _ hq => absurd hq List.not_mem_nil), hZ.2.2.2.2.2⟩ (lv_sub hl [] rfl) hf

def f_X11_addPort (n : Nat) (w : Wd) (this : Nat) (p0 : Int32) (p1 : Int32) (p2 : Int32) (p3 : Int32) : Option (Int32 × Wd) :=
  wd_b2 (f_X11_hostOf n w this p0) fun r3 w1 =>
  Option.bind r3 fun a4 =>
  wd_let (wd_R w1 200 a4) fun v5 =>
  Option.bind (f_X11_needCable n w1 this p1) fun w7 =>
  Option.bind (f_X11_needAddress n w7 p2) fun w9 =>
  Option.bind (f_X11_needLength n w9 p3) fun w11 =>
  Option.bind (wd_R w11 1100 this) fun a13 =>
  wd_b2 (f_X5_putPort n w11 a13 v5 p1 p2 p3) fun r16 w14 =>
  wd_on r16 (
    none)
    (fun a17 =>
    some ((wd_I w14 700 a17), w14))
set_option maxHeartbeats 4000000 in
set_option maxRecDepth 100000 in
theorem c_X11_addPort (l : Launch) (E : wd_E) (n : Nat) (w : Wd) (this : Nat) (p0 : Int32) (p1 : Int32) (p2 : Int32) (p3 : Int32) (r' : Int32) (w' : Wd) (k_this : wd_K w this = 12) (hf : f_X11_addPort n w this p0 p1 p2 p3 = some (r', w')) : wd_C l E yX11_addPort cX11_addPort 7 (some .int) 6 145 [.ref this, .int p0, .int p1, .int p2, .int p3] w (some (.int r')) w' True := by
  refine wd_ofW (own := RX11) (nm := "addPort") (ks := [(some this, 12)]) (lv := [(0, .ref this), (1, .int p0), (2, .int p1), (3, .int p2), (4, .int p3)]) (by decide) rfl rfl (Nat.le_of_ble_eq_true rfl) rfl (List.forall_mem_cons.mpr ⟨⟨by decide, fun q hq => by cases hq; exact k_this⟩, (fun _ hq => absurd hq List.not_mem_nil)⟩) ?_
  intro p e s m args below meth c R H ls C hR hZ hl
  obtain ⟨hx, hb, hr, hml, hts, hown, hlocks, hmn, hK⟩ := id C
  unfold f_X11_addPort at hf
  refine lv_aload_n hx hb dX11_addPort_0 rfl (lv_at hl 0 rfl) ?_
  refine lv_iload_n hx hb dX11_addPort_1 rfl (lv_at hl 1 rfl) ?_
  obtain ⟨r3, w1, hc2, hf⟩ := wd_b2_e hf
  refine z_callV (ci := 11) (As := [.int p0]) (rest := []) (c_X11_hostOf l E n w this p0 r3 w1 (hZ.k 0 rfl rfl) hc2) mo_X11_hostOf rfl (by decide) rfl tw_448 tw_2 tw_446 hx hb hml hts hown hK ⟨Nat.le_trans (by decide) hR.1, Nat.le_trans (by decide) hR.2⟩ hZ (hZ.k 0 rfl rfl) rfl hl.1 rfl (Nat.le_of_ble_eq_true rfl) rfl dX11_addPort_2 (fun H locs cells slots hX hZ => ?_)
  have hZ := hZ.add (by decide) hX
  obtain ⟨a4, ha4, hf⟩ := Option.bind_eq_some_iff.mp hf
  subst ha4
  have hl : lv_has ls 7 [(0, .ref this), (1, .int p0), (2, .int p1), (3, .int p2), (4, .int p3)] := hl
  have hZ : wd_Z E w R s w1 H locs cells slots [(some a4, 3), (some this, 12)] := hZ
  refine z_getR (tk := 3) fd_200 rfl hx hb hts hown hK hZ (hZ.k 0 rfl rfl) tw_205 dX11_addPort_5 (fun hZ => ?_)
  obtain ⟨v5, e6, hf⟩ := wd_let_e hf
  rw [e6]
  rw [e6] at hZ
  refine z_astore (lv' := [(5, va_rf v5), (0, .ref this), (1, .int p0), (2, .int p1), (3, .int p2), (4, .int p3)]) hx hb dX11_addPort_8 hl (by decide) rfl (fun ls hl => ?_)
  refine lv_aload_n hx hb dX11_addPort_10 rfl (lv_at hl 1 rfl) ?_
  refine lv_iload_n hx hb dX11_addPort_11 rfl (lv_at hl 3 rfl) ?_
  obtain ⟨w7, hc8, hf⟩ := Option.bind_eq_some_iff.mp hf
  refine z_callV (ci := 11) (As := [.int p1]) (rest := []) (c_X11_needCable l E n w1 this p1 w7 (hZ.k 2 rfl rfl) hc8) mo_X11_needCable rfl (by decide) rfl tw_531 tw_4 tw_529 hx hb hml hts hown hK ⟨Nat.le_trans (by decide) hR.1, Nat.le_trans (by decide) hR.2⟩ hZ (hZ.k 2 rfl rfl) rfl hl.1 rfl (Nat.le_of_ble_eq_true rfl) rfl dX11_addPort_12 (fun H locs cells slots hX hZ => ?_)
  refine lv_iload_n hx hb dX11_addPort_15 rfl (lv_at hl 4 rfl) ?_
  obtain ⟨w9, hc10, hf⟩ := Option.bind_eq_some_iff.mp hf
  refine z_callS (As := [.int p2]) (rest := []) (c_X11_needAddress l E n w7 p2 w9  hc10) mo_X11_needAddress tw_535 tw_534 hx hb hml hts hown hK ⟨Nat.le_trans (by decide) hR.1, Nat.le_trans (by decide) hR.2⟩ hZ rfl hl.1 rfl (Nat.le_of_ble_eq_true rfl) rfl dX11_addPort_16 (fun H locs cells slots hX hZ => ?_)
  refine lv_iload hx hb dX11_addPort_19 (lv_at hl 5 rfl) ?_
  obtain ⟨w11, hc12, hf⟩ := Option.bind_eq_some_iff.mp hf
  refine z_callS (As := [.int p3]) (rest := []) (c_X11_needLength l E n w9 p3 w11  hc12) mo_X11_needLength tw_539 tw_538 hx hb hml hts hown hK ⟨Nat.le_trans (by decide) hR.1, Nat.le_trans (by decide) hR.2⟩ hZ rfl hl.1 rfl (Nat.le_of_ble_eq_true rfl) rfl dX11_addPort_21 (fun H locs cells slots hX hZ => ?_)
  refine lv_aload_n hx hb dX11_addPort_24 rfl (lv_at hl 1 rfl) ?_
  refine z_getR (tk := 5) fd_1100 rfl hx hb hts hown hK hZ (hZ.k 2 rfl rfl) tw_306 dX11_addPort_25 (fun hZ => ?_)
  refine z_aload hx hb dX11_addPort_28 (lv_at hl 0 rfl) ?_
  refine lv_iload_n hx hb dX11_addPort_30 rfl (lv_at hl 3 rfl) ?_
  refine lv_iload_n hx hb dX11_addPort_31 rfl (lv_at hl 4 rfl) ?_
  refine lv_iload hx hb dX11_addPort_32 (lv_at hl 5 rfl) ?_
  obtain ⟨a13, ha13, hf⟩ := Option.bind_eq_some_iff.mp hf
  have hZ := hZ.add (r := some a13) (k := 6) (by decide) (fun q hq => by cases hq; exact hZ.k 0 rfl ha13)
  rw [ha13]
  obtain ⟨r16, w14, hc15, hf⟩ := wd_b2_e hf
  refine z_callV (ci := 5) (As := [va_rf v5, .int p1, .int p2, .int p3]) (rest := []) (c_X5_putPort l E n w11 a13 v5 p1 p2 p3 r16 w14 (hZ.k 0 rfl rfl) (fun q hq => hZ.k 2 rfl hq) hc15) mo_X5_putPort rfl (by decide) rfl tw_543 tw_544 tw_542 hx hb hml hts hown hK ⟨Nat.le_trans (by decide) hR.1, Nat.le_trans (by decide) hR.2⟩ hZ (hZ.k 0 rfl rfl) rfl hl.1 rfl (Nat.le_of_ble_eq_true rfl) rfl dX11_addPort_34 (fun H locs cells slots hX hZ => ?_)
  have hZ := hZ.add (by decide) hX
  refine z_astore (lv' := [(6, va_rf r16), (5, va_rf v5), (0, .ref this), (1, .int p0), (2, .int p1), (3, .int p2), (4, .int p3)]) hx hb dX11_addPort_37 hl (by decide) (by simp [va_rf_cat, Value.category]) (fun ls hl => ?_)
  refine z_aload hx hb dX11_addPort_39 (lv_at hl 0 rfl) ?_
  refine z_ifnonnull (tgt := 54) hx hb dX11_addPort_41 (by decide) (fun a17 ha17 => ?_) (fun hn => ?_)
  · have hf := wd_on_s ha17 hf
    subst ha17
    have hl : lv_has ls 7 [(6, .ref a17), (5, va_rf v5), (0, .ref this), (1, .int p0), (2, .int p1), (3, .int p2), (4, .int p3)] := hl
    have hZ : wd_Z E w R s w14 H locs cells slots [(some a17, 8), (some a13, 6), ((wd_R w11 1100 this), 6), (v5, 4), (some a4, 3), (some this, 12)] := hZ
    refine lv_aload hx hb dX11_addPort_54 (lv_at hl 0 rfl) ?_
    refine z_getI fd_700 rfl hx hb hts hown hK hZ (hZ.k 0 rfl rfl) tw_561 dX11_addPort_56 ?_
    obtain ⟨rfl, rfl⟩ := Prod.mk.inj (Option.some.inj hf)
    exact z_iret hx hb hr hlocks hZ trivial dX11_addPort_59
  · have hf := wd_on_n hn hf
    subst hn
    have hl : lv_has ls 7 [(6, va_rf none), (5, va_rf v5), (0, .ref this), (1, .int p0), (2, .int p1), (3, .int p2), (4, .int p3)] := hl
    have hZ : wd_Z E w R s w14 H locs cells slots [(none, 8), (some a13, 6), ((wd_R w11 1100 this), 6), (v5, 4), (some a4, 3), (some this, 12)] := hZ
    cases hf

def f_X11_addTunnel (n : Nat) (w : Wd) (this : Nat) (p0 : Int32) (p1 : Int32) : Option (Int32 × Wd) :=
  wd_b2 (f_X11_hostOf n w this p0) fun r3 w1 =>
  Option.bind r3 fun a4 =>
  wd_let (wd_R w1 200 a4) fun v5 =>
  Option.bind (f_X11_needAddress n w1 p1) fun w7 =>
  Option.bind v5 fun a9 =>
  wd_b2 (f_X3_putTunnel n w7 a9 p1) fun r12 w10 =>
  if 0 ≤ r12 then
    some (r12, w10)
  else
    none
set_option maxHeartbeats 4000000 in
set_option maxRecDepth 100000 in
theorem c_X11_addTunnel (l : Launch) (E : wd_E) (n : Nat) (w : Wd) (this : Nat) (p0 : Int32) (p1 : Int32) (r' : Int32) (w' : Wd) (k_this : wd_K w this = 12) (hf : f_X11_addTunnel n w this p0 p1 = some (r', w')) : wd_C l E yX11_addTunnel cX11_addTunnel 5 (some .int) 2 43 [.ref this, .int p0, .int p1] w (some (.int r')) w' True := by
  refine wd_ofW (own := RX11) (nm := "addTunnel") (ks := [(some this, 12)]) (lv := [(0, .ref this), (1, .int p0), (2, .int p1)]) (by decide) rfl rfl (Nat.le_of_ble_eq_true rfl) rfl (List.forall_mem_cons.mpr ⟨⟨by decide, fun q hq => by cases hq; exact k_this⟩, (fun _ hq => absurd hq List.not_mem_nil)⟩) ?_
  intro p e s m args below meth c R H ls C hR hZ hl
  obtain ⟨hx, hb, hr, hml, hts, hown, hlocks, hmn, hK⟩ := id C
  unfold f_X11_addTunnel at hf
  refine lv_aload_n hx hb dX11_addTunnel_0 rfl (lv_at hl 0 rfl) ?_
  refine lv_iload_n hx hb dX11_addTunnel_1 rfl (lv_at hl 1 rfl) ?_
  obtain ⟨r3, w1, hc2, hf⟩ := wd_b2_e hf
  refine z_callV (ci := 11) (As := [.int p0]) (rest := []) (c_X11_hostOf l E n w this p0 r3 w1 (hZ.k 0 rfl rfl) hc2) mo_X11_hostOf rfl (by decide) rfl tw_448 tw_2 tw_446 hx hb hml hts hown hK ⟨Nat.le_trans (by decide) hR.1, Nat.le_trans (by decide) hR.2⟩ hZ (hZ.k 0 rfl rfl) rfl hl.1 rfl (Nat.le_of_ble_eq_true rfl) rfl dX11_addTunnel_2 (fun H locs cells slots hX hZ => ?_)
  have hZ := hZ.add (by decide) hX
  obtain ⟨a4, ha4, hf⟩ := Option.bind_eq_some_iff.mp hf
  subst ha4
  have hl : lv_has ls 5 [(0, .ref this), (1, .int p0), (2, .int p1)] := hl
  have hZ : wd_Z E w R s w1 H locs cells slots [(some a4, 3), (some this, 12)] := hZ
  refine z_getR (tk := 3) fd_200 rfl hx hb hts hown hK hZ (hZ.k 0 rfl rfl) tw_205 dX11_addTunnel_5 (fun hZ => ?_)
  obtain ⟨v5, e6, hf⟩ := wd_let_e hf
  rw [e6]
  rw [e6] at hZ
  refine z_astore_n (lv' := [(3, va_rf v5), (0, .ref this), (1, .int p0), (2, .int p1)]) hx hb dX11_addTunnel_8 rfl hl (by decide) rfl (fun ls hl => ?_)
  refine lv_iload_n hx hb dX11_addTunnel_9 rfl (lv_at hl 3 rfl) ?_
  obtain ⟨w7, hc8, hf⟩ := Option.bind_eq_some_iff.mp hf
  refine z_callS (As := [.int p1]) (rest := []) (c_X11_needAddress l E n w1 p1 w7  hc8) mo_X11_needAddress tw_535 tw_534 hx hb hml hts hown hK ⟨Nat.le_trans (by decide) hR.1, Nat.le_trans (by decide) hR.2⟩ hZ rfl hl.1 rfl (Nat.le_of_ble_eq_true rfl) rfl dX11_addTunnel_10 (fun H locs cells slots hX hZ => ?_)
  refine z_aload_n hx hb dX11_addTunnel_13 rfl (lv_at hl 0 rfl) ?_
  refine lv_iload_n hx hb dX11_addTunnel_14 rfl (lv_at hl 3 rfl) ?_
  obtain ⟨a9, ha9, hf⟩ := Option.bind_eq_some_iff.mp hf
  subst ha9
  have hl : lv_has ls 5 [(3, .ref a9), (0, .ref this), (1, .int p0), (2, .int p1)] := hl
  have hZ : wd_Z E w R s w7 H locs cells slots [(some a9, 4), (some a4, 3), (some this, 12)] := hZ
  obtain ⟨r12, w10, hc11, hf⟩ := wd_b2_e hf
  refine z_callV (ci := 3) (As := [.int p1]) (rest := []) (c_X3_putTunnel l E n w7 a9 p1 r12 w10 (hZ.k 0 rfl rfl) hc11) mo_X3_putTunnel rfl (by decide) rfl tw_628 tw_629 tw_627 hx hb hml hts hown hK ⟨Nat.le_trans (by decide) hR.1, Nat.le_trans (by decide) hR.2⟩ hZ (hZ.k 0 rfl rfl) rfl hl.1 rfl (Nat.le_of_ble_eq_true rfl) rfl dX11_addTunnel_15 (fun H locs cells slots hX hZ => ?_)
  refine lv_istore (lv' := [(4, .int r12), (3, .ref a9), (0, .ref this), (1, .int p0), (2, .int p1)]) hx hb dX11_addTunnel_18 hl (by decide) rfl (fun ls hl => ?_)
  refine lv_iload hx hb dX11_addTunnel_20 (lv_at hl 0 rfl) ?_
  refine lv_if_ge (tgt := 35) hx hb dX11_addTunnel_22 (by decide) (fun h13 => ?_) (fun h13 => ?_)
  · have hf := wd_ite_p h13 hf
    refine lv_iload hx hb dX11_addTunnel_35 (lv_at hl 0 rfl) ?_
    obtain ⟨rfl, rfl⟩ := Prod.mk.inj (Option.some.inj hf)
    exact z_iret hx hb hr hlocks hZ trivial dX11_addTunnel_37
  · have hf := wd_ite_n h13 hf
    cases hf

