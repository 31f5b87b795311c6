/-! ===== meanings and contracts, laid by wip/p33/gen ===== -/
def f_X9_goOut_j180 (n : Nat) (rec11 : Nat → Option Nat → Option Nat → Option Nat → Int32 → Wd → Option Wd) (x0 : Nat) (x1 : Option Nat) (x3 : Option Nat) (x4 : Option Nat) (x5 : Int32) (w : Wd) : Option Wd :=
  wd_let (x5 + 1) fun v23 =>
  rec11 x0 x1 x3 x4 v23 w
def f_X9_goOut_j168 (n : Nat) (rec11 : Nat → Option Nat → Option Nat → Option Nat → Int32 → Wd → Option Wd) (x0 : Nat) (x1 : Option Nat) (x3 : Option Nat) (x4 : Option Nat) (x5 : Int32) (x7 : Option Nat) (w : Wd) : Option Wd :=
  Option.bind (f_X9_goByPort n w x0 x1 x7 x4) fun w21 =>
  f_X9_goOut_j180 n rec11 x0 x1 x3 none x5 w21
def f_X9_goOut_j94 (n : Nat) (rec11 : Nat → Option Nat → Option Nat → Option Nat → Int32 → Wd → Option Wd) (x0 : Nat) (x1 : Option Nat) (x3 : Option Nat) (x4 : Option Nat) (x5 : Int32) (x7 : Option Nat) (w : Wd) : Option Wd :=
  wd_on x7 (
    wd_b2 (f_X9_complain n w x0 x1 x4 (4 : Int32) (0 : Int32)) fun r39 w37 =>
    f_X9_goOut_j180 n rec11 x0 x1 x3 r39 x5 w37)
    (fun a18 =>
    Option.bind x4 fun a19 =>
    if (wd_I w 408 a19) = 0 then
      f_X9_goOut_j168 n rec11 x0 x1 x3 (some a19) x5 (some a18) w
    else
      Option.bind (wd_R w 904 x0) fun a25 =>
      wd_b2 (f_X5_widthOf n w a25 (wd_I w 701 a18)) fun r28 w26 =>
      if ((wd_I w 403 a19) + (4 : Int32)) ≤ r28 then
        f_X9_goOut_j168 n rec11 x0 x1 x3 (some a19) x5 (some a18) w26
      else
        Option.bind (wd_R w26 904 x0) fun a30 =>
        wd_b2 (f_X5_widthOf n w26 a30 (wd_I w26 701 a18)) fun r33 w31 =>
        wd_b2 (f_X9_complain n w31 x0 x1 (some a19) (5 : Int32) r33) fun r36 w34 =>
        f_X9_goOut_j180 n rec11 x0 x1 x3 r36 x5 w34)
def f_X9_goOut_l11 (n : Nat) (rec11 : Nat → Option Nat → Option Nat → Option Nat → Int32 → Wd → Option Wd) (x0 : Nat) (x1 : Option Nat) (x3 : Option Nat) (x4 : Option Nat) (x5 : Int32) (w : Wd) : Option Wd :=
  wd_on x4 (
    some w)
    (fun a4 =>
    if (1000000 : Int32) ≤ x5 then
      some w
    else
      Option.bind x3 fun a6 =>
      wd_b2 (f_X3_portTo n w a6 (wd_I w 402 a4)) fun r9 w7 =>
      wd_b2 (f_X3_port n w7 a6 r9) fun r12 w10 =>
      wd_b2 (f_X3_owns n w10 a6 (wd_I w10 402 a4)) fun r15 w13 =>
      if r15 = 0 then
        if r9 = (-2 : Int32) then
          wd_b2 (f_X9_canWrap n w13 (some a6) (some a4)) fun r42 w40 =>
          if r42 = 0 then
            f_X9_goOut_j94 n rec11 x0 x1 (some a6) (some a4) x5 r12 w40
          else
            wd_b2 (f_X9_wrap n w40 x0 (some a6) (some a4)) fun r46 w44 =>
            f_X9_goOut_j180 n rec11 x0 x1 (some a6) r46 x5 w44
        else
          f_X9_goOut_j94 n rec11 x0 x1 (some a6) (some a4) x5 r12 w13
      else
        wd_b2 (f_X9_accept n w13 x0 x1 (some a4)) fun r49 w47 =>
        f_X9_goOut_j180 n rec11 x0 x1 (some a6) r49 x5 w47)
def f_X9_goOut (n : Nat) (w : Wd) (this : Nat) (p0 : Option Nat) (p1 : Option Nat) : Option Wd :=
  Option.bind p0 fun a1 =>
  wd_let (wd_R w 200 a1) fun v2 =>
  wd_lp6 (f_X9_goOut_l11 n) n this (some a1) v2 p1 (0 : Int32) w
set_option maxHeartbeats 4000000 in
set_option maxRecDepth 100000 in
theorem v_X9_goOut_j180 {p : Program} {l : Launch} {e : Env} {R : Room} {s : State} {m : MethodId} {args : Array Value} {below : List Frame} {meth : Method} {c : Code} {E : wd_E} {w0 : Wd} {w' : Wd} (n : Nat) (C : wd_X p s m args meth c cX9_goOut RX9 8 none "goOut" E) (hR : 5 ≤ R.frames ∧ 122 ≤ R.locals) (rec11 : Nat → Option Nat → Option Nat → Option Nat → Int32 → Wd → Option Wd) (hrec11 : ∀ (x0_ : Nat) (x1_ : Option Nat) (x3_ : Option Nat) (x4_ : Option Nat) (x5_ : Int32) (w_ : Wd) (H : Heap) (locs : List Loc) (cells slots : Nat) (ls : Array Slot), wd_Z E w0 R s w_ H locs cells slots [(some x0_, 10), (x1_, 3), (x3_, 4), (x4_, 5)] → lv_has ls 8 [(0, .ref x0_), (1, va_rf x1_), (3, va_rf x3_), (4, va_rf x4_), (5, .int x5_)] → rec11 x0_ x1_ x3_ x4_ x5_ w_ = some w' → W p l e R s m args below meth c H locs cells slots (wd_fin E w0 none w' True R args s below) (F0 m 11 ls [])) (x0 : Nat) (x1 : Option Nat) (x3 : Option Nat) (x4 : Option Nat) (x5 : Int32) (w : Wd) (H : Heap) (locs : List Loc) (cells slots : Nat) (ls : Array Slot) (hZ : wd_Z E w0 R s w H locs cells slots [(some x0, 10), (x1, 3), (x3, 4), (x4, 5)]) (hl : lv_has ls 8 [(0, .ref x0), (1, va_rf x1), (3, va_rf x3), (4, va_rf x4), (5, .int x5)]) (hf : f_X9_goOut_j180 n rec11 x0 x1 x3 x4 x5 w = some w') : W p l e R s m args below meth c H locs cells slots (wd_fin E w0 none w' True R args s below) (F0 m 180 ls []) := by
  obtain ⟨hx, hb, hr, hml, hts, hown, hlocks, hmn, hK⟩ := id C
  unfold f_X9_goOut_j180 at hf
  have hf9 := wd_let_e hf; clear hf; obtain ⟨v23, e24, hf⟩ := hf9
  refine lv_iinc (k := 4) (v := v23) (lv' := [(5, .int v23), (0, .ref x0), (1, va_rf x1), (3, va_rf x3), (4, va_rf x4)]) hx hb dX9_goOut_180 hl rfl (by rw [← e24]; rfl) (by decide) (by simp [va_rf_cat, va_cat_r, va_cat_i, va_cat_l, va_cat_d]) ?_; clear hl; intro ls hl
  refine lv_goto (tgt := 11) hx hb dX9_goOut_183 (by decide) ?_
  exact hrec11 x0 x1 x3 x4 v23 w _ _ _ _ _ ⟨hZ.1, hZ.2.1, hZ.2.2.1, hZ.2.2.2.1, (List.forall_mem_cons.mpr ⟨⟨Nat.succ_ne_zero _, (fun q hq => by cases hq; exact (hZ.k 0 rfl rfl))⟩, (List.forall_mem_cons.mpr ⟨⟨Nat.succ_ne_zero _, (fun q hq => hZ.k 1 rfl hq)⟩, (List.forall_mem_cons.mpr ⟨⟨Nat.succ_ne_zero _, (fun q hq => hZ.k 2 rfl hq)⟩, (List.forall_mem_cons.mpr ⟨⟨Nat.succ_ne_zero _, (fun q hq => hZ.k 3 rfl hq)⟩, (fun _ hq => absurd hq List.not_mem_nil)⟩)⟩)⟩)⟩), hZ.2.2.2.2.2⟩ (lv_sub hl [1, 2, 3, 4, 0] rfl) hf

set_option maxHeartbeats 4000000 in
set_option maxRecDepth 100000 in
theorem v_X9_goOut_j168 {p : Program} {l : Launch} {e : Env} {R : Room} {s : State} {m : MethodId} {args : Array Value} {below : List Frame} {meth : Method} {c : Code} {E : wd_E} {w0 : Wd} {w' : Wd} (n : Nat) (C : wd_X p s m args meth c cX9_goOut RX9 8 none "goOut" E) (hR : 5 ≤ R.frames ∧ 122 ≤ R.locals) (rec11 : Nat → Option Nat → Option Nat → Option Nat → Int32 → Wd → Option Wd) (hrec11 : ∀ (x0_ : Nat) (x1_ : Option Nat) (x3_ : Option Nat) (x4_ : Option Nat) (x5_ : Int32) (w_ : Wd) (H : Heap) (locs : List Loc) (cells slots : Nat) (ls : Array Slot), wd_Z E w0 R s w_ H locs cells slots [(some x0_, 10), (x1_, 3), (x3_, 4), (x4_, 5)] → lv_has ls 8 [(0, .ref x0_), (1, va_rf x1_), (3, va_rf x3_), (4, va_rf x4_), (5, .int x5_)] → rec11 x0_ x1_ x3_ x4_ x5_ w_ = some w' → W p l e R s m args below meth c H locs cells slots (wd_fin E w0 none w' True R args s below) (F0 m 11 ls [])) (x0 : Nat) (x1 : Option Nat) (x3 : Option Nat) (x4 : Option Nat) (x5 : Int32) (x7 : Option Nat) (w : Wd) (H : Heap) (locs : List Loc) (cells slots : Nat) (ls : Array Slot) (hZ : wd_Z E w0 R s w H locs cells slots [(some x0, 10), (x1, 3), (x3, 4), (x4, 5), (x7, 8)]) (hl : lv_has ls 8 [(0, .ref x0), (1, va_rf x1), (3, va_rf x3), (4, va_rf x4), (5, .int x5), (7, va_rf x7)]) (hf : f_X9_goOut_j168 n rec11 x0 x1 x3 x4 x5 x7 w = some w') : W p l e R s m args below meth c H locs cells slots (wd_fin E w0 none w' True R args s below) (F0 m 168 ls []) := by
  obtain ⟨hx, hb, hr, hml, hts, hown, hlocks, hmn, hK⟩ := id C
  unfold f_X9_goOut_j168 at hf
  refine lv_aload_n (i := 0) hx hb dX9_goOut_168 rfl (lv_at hl 0 rfl) ?_
  refine z_aload_n (i := 1) hx hb dX9_goOut_169 rfl (lv_at hl 1 rfl) ?_
  refine z_aload hx hb dX9_goOut_170 (lv_at hl 5 rfl) ?_
  refine z_aload hx hb dX9_goOut_172 (lv_at hl 3 rfl) ?_
  have hf9 := Option.bind_eq_some_iff.mp hf; clear hf; obtain ⟨w21, hc22, hf⟩ := hf9
  refine z_callV (ci := 9) (As := [va_rf x1, va_rf x7, va_rf x4]) (rest := []) (c_X9_goByPort l E n w x0 x1 x7 x4 w21 (hZ.k 0 rfl rfl) (fun q hq => hZ.k 1 rfl hq) (fun q hq => hZ.k 4 rfl hq) (fun q hq => hZ.k 3 rfl hq) hc22) mo_X9_goByPort rfl (by decide) rfl tw_791 tw_15 tw_789 hx hb hml hts hown hK ⟨Nat.le_trans (by decide) hR.1, Nat.le_trans (by decide) hR.2⟩ hZ (hZ.k 0 rfl rfl) rfl hl.1 rfl (Nat.le_of_ble_eq_true rfl) rfl dX9_goOut_174 ?_; clear hZ; intro H locs cells slots hX hZ
  refine z_null hx hb dX9_goOut_177 ?_
  refine z_astore (i := 4) (lv' := [(4, va_rf none), (0, .ref x0), (1, va_rf x1), (3, va_rf x3), (5, .int x5), (7, va_rf x7)]) hx hb dX9_goOut_178 hl (by decide) (by simp [va_rf_cat, va_cat_r, va_cat_i, va_cat_l, va_cat_d]) ?_; clear hl; intro ls hl
  exact v_X9_goOut_j180 n C hR rec11 hrec11 x0 x1 x3 none x5 w21 _ _ _ _ _ ⟨hZ.1, hZ.2.1, hZ.2.2.1, hZ.2.2.2.1, (List.forall_mem_cons.mpr ⟨⟨Nat.succ_ne_zero _, (fun q hq => by cases hq; exact (hZ.k 0 rfl rfl))⟩, (List.forall_mem_cons.mpr ⟨⟨Nat.succ_ne_zero _, (fun q hq => hZ.k 1 rfl hq)⟩, (List.forall_mem_cons.mpr ⟨⟨Nat.succ_ne_zero _, (fun q hq => hZ.k 2 rfl hq)⟩, (List.forall_mem_cons.mpr ⟨⟨Nat.succ_ne_zero _, (fun q hq => by cases hq)⟩, (fun _ hq => absurd hq List.not_mem_nil)⟩)⟩)⟩)⟩), hZ.2.2.2.2.2⟩ (lv_sub hl [1, 2, 3, 0, 4] rfl) hf

set_option maxHeartbeats 4000000 in
set_option maxRecDepth 100000 in
theorem v_X9_goOut_j94 {p : Program} {l : Launch} {e : Env} {R : Room} {s : State} {m : MethodId} {args : Array Value} {below : List Frame} {meth : Method} {c : Code} {E : wd_E} {w0 : Wd} {w' : Wd} (n : Nat) (C : wd_X p s m args meth c cX9_goOut RX9 8 none "goOut" E) (hR : 5 ≤ R.frames ∧ 122 ≤ R.locals) (rec11 : Nat → Option Nat → Option Nat → Option Nat → Int32 → Wd → Option Wd) (hrec11 : ∀ (x0_ : Nat) (x1_ : Option Nat) (x3_ : Option Nat) (x4_ : Option Nat) (x5_ : Int32) (w_ : Wd) (H : Heap) (locs : List Loc) (cells slots : Nat) (ls : Array Slot), wd_Z E w0 R s w_ H locs cells slots [(some x0_, 10), (x1_, 3), (x3_, 4), (x4_, 5)] → lv_has ls 8 [(0, .ref x0_), (1, va_rf x1_), (3, va_rf x3_), (4, va_rf x4_), (5, .int x5_)] → rec11 x0_ x1_ x3_ x4_ x5_ w_ = some w' → W p l e R s m args below meth c H locs cells slots (wd_fin E w0 none w' True R args s below) (F0 m 11 ls [])) (x0 : Nat) (x1 : Option Nat) (x3 : Option Nat) (x4 : Option Nat) (x5 : Int32) (x7 : Option Nat) (w : Wd) (H : Heap) (locs : List Loc) (cells slots : Nat) (ls : Array Slot) (hZ : wd_Z E w0 R s w H locs cells slots [(some x0, 10), (x1, 3), (x3, 4), (x4, 5), (x7, 8)]) (hl : lv_has ls 8 [(0, .ref x0), (1, va_rf x1), (3, va_rf x3), (4, va_rf x4), (5, .int x5), (7, va_rf x7)]) (hf : f_X9_goOut_j94 n rec11 x0 x1 x3 x4 x5 x7 w = some w') : W p l e R s m args below meth c H locs cells slots (wd_fin E w0 none w' True R args s below) (F0 m 94 ls []) := by
  obtain ⟨hx, hb, hr, hml, hts, hown, hlocks, hmn, hK⟩ := id C
  unfold f_X9_goOut_j94 at hf
  refine z_aload hx hb dX9_goOut_94 (lv_at hl 5 rfl) ?_
  refine z_ifnonnull (tgt := 113) hx hb dX9_goOut_96 (by decide) (fun a18 ha18 => ?_) (fun hn => ?_)
  · replace hf := wd_on_s ha18 hf
    subst ha18
    replace hl : lv_has ls 8 [(0, .ref x0), (1, va_rf x1), (3, va_rf x3), (4, va_rf x4), (5, .int x5), (7, .ref a18)] := hl
    replace hZ : wd_Z E w0 R s w H locs cells slots [(some x0, 10), (x1, 3), (x3, 4), (x4, 5), (some a18, 8)] := hZ
    refine z_aload hx hb dX9_goOut_113 (lv_at hl 3 rfl) ?_
    have hf9 := Option.bind_eq_some_iff.mp hf; clear hf; obtain ⟨a19, ha19, hf⟩ := hf9
    subst ha19
    replace hl : lv_has ls 8 [(0, .ref x0), (1, va_rf x1), (3, va_rf x3), (4, .ref a19), (5, .int x5), (7, .ref a18)] := hl
    replace hZ : wd_Z E w0 R s w H locs cells slots [(some x0, 10), (x1, 3), (x3, 4), (some a19, 5), (some a18, 8)] := hZ
    refine z_getI fd_408 rfl hx hb hts hown hK hZ (hZ.k 3 rfl rfl) tw_711 dX9_goOut_115 ?_
    refine lv_if_eq (tgt := 168) hx hb dX9_goOut_118 (by decide) (fun h20 => ?_) (fun h20 => ?_)
    · replace hf := wd_ite_p h20 hf
      exact v_X9_goOut_j168 n C hR rec11 hrec11 x0 x1 x3 (some a19) x5 (some a18) w _ _ _ _ _ ⟨hZ.1, hZ.2.1, hZ.2.2.1, hZ.2.2.2.1, (List.forall_mem_cons.mpr ⟨⟨Nat.succ_ne_zero _, (fun q hq => by cases hq; exact (hZ.k 0 rfl rfl))⟩, (List.forall_mem_cons.mpr ⟨⟨Nat.succ_ne_zero _, (fun q hq => hZ.k 1 rfl hq)⟩, (List.forall_mem_cons.mpr ⟨⟨Nat.succ_ne_zero _, (fun q hq => hZ.k 2 rfl hq)⟩, (List.forall_mem_cons.mpr ⟨⟨Nat.succ_ne_zero _, (fun q hq => by cases hq; exact (hZ.k 3 rfl rfl))⟩, (List.forall_mem_cons.mpr ⟨⟨Nat.succ_ne_zero _, (fun q hq => by cases hq; exact (hZ.k 4 rfl rfl))⟩, (fun _ hq => absurd hq List.not_mem_nil)⟩)⟩)⟩)⟩)⟩), hZ.2.2.2.2.2⟩ (lv_sub hl [0, 1, 2, 3, 4, 5] rfl) hf
    · replace hf := wd_ite_n h20 hf
      refine lv_aload hx hb dX9_goOut_121 (lv_at hl 3 rfl) ?_
      refine z_getI fd_403 rfl hx hb hts hown hK hZ (hZ.k 3 rfl rfl) tw_692 dX9_goOut_123 ?_
      refine lv_iconst (v := 4) hx hb dX9_goOut_126 (by decide) ?_
      refine lv_iadd hx hb dX9_goOut_127 ?_
      refine lv_aload_n (i := 0) hx hb dX9_goOut_128 rfl (lv_at hl 0 rfl) ?_
      refine z_getR (tk := 5) fd_904 rfl hx hb hts hown hK hZ (hZ.k 0 rfl rfl) tw_251 dX9_goOut_129 ?_; clear hZ; intro hZ
      refine lv_aload hx hb dX9_goOut_132 (lv_at hl 5 rfl) ?_
      refine z_getI fd_701 rfl hx hb hts hown hK hZ (hZ.k 5 rfl rfl) tw_565 dX9_goOut_134 ?_
      have hf9 := Option.bind_eq_some_iff.mp hf; clear hf; obtain ⟨a25, ha25, hf⟩ := hf9
      replace hZ := hZ.add (r := some a25) (k := 6) (Nat.succ_ne_zero _) (fun q hq => by cases hq; exact hZ.k 0 rfl ha25)
      rw [ha25]
      have hf9 := wd_b2_e hf; clear hf; obtain ⟨r28, w26, hc27, hf⟩ := hf9
      refine z_callV (ci := 5) (As := [.int (wd_I w 701 a18)]) (rest := [.int ((wd_I w 403 a19) + (4 : Int32))]) (c_X5_widthOf l E n w a25 (wd_I w 701 a18) r28 w26 (hZ.k 0 rfl rfl) hc27) mo_X5_widthOf rfl (by decide) rfl tw_786 tw_787 tw_785 hx hb hml hts hown hK ⟨Nat.le_trans (by decide) hR.1, Nat.le_trans (by decide) hR.2⟩ hZ (hZ.k 0 rfl rfl) rfl hl.1 rfl (Nat.le_of_ble_eq_true rfl) rfl dX9_goOut_137 ?_; clear hZ; intro H locs cells slots hX hZ
      refine lv_icmp_le (tgt := 168) hx hb dX9_goOut_140 (by decide) (fun h29 => ?_) (fun h29 => ?_)
      · replace hf := wd_ite_p h29 hf
        exact v_X9_goOut_j168 n C hR rec11 hrec11 x0 x1 x3 (some a19) x5 (some a18) w26 _ _ _ _ _ ⟨hZ.1, hZ.2.1, hZ.2.2.1, hZ.2.2.2.1, (List.forall_mem_cons.mpr ⟨⟨Nat.succ_ne_zero _, (fun q hq => by cases hq; exact (hZ.k 2 rfl rfl))⟩, (List.forall_mem_cons.mpr ⟨⟨Nat.succ_ne_zero _, (fun q hq => hZ.k 3 rfl hq)⟩, (List.forall_mem_cons.mpr ⟨⟨Nat.succ_ne_zero _, (fun q hq => hZ.k 4 rfl hq)⟩, (List.forall_mem_cons.mpr ⟨⟨Nat.succ_ne_zero _, (fun q hq => by cases hq; exact (hZ.k 5 rfl rfl))⟩, (List.forall_mem_cons.mpr ⟨⟨Nat.succ_ne_zero _, (fun q hq => by cases hq; exact (hZ.k 6 rfl rfl))⟩, (fun _ hq => absurd hq List.not_mem_nil)⟩)⟩)⟩)⟩)⟩), hZ.2.2.2.2.2⟩ (lv_sub hl [0, 1, 2, 3, 4, 5] rfl) hf
      · replace hf := wd_ite_n h29 hf
        refine lv_aload_n (i := 0) hx hb dX9_goOut_143 rfl (lv_at hl 0 rfl) ?_
        refine z_aload_n (i := 1) hx hb dX9_goOut_144 rfl (lv_at hl 1 rfl) ?_
        refine lv_aload hx hb dX9_goOut_145 (lv_at hl 3 rfl) ?_
        refine lv_iconst (v := 5) hx hb dX9_goOut_147 (by decide) ?_
        refine lv_aload_n (i := 0) hx hb dX9_goOut_148 rfl (lv_at hl 0 rfl) ?_
        refine z_getR (tk := 5) fd_904 rfl hx hb hts hown hK hZ (hZ.k 2 rfl rfl) tw_251 dX9_goOut_149 ?_; clear hZ; intro hZ
        refine lv_aload hx hb dX9_goOut_152 (lv_at hl 5 rfl) ?_
        refine z_getI fd_701 rfl hx hb hts hown hK hZ (hZ.k 7 rfl rfl) tw_565 dX9_goOut_154 ?_
        have hf9 := Option.bind_eq_some_iff.mp hf; clear hf; obtain ⟨a30, ha30, hf⟩ := hf9
        replace hZ := hZ.add (r := some a30) (k := 6) (Nat.succ_ne_zero _) (fun q hq => by cases hq; exact hZ.k 0 rfl ha30)
        rw [ha30]
        have hf9 := wd_b2_e hf; clear hf; obtain ⟨r33, w31, hc32, hf⟩ := hf9
        refine z_callV (ci := 5) (As := [.int (wd_I w26 701 a18)]) (rest := [.int (5 : Int32), .ref a19, va_rf x1, .ref x0]) (c_X5_widthOf l E n w26 a30 (wd_I w26 701 a18) r33 w31 (hZ.k 0 rfl rfl) hc32) mo_X5_widthOf rfl (by decide) rfl tw_786 tw_787 tw_785 hx hb hml hts hown hK ⟨Nat.le_trans (by decide) hR.1, Nat.le_trans (by decide) hR.2⟩ hZ (hZ.k 0 rfl rfl) rfl hl.1 rfl (by simp [va_rf_cat, va_cat_r, va_cat_i, va_cat_l, va_cat_d]) rfl dX9_goOut_157 ?_; clear hZ; intro H locs cells slots hX hZ
        have hf9 := wd_b2_e hf; clear hf; obtain ⟨r36, w34, hc35, hf⟩ := hf9
        refine z_callV (ci := 9) (As := [va_rf x1, va_rf (some a19), .int (5 : Int32), .int r33]) (rest := []) (c_X9_complain l E n w31 x0 x1 (some a19) (5 : Int32) r33 r36 w34 (hZ.k 4 rfl rfl) (fun q hq => hZ.k 5 rfl hq) (fun q hq => by cases hq; exact (hZ.k 7 rfl rfl)) hc35) mo_X9_complain rfl (by decide) rfl tw_779 tw_14 tw_777 hx hb hml hts hown hK ⟨Nat.le_trans (by decide) hR.1, Nat.le_trans (by decide) hR.2⟩ hZ (hZ.k 4 rfl rfl) rfl hl.1 rfl (Nat.le_of_ble_eq_true rfl) rfl dX9_goOut_160 ?_; clear hZ; intro H locs cells slots hX hZ
        replace hZ := hZ.add (Nat.succ_ne_zero _) hX
        refine z_astore (i := 4) (lv' := [(4, va_rf r36), (0, .ref x0), (1, va_rf x1), (3, va_rf x3), (5, .int x5), (7, .ref a18)]) hx hb dX9_goOut_163 hl (by decide) (by simp [va_rf_cat, va_cat_r, va_cat_i, va_cat_l, va_cat_d]) ?_; clear hl; intro ls hl
        refine lv_goto (tgt := 180) hx hb dX9_goOut_165 (by decide) ?_
        exact v_X9_goOut_j180 n C hR rec11 hrec11 x0 x1 x3 r36 x5 w34 _ _ _ _ _ ⟨hZ.1, hZ.2.1, hZ.2.2.1, hZ.2.2.2.1, (List.forall_mem_cons.mpr ⟨⟨Nat.succ_ne_zero _, (fun q hq => by cases hq; exact (hZ.k 5 rfl rfl))⟩, (List.forall_mem_cons.mpr ⟨⟨Nat.succ_ne_zero _, (fun q hq => hZ.k 6 rfl hq)⟩, (List.forall_mem_cons.mpr ⟨⟨Nat.succ_ne_zero _, (fun q hq => hZ.k 7 rfl hq)⟩, (List.forall_mem_cons.mpr ⟨⟨Nat.succ_ne_zero _, (fun q hq => hZ.k 0 rfl hq)⟩, (fun _ hq => absurd hq List.not_mem_nil)⟩)⟩)⟩)⟩), hZ.2.2.2.2.2⟩ (lv_sub hl [1, 2, 3, 0, 4] rfl) hf
  · replace hf := wd_on_n hn hf
    subst hn
    replace hl : lv_has ls 8 [(0, .ref x0), (1, va_rf x1), (3, va_rf x3), (4, va_rf x4), (5, .int x5), (7, va_rf none)] := hl
    replace hZ : wd_Z E w0 R s w H locs cells slots [(some x0, 10), (x1, 3), (x3, 4), (x4, 5), (none, 8)] := hZ
    refine lv_aload_n (i := 0) hx hb dX9_goOut_99 rfl (lv_at hl 0 rfl) ?_
    refine z_aload_n (i := 1) hx hb dX9_goOut_100 rfl (lv_at hl 1 rfl) ?_
    refine z_aload hx hb dX9_goOut_101 (lv_at hl 3 rfl) ?_
    refine lv_iconst (v := 4) hx hb dX9_goOut_103 (by decide) ?_
    refine lv_iconst (v := 0) hx hb dX9_goOut_104 (by decide) ?_
    have hf9 := wd_b2_e hf; clear hf; obtain ⟨r39, w37, hc38, hf⟩ := hf9
    refine z_callV (ci := 9) (As := [va_rf x1, va_rf x4, .int (4 : Int32), .int (0 : Int32)]) (rest := []) (c_X9_complain l E n w x0 x1 x4 (4 : Int32) (0 : Int32) r39 w37 (hZ.k 0 rfl rfl) (fun q hq => hZ.k 1 rfl hq) (fun q hq => hZ.k 3 rfl hq) hc38) mo_X9_complain rfl (by decide) rfl tw_779 tw_14 tw_777 hx hb hml hts hown hK ⟨Nat.le_trans (by decide) hR.1, Nat.le_trans (by decide) hR.2⟩ hZ (hZ.k 0 rfl rfl) rfl hl.1 rfl (Nat.le_of_ble_eq_true rfl) rfl dX9_goOut_105 ?_; clear hZ; intro H locs cells slots hX hZ
    replace hZ := hZ.add (Nat.succ_ne_zero _) hX
    refine z_astore (i := 4) (lv' := [(4, va_rf r39), (0, .ref x0), (1, va_rf x1), (3, va_rf x3), (5, .int x5), (7, va_rf none)]) hx hb dX9_goOut_108 hl (by decide) (by simp [va_rf_cat, va_cat_r, va_cat_i, va_cat_l, va_cat_d]) ?_; clear hl; intro ls hl
    refine lv_goto (tgt := 180) hx hb dX9_goOut_110 (by decide) ?_
    exact v_X9_goOut_j180 n C hR rec11 hrec11 x0 x1 x3 r39 x5 w37 _ _ _ _ _ ⟨hZ.1, hZ.2.1, hZ.2.2.1, hZ.2.2.2.1, (List.forall_mem_cons.mpr ⟨⟨Nat.succ_ne_zero _, (fun q hq => by cases hq; exact (hZ.k 1 rfl rfl))⟩, (List.forall_mem_cons.mpr ⟨⟨Nat.succ_ne_zero _, (fun q hq => hZ.k 2 rfl hq)⟩, (List.forall_mem_cons.mpr ⟨⟨Nat.succ_ne_zero _, (fun q hq => hZ.k 3 rfl hq)⟩, (List.forall_mem_cons.mpr ⟨⟨Nat.succ_ne_zero _, (fun q hq => hZ.k 0 rfl hq)⟩, (fun _ hq => absurd hq List.not_mem_nil)⟩)⟩)⟩)⟩), hZ.2.2.2.2.2⟩ (lv_sub hl [1, 2, 3, 0, 4] rfl) hf

set_option maxHeartbeats 4000000 in
set_option maxRecDepth 100000 in
theorem v_X9_goOut_b11 {p : Program} {l : Launch} {e : Env} {R : Room} {s : State} {m : MethodId} {args : Array Value} {below : List Frame} {meth : Method} {c : Code} {E : wd_E} {w0 : Wd} {w' : Wd} (n : Nat) (C : wd_X p s m args meth c cX9_goOut RX9 8 none "goOut" E) (hR : 5 ≤ R.frames ∧ 122 ≤ R.locals) (rec11 : Nat → Option Nat → Option Nat → Option Nat → Int32 → Wd → Option Wd) (hrec11 : ∀ (x0_ : Nat) (x1_ : Option Nat) (x3_ : Option Nat) (x4_ : Option Nat) (x5_ : Int32) (w_ : Wd) (H : Heap) (locs : List Loc) (cells slots : Nat) (ls : Array Slot), wd_Z E w0 R s w_ H locs cells slots [(some x0_, 10), (x1_, 3), (x3_, 4), (x4_, 5)] → lv_has ls 8 [(0, .ref x0_), (1, va_rf x1_), (3, va_rf x3_), (4, va_rf x4_), (5, .int x5_)] → rec11 x0_ x1_ x3_ x4_ x5_ w_ = some w' → W p l e R s m args below meth c H locs cells slots (wd_fin E w0 none w' True R args s below) (F0 m 11 ls [])) (x0 : Nat) (x1 : Option Nat) (x3 : Option Nat) (x4 : Option Nat) (x5 : Int32) (w : Wd) (H : Heap) (locs : List Loc) (cells slots : Nat) (ls : Array Slot) (hZ : wd_Z E w0 R s w H locs cells slots [(some x0, 10), (x1, 3), (x3, 4), (x4, 5)]) (hl : lv_has ls 8 [(0, .ref x0), (1, va_rf x1), (3, va_rf x3), (4, va_rf x4), (5, .int x5)]) (hf : f_X9_goOut_l11 n rec11 x0 x1 x3 x4 x5 w = some w') : W p l e R s m args below meth c H locs cells slots (wd_fin E w0 none w' True R args s below) (F0 m 11 ls []) := by
  obtain ⟨hx, hb, hr, hml, hts, hown, hlocks, hmn, hK⟩ := id C
  unfold f_X9_goOut_l11 at hf
  refine z_aload hx hb dX9_goOut_11 (lv_at hl 3 rfl) ?_
  refine z_ifnull (tgt := 186) hx hb dX9_goOut_13 (by decide) (fun hn => ?_) (fun a4 ha4 => ?_)
  · replace hf := wd_on_n hn hf
    subst hn
    replace hl : lv_has ls 8 [(0, .ref x0), (1, va_rf x1), (3, va_rf x3), (4, va_rf none), (5, .int x5)] := hl
    replace hZ : wd_Z E w0 R s w H locs cells slots [(some x0, 10), (x1, 3), (x3, 4), (none, 5)] := hZ
    obtain rfl := Option.some.inj hf
    exact z_vret hx hb hr hlocks hZ trivial dX9_goOut_186
  · replace hf := wd_on_s ha4 hf
    subst ha4
    replace hl : lv_has ls 8 [(0, .ref x0), (1, va_rf x1), (3, va_rf x3), (4, .ref a4), (5, .int x5)] := hl
    replace hZ : wd_Z E w0 R s w H locs cells slots [(some x0, 10), (x1, 3), (x3, 4), (some a4, 5)] := hZ
    refine lv_iload hx hb dX9_goOut_16 (lv_at hl 4 rfl) ?_
    refine lv_ldc (v := 1000000) hx hb hown (hts _ tw_761) dX9_goOut_18 ?_
    refine lv_icmp_ge (tgt := 186) hx hb dX9_goOut_20 (by decide) (fun h5 => ?_) (fun h5 => ?_)
    · replace hf := wd_ite_p h5 hf
      obtain rfl := Option.some.inj hf
      exact z_vret hx hb hr hlocks hZ trivial dX9_goOut_186
    · replace hf := wd_ite_n h5 hf
      refine z_aload_n (i := 3) hx hb dX9_goOut_23 rfl (lv_at hl 2 rfl) ?_
      refine lv_aload hx hb dX9_goOut_24 (lv_at hl 3 rfl) ?_
      refine z_getI fd_402 rfl hx hb hts hown hK hZ (hZ.k 3 rfl rfl) tw_688 dX9_goOut_26 ?_
      have hf9 := Option.bind_eq_some_iff.mp hf; clear hf; obtain ⟨a6, ha6, hf⟩ := hf9
      subst ha6
      replace hl : lv_has ls 8 [(0, .ref x0), (1, va_rf x1), (3, .ref a6), (4, .ref a4), (5, .int x5)] := hl
      replace hZ : wd_Z E w0 R s w H locs cells slots [(some x0, 10), (x1, 3), (some a6, 4), (some a4, 5)] := hZ
      have hf9 := wd_b2_e hf; clear hf; obtain ⟨r9, w7, hc8, hf⟩ := hf9
      refine z_callV (ci := 3) (As := [.int (wd_I w 402 a4)]) (rest := []) (c_X3_portTo l E n w a6 (wd_I w 402 a4) r9 w7 (hZ.k 2 rfl rfl) hc8) mo_X3_portTo rfl (by decide) rfl tw_653 tw_654 tw_652 hx hb hml hts hown hK ⟨Nat.le_trans (by decide) hR.1, Nat.le_trans (by decide) hR.2⟩ hZ (hZ.k 2 rfl rfl) rfl hl.1 rfl (Nat.le_of_ble_eq_true rfl) rfl dX9_goOut_29 ?_; clear hZ; intro H locs cells slots hX hZ
      refine lv_istore (i := 6) (lv' := [(6, .int r9), (0, .ref x0), (1, va_rf x1), (3, .ref a6), (4, .ref a4), (5, .int x5)]) hx hb dX9_goOut_32 hl (by decide) rfl ?_; clear hl; intro ls hl
      refine lv_aload_n (i := 3) hx hb dX9_goOut_34 rfl (lv_at hl 3 rfl) ?_
      refine lv_iload hx hb dX9_goOut_35 (lv_at hl 0 rfl) ?_
      have hf9 := wd_b2_e hf; clear hf; obtain ⟨r12, w10, hc11, hf⟩ := hf9
      refine z_callV (ci := 3) (As := [.int r9]) (rest := []) (c_X3_port l E n w7 a6 r9 r12 w10 (hZ.k 2 rfl rfl) hc11) mo_X3_port rfl (by decide) rfl tw_488 tw_489 tw_664 hx hb hml hts hown hK ⟨Nat.le_trans (by decide) hR.1, Nat.le_trans (by decide) hR.2⟩ hZ (hZ.k 2 rfl rfl) rfl hl.1 rfl (Nat.le_of_ble_eq_true rfl) rfl dX9_goOut_37 ?_; clear hZ; intro H locs cells slots hX hZ
      replace hZ := hZ.add (Nat.succ_ne_zero _) hX
      refine z_astore (i := 7) (lv' := [(7, va_rf r12), (6, .int r9), (0, .ref x0), (1, va_rf x1), (3, .ref a6), (4, .ref a4), (5, .int x5)]) hx hb dX9_goOut_40 hl (by decide) rfl ?_; clear hl; intro ls hl
      refine lv_aload_n (i := 3) hx hb dX9_goOut_42 rfl (lv_at hl 4 rfl) ?_
      refine lv_aload hx hb dX9_goOut_43 (lv_at hl 5 rfl) ?_
      refine z_getI fd_402 rfl hx hb hts hown hK hZ (hZ.k 4 rfl rfl) tw_688 dX9_goOut_45 ?_
      have hf9 := wd_b2_e hf; clear hf; obtain ⟨r15, w13, hc14, hf⟩ := hf9
      refine z_callV (ci := 3) (As := [.int (wd_I w10 402 a4)]) (rest := []) (c_X3_owns l E n w10 a6 (wd_I w10 402 a4) r15 w13 (hZ.k 3 rfl rfl) hc14) mo_X3_owns rfl (by decide) rfl tw_649 tw_650 tw_648 hx hb hml hts hown hK ⟨Nat.le_trans (by decide) hR.1, Nat.le_trans (by decide) hR.2⟩ hZ (hZ.k 3 rfl rfl) rfl hl.1 rfl (Nat.le_of_ble_eq_true rfl) rfl dX9_goOut_48 ?_; clear hZ; intro H locs cells slots hX hZ
      refine lv_if_eq (tgt := 66) hx hb dX9_goOut_51 (by decide) (fun h16 => ?_) (fun h16 => ?_)
      · replace hf := wd_ite_p h16 hf
        refine lv_iload hx hb dX9_goOut_66 (lv_at hl 1 rfl) ?_
        refine lv_bipush (v := -2) hx hb dX9_goOut_68 (by decide) ?_
        refine lv_icmp_ne (tgt := 94) hx hb dX9_goOut_70 (by decide) (fun h17 => ?_) (fun h17 => ?_)
        · replace hf := wd_ite_n h17 hf
          exact v_X9_goOut_j94 n C hR rec11 hrec11 x0 x1 (some a6) (some a4) x5 r12 w13 _ _ _ _ _ ⟨hZ.1, hZ.2.1, hZ.2.2.1, hZ.2.2.2.1, (List.forall_mem_cons.mpr ⟨⟨Nat.succ_ne_zero _, (fun q hq => by cases hq; exact (hZ.k 1 rfl rfl))⟩, (List.forall_mem_cons.mpr ⟨⟨Nat.succ_ne_zero _, (fun q hq => hZ.k 2 rfl hq)⟩, (List.forall_mem_cons.mpr ⟨⟨Nat.succ_ne_zero _, (fun q hq => by cases hq; exact (hZ.k 3 rfl rfl))⟩, (List.forall_mem_cons.mpr ⟨⟨Nat.succ_ne_zero _, (fun q hq => by cases hq; exact (hZ.k 4 rfl rfl))⟩, (List.forall_mem_cons.mpr ⟨⟨Nat.succ_ne_zero _, (fun q hq => hZ.k 0 rfl hq)⟩, (fun _ hq => absurd hq List.not_mem_nil)⟩)⟩)⟩)⟩)⟩), hZ.2.2.2.2.2⟩ (lv_sub hl [2, 3, 4, 5, 6, 0] rfl) hf
        · replace hf := wd_ite_p h17 hf
          refine lv_aload_n (i := 3) hx hb dX9_goOut_73 rfl (lv_at hl 4 rfl) ?_
          refine lv_aload hx hb dX9_goOut_74 (lv_at hl 5 rfl) ?_
          have hf9 := wd_b2_e hf; clear hf; obtain ⟨r42, w40, hc41, hf⟩ := hf9
          refine z_callS (As := [va_rf (some a6), va_rf (some a4)]) (rest := []) (c_X9_canWrap l E n w13 (some a6) (some a4) r42 w40 (fun q hq => by cases hq; exact (hZ.k 3 rfl rfl)) (fun q hq => by cases hq; exact (hZ.k 4 rfl rfl)) hc41) mo_X9_canWrap tw_771 tw_770 hx hb hml hts hown hK ⟨Nat.le_trans (by decide) hR.1, Nat.le_trans (by decide) hR.2⟩ hZ rfl hl.1 rfl (Nat.le_of_ble_eq_true rfl) rfl dX9_goOut_76 ?_; clear hZ; intro H locs cells slots hX hZ
          refine lv_if_eq (tgt := 94) hx hb dX9_goOut_79 (by decide) (fun h43 => ?_) (fun h43 => ?_)
          · replace hf := wd_ite_p h43 hf
            exact v_X9_goOut_j94 n C hR rec11 hrec11 x0 x1 (some a6) (some a4) x5 r12 w40 _ _ _ _ _ ⟨hZ.1, hZ.2.1, hZ.2.2.1, hZ.2.2.2.1, (List.forall_mem_cons.mpr ⟨⟨Nat.succ_ne_zero _, (fun q hq => by cases hq; exact (hZ.k 1 rfl rfl))⟩, (List.forall_mem_cons.mpr ⟨⟨Nat.succ_ne_zero _, (fun q hq => hZ.k 2 rfl hq)⟩, (List.forall_mem_cons.mpr ⟨⟨Nat.succ_ne_zero _, (fun q hq => by cases hq; exact (hZ.k 3 rfl rfl))⟩, (List.forall_mem_cons.mpr ⟨⟨Nat.succ_ne_zero _, (fun q hq => by cases hq; exact (hZ.k 4 rfl rfl))⟩, (List.forall_mem_cons.mpr ⟨⟨Nat.succ_ne_zero _, (fun q hq => hZ.k 0 rfl hq)⟩, (fun _ hq => absurd hq List.not_mem_nil)⟩)⟩)⟩)⟩)⟩), hZ.2.2.2.2.2⟩ (lv_sub hl [2, 3, 4, 5, 6, 0] rfl) hf
          · replace hf := wd_ite_n h43 hf
            refine lv_aload_n (i := 0) hx hb dX9_goOut_82 rfl (lv_at hl 2 rfl) ?_
            refine lv_aload_n (i := 3) hx hb dX9_goOut_83 rfl (lv_at hl 4 rfl) ?_
            refine lv_aload hx hb dX9_goOut_84 (lv_at hl 5 rfl) ?_
            have hf9 := wd_b2_e hf; clear hf; obtain ⟨r46, w44, hc45, hf⟩ := hf9
            refine z_callV (ci := 9) (As := [va_rf (some a6), va_rf (some a4)]) (rest := []) (c_X9_wrap l E n w40 x0 (some a6) (some a4) r46 w44 (hZ.k 1 rfl rfl) (fun q hq => by cases hq; exact (hZ.k 3 rfl rfl)) (fun q hq => by cases hq; exact (hZ.k 4 rfl rfl)) hc45) mo_X9_wrap rfl (by decide) rfl tw_775 tw_13 tw_773 hx hb hml hts hown hK ⟨Nat.le_trans (by decide) hR.1, Nat.le_trans (by decide) hR.2⟩ hZ (hZ.k 1 rfl rfl) rfl hl.1 rfl (Nat.le_of_ble_eq_true rfl) rfl dX9_goOut_86 ?_; clear hZ; intro H locs cells slots hX hZ
            replace hZ := hZ.add (Nat.succ_ne_zero _) hX
            refine z_astore (i := 4) (lv' := [(4, va_rf r46), (7, va_rf r12), (6, .int r9), (0, .ref x0), (1, va_rf x1), (3, .ref a6), (5, .int x5)]) hx hb dX9_goOut_89 hl (by decide) rfl ?_; clear hl; intro ls hl
            refine lv_goto (tgt := 180) hx hb dX9_goOut_91 (by decide) ?_
            exact v_X9_goOut_j180 n C hR rec11 hrec11 x0 x1 (some a6) r46 x5 w44 _ _ _ _ _ ⟨hZ.1, hZ.2.1, hZ.2.2.1, hZ.2.2.2.1, (List.forall_mem_cons.mpr ⟨⟨Nat.succ_ne_zero _, (fun q hq => by cases hq; exact (hZ.k 2 rfl rfl))⟩, (List.forall_mem_cons.mpr ⟨⟨Nat.succ_ne_zero _, (fun q hq => hZ.k 3 rfl hq)⟩, (List.forall_mem_cons.mpr ⟨⟨Nat.succ_ne_zero _, (fun q hq => by cases hq; exact (hZ.k 4 rfl rfl))⟩, (List.forall_mem_cons.mpr ⟨⟨Nat.succ_ne_zero _, (fun q hq => hZ.k 0 rfl hq)⟩, (fun _ hq => absurd hq List.not_mem_nil)⟩)⟩)⟩)⟩), hZ.2.2.2.2.2⟩ (lv_sub hl [3, 4, 5, 0, 6] rfl) hf
      · replace hf := wd_ite_n h16 hf
        refine lv_aload_n (i := 0) hx hb dX9_goOut_54 rfl (lv_at hl 2 rfl) ?_
        refine z_aload_n (i := 1) hx hb dX9_goOut_55 rfl (lv_at hl 3 rfl) ?_
        refine lv_aload hx hb dX9_goOut_56 (lv_at hl 5 rfl) ?_
        have hf9 := wd_b2_e hf; clear hf; obtain ⟨r49, w47, hc48, hf⟩ := hf9
        refine z_callV (ci := 9) (As := [va_rf x1, va_rf (some a4)]) (rest := []) (c_X9_accept l E n w13 x0 x1 (some a4) r49 w47 (hZ.k 1 rfl rfl) (fun q hq => hZ.k 2 rfl hq) (fun q hq => by cases hq; exact (hZ.k 4 rfl rfl)) hc48) mo_X9_accept rfl (by decide) rfl tw_764 tw_12 tw_762 hx hb hml hts hown hK ⟨Nat.le_trans (by decide) hR.1, Nat.le_trans (by decide) hR.2⟩ hZ (hZ.k 1 rfl rfl) rfl hl.1 rfl (Nat.le_of_ble_eq_true rfl) rfl dX9_goOut_58 ?_; clear hZ; intro H locs cells slots hX hZ
        replace hZ := hZ.add (Nat.succ_ne_zero _) hX
        refine z_astore (i := 4) (lv' := [(4, va_rf r49), (7, va_rf r12), (6, .int r9), (0, .ref x0), (1, va_rf x1), (3, .ref a6), (5, .int x5)]) hx hb dX9_goOut_61 hl (by decide) rfl ?_; clear hl; intro ls hl
        refine lv_goto (tgt := 180) hx hb dX9_goOut_63 (by decide) ?_
        exact v_X9_goOut_j180 n C hR rec11 hrec11 x0 x1 (some a6) r49 x5 w47 _ _ _ _ _ ⟨hZ.1, hZ.2.1, hZ.2.2.1, hZ.2.2.2.1, (List.forall_mem_cons.mpr ⟨⟨Nat.succ_ne_zero _, (fun q hq => by cases hq; exact (hZ.k 2 rfl rfl))⟩, (List.forall_mem_cons.mpr ⟨⟨Nat.succ_ne_zero _, (fun q hq => hZ.k 3 rfl hq)⟩, (List.forall_mem_cons.mpr ⟨⟨Nat.succ_ne_zero _, (fun q hq => by cases hq; exact (hZ.k 4 rfl rfl))⟩, (List.forall_mem_cons.mpr ⟨⟨Nat.succ_ne_zero _, (fun q hq => hZ.k 0 rfl hq)⟩, (fun _ hq => absurd hq List.not_mem_nil)⟩)⟩)⟩)⟩), hZ.2.2.2.2.2⟩ (lv_sub hl [3, 4, 5, 0, 6] rfl) hf

theorem v_X9_goOut_l11 {p : Program} {l : Launch} {e : Env} {R : Room} {s : State} {m : MethodId} {args : Array Value} {below : List Frame} {meth : Method} {c : Code} {E : wd_E} {w0 : Wd} {w' : Wd} (n : Nat) (C : wd_X p s m args meth c cX9_goOut RX9 8 none "goOut" E) (hR : 5 ≤ R.frames ∧ 122 ≤ R.locals) : ∀ (k : Nat) (x0 : Nat) (x1 : Option Nat) (x3 : Option Nat) (x4 : Option Nat) (x5 : Int32) (w : Wd) (H : Heap) (locs : List Loc) (cells slots : Nat) (ls : Array Slot), wd_Z E w0 R s w H locs cells slots [(some x0, 10), (x1, 3), (x3, 4), (x4, 5)] → lv_has ls 8 [(0, .ref x0), (1, va_rf x1), (3, va_rf x3), (4, va_rf x4), (5, .int x5)] → wd_lp6 (f_X9_goOut_l11 n) k x0 x1 x3 x4 x5 w = some w' → W p l e R s m args below meth c H locs cells slots (wd_fin E w0 none w' True R args s below) (F0 m 11 ls []) := by
  intro k
  induction k with
  | zero => intro _ _ _ _ _ _ _ _ _ _ _ _ _ hf; cases hf
  | succ k ih =>
    intro x0 x1 x3 x4 x5 w H locs cells slots ls hZ hl hf
    exact v_X9_goOut_b11 n C hR (wd_lp6 (f_X9_goOut_l11 n) k) ih x0 x1 x3 x4 x5 w H locs cells slots ls hZ hl hf

set_option maxHeartbeats 4000000 in
set_option maxRecDepth 100000 in
theorem c_X9_goOut (l : Launch) (E : wd_E) (n : Nat) (w : Wd) (this : Nat) (p0 : Option Nat) (p1 : Option Nat) (w' : Wd) (k_this : wd_K w this = 10) (k_p0 : ∀ q, p0 = some q → wd_K w q = 3) (k_p1 : ∀ q, p1 = some q → wd_K w q = 5) (hf : f_X9_goOut n w this p0 p1 = some w') : wd_C l E yX9_goOut cX9_goOut 8 none 5 122 [.ref this, va_rf p0, va_rf p1] w none w' True := by
  refine wd_ofW (own := RX9) (nm := "goOut") (ks := [(some this, 10), (p0, 3), (p1, 5)]) (lv := [(0, .ref this), (1, va_rf p0), (2, va_rf p1)]) (by decide) rfl rfl (by simp [lg_sl, va_rf_cat, va_cat_r, va_cat_i, va_cat_l, va_cat_d]) (by simp [lv_args, va_rf_cat, va_cat_r, va_cat_i, va_cat_l, va_cat_d]) (List.forall_mem_cons.mpr ⟨⟨Nat.succ_ne_zero _, fun q hq => by cases hq; exact k_this⟩, (List.forall_mem_cons.mpr ⟨⟨Nat.succ_ne_zero _, k_p0⟩, (List.forall_mem_cons.mpr ⟨⟨Nat.succ_ne_zero _, k_p1⟩, (fun _ hq => absurd hq List.not_mem_nil)⟩)⟩)⟩) ?_
  intro p e s m args below meth c R H locs cells slots ls C hR hZ hl
  obtain ⟨hx, hb, hr, hml, hts, hown, hlocks, hmn, hK⟩ := id C
  unfold f_X9_goOut at hf
  refine z_aload_n (i := 1) hx hb dX9_goOut_0 rfl (lv_at hl 1 rfl) ?_
  have hf9 := Option.bind_eq_some_iff.mp hf; clear hf; obtain ⟨a1, ha1, hf⟩ := hf9
  subst ha1
  replace hl : lv_has ls 8 [(0, .ref this), (1, .ref a1), (2, va_rf p1)] := hl
  replace hZ : wd_Z E w R s w H locs cells slots [(some this, 10), (some a1, 3), (p1, 5)] := hZ
  refine z_getR (tk := 3) fd_200 rfl hx hb hts hown hK hZ (hZ.k 1 rfl rfl) tw_206 dX9_goOut_1 ?_; clear hZ; intro hZ
  have hf9 := wd_let_e hf; clear hf; obtain ⟨v2, e3, hf⟩ := hf9
  rw [e3]
  rw [e3] at hZ
  refine z_astore_n (i := 3) (lv' := [(3, va_rf v2), (0, .ref this), (1, .ref a1), (2, va_rf p1)]) hx hb dX9_goOut_4 rfl hl (by decide) (by simp [va_rf_cat, va_cat_r, va_cat_i, va_cat_l, va_cat_d]) ?_; clear hl; intro ls hl
  refine z_aload_n (i := 2) hx hb dX9_goOut_5 rfl (lv_at hl 3 rfl) ?_
  refine z_astore (i := 4) (lv' := [(4, va_rf p1), (3, va_rf v2), (0, .ref this), (1, .ref a1), (2, va_rf p1)]) hx hb dX9_goOut_6 hl (by decide) (by simp [va_rf_cat, va_cat_r, va_cat_i, va_cat_l, va_cat_d]) ?_; clear hl; intro ls hl
  refine lv_iconst (v := 0) hx hb dX9_goOut_8 (by decide) ?_
  refine lv_istore (i := 5) (lv' := [(5, .int (0 : Int32)), (4, va_rf p1), (3, va_rf v2), (0, .ref this), (1, .ref a1), (2, va_rf p1)]) hx hb dX9_goOut_9 hl (by decide) (by simp [va_rf_cat, va_cat_r, va_cat_i, va_cat_l, va_cat_d]) ?_; clear hl; intro ls hl
  exact v_X9_goOut_l11 n C hR n this (some a1) v2 p1 (0 : Int32) w _ _ _ _ _ ⟨hZ.1, hZ.2.1, hZ.2.2.1, hZ.2.2.2.1, (List.forall_mem_cons.mpr ⟨⟨Nat.succ_ne_zero _, (fun q hq => by cases hq; exact (hZ.k 1 rfl rfl))⟩, (List.forall_mem_cons.mpr ⟨⟨Nat.succ_ne_zero _, (fun q hq => by cases hq; exact (hZ.k 2 rfl rfl))⟩, (List.forall_mem_cons.mpr ⟨⟨Nat.succ_ne_zero _, (fun q hq => hZ.k 0 rfl hq)⟩, (List.forall_mem_cons.mpr ⟨⟨Nat.succ_ne_zero _, (fun q hq => hZ.k 3 rfl hq)⟩, (fun _ hq => absurd hq List.not_mem_nil)⟩)⟩)⟩)⟩), hZ.2.2.2.2.2⟩ (lv_sub hl [3, 4, 2, 1, 0] rfl) hf

def f_X9_launch (n : Nat) (w : Wd) (this : Nat) (p0 : Option Nat) (p1 : Int32) (p2 : Int32) (p3 : Int32) (p4 : Int32) (p5 : Int32) : Option (Int32 × Wd) :=
  Option.bind p0 fun a1 =>
  wd_b2 (f_X9_sourceFor n w (wd_R w 200 a1) p2) fun r4 w2 =>
  if 0 ≤ r4 then
    wd_b2 (f_X9_bear n w2 this p1 r4 p2 p3) fun r8 w6 =>
    Option.bind r8 fun a9 =>
    wd_let (wd_sI w6 404 a9 p4) fun w10 =>
    wd_gd (¬ (p5 = 0 ∨ p5 = 1)) <|
    wd_let (wd_sI w10 408 a9 p5) fun w13 =>
    wd_let (wd_I w13 405 a9) fun v15 =>
    Option.bind (f_X9_goOut n w13 this (some a1) (some a9)) fun w17 =>
    some (v15, w17)
  else
    some ((-1 : Int32), w2)
set_option maxHeartbeats 4000000 in
set_option maxRecDepth 100000 in
theorem c_X9_launch (l : Launch) (E : wd_E) (n : Nat) (w : Wd) (this : Nat) (p0 : Option Nat) (p1 : Int32) (p2 : Int32) (p3 : Int32) (p4 : Int32) (p5 : Int32) (r' : Int32) (w' : Wd) (k_this : wd_K w this = 10) (k_p0 : ∀ q, p0 = some q → wd_K w q = 3) (hf : f_X9_launch n w this p0 p1 p2 p3 p4 p5 = some (r', w')) : wd_C l E yX9_launch cX9_launch 10 (some .int) 6 149 [.ref this, va_rf p0, .int p1, .int p2, .int p3, .int p4, .int p5] w (some (.int r')) w' True := by
  refine wd_ofW (own := RX9) (nm := "launch") (ks := [(some this, 10), (p0, 3)]) (lv := [(0, .ref this), (1, va_rf p0), (2, .int p1), (3, .int p2), (4, .int p3), (5, .int p4), (6, .int p5)]) (by decide) rfl rfl (by simp [lg_sl, va_rf_cat, va_cat_r, va_cat_i, va_cat_l, va_cat_d]) (by simp [lv_args, va_rf_cat, va_cat_r, va_cat_i, va_cat_l, va_cat_d]) (List.forall_mem_cons.mpr ⟨⟨Nat.succ_ne_zero _, fun q hq => by cases hq; exact k_this⟩, (List.forall_mem_cons.mpr ⟨⟨Nat.succ_ne_zero _, k_p0⟩, (fun _ hq => absurd hq List.not_mem_nil)⟩)⟩) ?_
  intro p e s m args below meth c R H locs cells slots ls C hR hZ hl
  obtain ⟨hx, hb, hr, hml, hts, hown, hlocks, hmn, hK⟩ := id C
  unfold f_X9_launch at hf
  refine z_aload_n (i := 1) hx hb dX9_launch_0 rfl (lv_at hl 1 rfl) ?_
  have hf9 := Option.bind_eq_some_iff.mp hf; clear hf; obtain ⟨a1, ha1, hf⟩ := hf9
  subst ha1
  replace hl : lv_has ls 10 [(0, .ref this), (1, .ref a1), (2, .int p1), (3, .int p2), (4, .int p3), (5, .int p4), (6, .int p5)] := hl
  replace hZ : wd_Z E w R s w H locs cells slots [(some this, 10), (some a1, 3)] := hZ
  refine z_getR (tk := 3) fd_200 rfl hx hb hts hown hK hZ (hZ.k 1 rfl rfl) tw_206 dX9_launch_1 ?_; clear hZ; intro hZ
  refine lv_iload_n (i := 3) hx hb dX9_launch_4 rfl (lv_at hl 3 rfl) ?_
  have hf9 := wd_b2_e hf; clear hf; obtain ⟨r4, w2, hc3, hf⟩ := hf9
  refine z_callS (As := [va_rf (wd_R w 200 a1), .int p2]) (rest := []) (c_X9_sourceFor l E n w (wd_R w 200 a1) p2 r4 w2 (fun q hq => hZ.k 0 rfl hq) hc3) mo_X9_sourceFor tw_646 tw_645 hx hb hml hts hown hK ⟨Nat.le_trans (by decide) hR.1, Nat.le_trans (by decide) hR.2⟩ hZ rfl hl.1 rfl (Nat.le_of_ble_eq_true rfl) rfl dX9_launch_5 ?_; clear hZ; intro H locs cells slots hX hZ
  refine lv_istore (i := 7) (lv' := [(7, .int r4), (0, .ref this), (1, .ref a1), (2, .int p1), (3, .int p2), (4, .int p3), (5, .int p4), (6, .int p5)]) hx hb dX9_launch_8 hl (by decide) rfl ?_; clear hl; intro ls hl
  refine lv_iload hx hb dX9_launch_10 (lv_at hl 0 rfl) ?_
  refine lv_if_ge (tgt := 17) hx hb dX9_launch_12 (by decide) (fun h5 => ?_) (fun h5 => ?_)
  · replace hf := wd_ite_p h5 hf
    refine lv_aload_n (i := 0) hx hb dX9_launch_17 rfl (lv_at hl 1 rfl) ?_
    refine lv_iload_n (i := 2) hx hb dX9_launch_18 rfl (lv_at hl 3 rfl) ?_
    refine lv_iload hx hb dX9_launch_19 (lv_at hl 0 rfl) ?_
    refine lv_iload_n (i := 3) hx hb dX9_launch_21 rfl (lv_at hl 4 rfl) ?_
    refine lv_iload hx hb dX9_launch_22 (lv_at hl 5 rfl) ?_
    have hf9 := wd_b2_e hf; clear hf; obtain ⟨r8, w6, hc7, hf⟩ := hf9
    refine z_callV (ci := 9) (As := [.int p1, .int r4, .int p2, .int p3]) (rest := []) (c_X9_bear l E n w2 this p1 r4 p2 p3 r8 w6 (hZ.k 1 rfl rfl) hc7) mo_X9_bear rfl (by decide) rfl tw_667 tw_10 tw_665 hx hb hml hts hown hK ⟨Nat.le_trans (by decide) hR.1, Nat.le_trans (by decide) hR.2⟩ hZ (hZ.k 1 rfl rfl) rfl hl.1 rfl (Nat.le_of_ble_eq_true rfl) rfl dX9_launch_24 ?_; clear hZ; intro H locs cells slots hX hZ
    replace hZ := hZ.add (Nat.succ_ne_zero _) hX
    refine z_astore (i := 8) (lv' := [(8, va_rf r8), (7, .int r4), (0, .ref this), (1, .ref a1), (2, .int p1), (3, .int p2), (4, .int p3), (5, .int p4), (6, .int p5)]) hx hb dX9_launch_27 hl (by decide) rfl ?_; clear hl; intro ls hl
    refine z_aload hx hb dX9_launch_29 (lv_at hl 0 rfl) ?_
    refine lv_iload hx hb dX9_launch_31 (lv_at hl 7 rfl) ?_
    have hf9 := Option.bind_eq_some_iff.mp hf; clear hf; obtain ⟨a9, ha9, hf⟩ := hf9
    subst ha9
    replace hl : lv_has ls 10 [(8, .ref a9), (7, .int r4), (0, .ref this), (1, .ref a1), (2, .int p1), (3, .int p2), (4, .int p3), (5, .int p4), (6, .int p5)] := hl
    replace hZ : wd_Z E w R s w6 H locs cells slots [(some a9, 5), ((wd_R w 200 a1), 4), (some this, 10), (some a1, 3)] := hZ
    refine z_putI fd_404 cok_4 rfl rfl rfl rfl rfl hx hb hts hown hK hZ (hZ.k 0 rfl rfl) tw_695 dX9_launch_33 ?_; clear hZ; intro H locs hZ
    have hf9 := wd_let_e hf; clear hf; obtain ⟨w10, e11, hf⟩ := hf9
    rw [e11] at hZ
    refine lv_aload hx hb dX9_launch_36 (lv_at hl 0 rfl) ?_
    refine lv_iload hx hb dX9_launch_38 (lv_at hl 8 rfl) ?_
    have hf9 := wd_gd_e hf; clear hf; obtain ⟨h12, hf⟩ := hf9
    refine z_putI fd_408 cok_4 rfl rfl rfl (wd_zn h12) (wd_zf h12) hx hb hts hown hK hZ (hZ.k 0 rfl rfl) tw_711 dX9_launch_40 ?_; clear hZ; intro H locs hZ
    have hf9 := wd_let_e hf; clear hf; obtain ⟨w13, e14, hf⟩ := hf9
    rw [e14] at hZ
    refine lv_aload hx hb dX9_launch_43 (lv_at hl 0 rfl) ?_
    refine z_getI fd_405 rfl hx hb hts hown hK hZ (hZ.k 0 rfl rfl) tw_700 dX9_launch_45 ?_
    have hf9 := wd_let_e hf; clear hf; obtain ⟨v15, e16, hf⟩ := hf9
    rw [e16]
    refine lv_istore (i := 9) (lv' := [(9, .int v15), (8, .ref a9), (7, .int r4), (0, .ref this), (1, .ref a1), (2, .int p1), (3, .int p2), (4, .int p3), (5, .int p4), (6, .int p5)]) hx hb dX9_launch_48 hl (by decide) rfl ?_; clear hl; intro ls hl
    refine lv_aload_n (i := 0) hx hb dX9_launch_50 rfl (lv_at hl 3 rfl) ?_
    refine lv_aload_n (i := 1) hx hb dX9_launch_51 rfl (lv_at hl 4 rfl) ?_
    refine lv_aload hx hb dX9_launch_52 (lv_at hl 1 rfl) ?_
    have hf9 := Option.bind_eq_some_iff.mp hf; clear hf; obtain ⟨w17, hc18, hf⟩ := hf9
    refine z_callV (ci := 9) (As := [va_rf (some a1), va_rf (some a9)]) (rest := []) (c_X9_goOut l E n w13 this (some a1) (some a9) w17 (hZ.k 2 rfl rfl) (fun q hq => by cases hq; exact (hZ.k 3 rfl rfl)) (fun q hq => by cases hq; exact (hZ.k 0 rfl rfl)) hc18) mo_X9_goOut rfl (by decide) rfl tw_759 tw_11 tw_757 hx hb hml hts hown hK ⟨Nat.le_trans (by decide) hR.1, Nat.le_trans (by decide) hR.2⟩ hZ (hZ.k 2 rfl rfl) rfl hl.1 rfl (Nat.le_of_ble_eq_true rfl) rfl dX9_launch_54 ?_; clear hZ; intro H locs cells slots hX hZ
    refine lv_iload hx hb dX9_launch_57 (lv_at hl 0 rfl) ?_
    obtain ⟨rfl, rfl⟩ := Prod.mk.inj (Option.some.inj hf)
    exact z_iret hx hb hr hlocks hZ trivial dX9_launch_59
  · replace hf := wd_ite_n h5 hf
    refine lv_iconst (v := -1) hx hb dX9_launch_15 (by decide) ?_
    obtain ⟨rfl, rfl⟩ := Prod.mk.inj (Option.some.inj hf)
    exact z_iret hx hb hr hlocks hZ trivial dX9_launch_16

def f_X9_hearQuestion (n : Nat) (w : Wd) (this : Nat) (p0 : Option Nat) : Option Wd :=
  Option.bind p0 fun a1 =>
  Option.bind (wd_R w 904 this) fun a2 =>
  wd_b2 (f_X5_portWithAddress n w a2 (wd_I w 4 a1)) fun r5 w3 =>
  Option.bind (wd_R w3 904 this) fun a6 =>
  wd_b2 (f_X5_portWithMark n w3 a6 (wd_I w3 1 a1)) fun r9 w7 =>
  wd_on r5 (
    some w7)
    (fun a10 =>
    wd_on r9 (
      some w7)
      (fun a11 =>
      if ((some a10) : Option Nat) = (some a11) then
        some w7
      else
        if (wd_I w7 701 a10) = (wd_I w7 0 a1) then
          wd_b2 (f_X9_hostWithMark n w7 this (wd_I w7 700 a10)) fun r16 w14 =>
          wd_on r16 (
            some w14)
            (fun a17 =>
            Option.bind (f_X2_learn n w14 a17 (wd_I w14 702 a11) (wd_I w14 700 a11)) fun w18 =>
            Option.bind (wd_R w18 900 this) fun a20 =>
            Option.bind (f_X8_add n w18 a20 (2 : Int32) (some a10) (wd_I w18 700 a11) (wd_I w18 702 a10) none) fun w21 =>
            some w21)
        else
          some w7))
set_option maxHeartbeats 4000000 in
set_option maxRecDepth 100000 in
theorem c_X9_hearQuestion (l : Launch) (E : wd_E) (n : Nat) (w : Wd) (this : Nat) (p0 : Option Nat) (w' : Wd) (k_this : wd_K w this = 10) (k_p0 : ∀ q, p0 = some q → wd_K w q = 1) (hf : f_X9_hearQuestion n w this p0 = some w') : wd_C l E yX9_hearQuestion cX9_hearQuestion 5 none 3 70 [.ref this, va_rf p0] w none w' True := by
  refine wd_ofW (own := RX9) (nm := "hearQuestion") (ks := [(some this, 10), (p0, 1)]) (lv := [(0, .ref this), (1, va_rf p0)]) (by decide) rfl rfl (by simp [lg_sl, va_rf_cat, va_cat_r, va_cat_i, va_cat_l, va_cat_d]) (by simp [lv_args, va_rf_cat, va_cat_r, va_cat_i, va_cat_l, va_cat_d]) (List.forall_mem_cons.mpr ⟨⟨Nat.succ_ne_zero _, fun q hq => by cases hq; exact k_this⟩, (List.forall_mem_cons.mpr ⟨⟨Nat.succ_ne_zero _, k_p0⟩, (fun _ hq => absurd hq List.not_mem_nil)⟩)⟩) ?_
  intro p e s m args below meth c R H locs cells slots ls C hR hZ hl
  obtain ⟨hx, hb, hr, hml, hts, hown, hlocks, hmn, hK⟩ := id C
  unfold f_X9_hearQuestion at hf
  refine lv_aload_n (i := 0) hx hb dX9_hearQuestion_0 rfl (lv_at hl 0 rfl) ?_
  refine z_getR (tk := 5) fd_904 rfl hx hb hts hown hK hZ (hZ.k 0 rfl rfl) tw_251 dX9_hearQuestion_1 ?_; clear hZ; intro hZ
  refine z_aload_n (i := 1) hx hb dX9_hearQuestion_4 rfl (lv_at hl 1 rfl) ?_
  have hf9 := Option.bind_eq_some_iff.mp hf; clear hf; obtain ⟨a1, ha1, hf⟩ := hf9
  subst ha1
  replace hl : lv_has ls 5 [(0, .ref this), (1, .ref a1)] := hl
  replace hZ : wd_Z E w R s w H locs cells slots [((wd_R w 904 this), 6), (some this, 10), (some a1, 1)] := hZ
  refine z_getI fd_4 rfl hx hb hts hown hK hZ (hZ.k 2 rfl rfl) tw_821 dX9_hearQuestion_5 ?_
  have hf9 := Option.bind_eq_some_iff.mp hf; clear hf; obtain ⟨a2, ha2, hf⟩ := hf9
  replace hZ := hZ.add (r := some a2) (k := 6) (Nat.succ_ne_zero _) (fun q hq => by cases hq; exact hZ.k 0 rfl ha2)
  rw [ha2]
  have hf9 := wd_b2_e hf; clear hf; obtain ⟨r5, w3, hc4, hf⟩ := hf9
  refine z_callV (ci := 5) (As := [.int (wd_I w 4 a1)]) (rest := []) (c_X5_portWithAddress l E n w a2 (wd_I w 4 a1) r5 w3 (hZ.k 0 rfl rfl) hc4) mo_X5_portWithAddress rfl (by decide) rfl tw_547 tw_548 tw_878 hx hb hml hts hown hK ⟨Nat.le_trans (by decide) hR.1, Nat.le_trans (by decide) hR.2⟩ hZ (hZ.k 0 rfl rfl) rfl hl.1 rfl (Nat.le_of_ble_eq_true rfl) rfl dX9_hearQuestion_8 ?_; clear hZ; intro H locs cells slots hX hZ
  replace hZ := hZ.add (Nat.succ_ne_zero _) hX
  refine z_astore_n (i := 2) (lv' := [(2, va_rf r5), (0, .ref this), (1, .ref a1)]) hx hb dX9_hearQuestion_11 rfl hl (by decide) rfl ?_; clear hl; intro ls hl
  refine lv_aload_n (i := 0) hx hb dX9_hearQuestion_12 rfl (lv_at hl 1 rfl) ?_
  refine z_getR (tk := 5) fd_904 rfl hx hb hts hown hK hZ (hZ.k 3 rfl rfl) tw_251 dX9_hearQuestion_13 ?_; clear hZ; intro hZ
  refine lv_aload_n (i := 1) hx hb dX9_hearQuestion_16 rfl (lv_at hl 2 rfl) ?_
  refine z_getI fd_1 rfl hx hb hts hown hK hZ (hZ.k 5 rfl rfl) tw_812 dX9_hearQuestion_17 ?_
  have hf9 := Option.bind_eq_some_iff.mp hf; clear hf; obtain ⟨a6, ha6, hf⟩ := hf9
  replace hZ := hZ.add (r := some a6) (k := 6) (Nat.succ_ne_zero _) (fun q hq => by cases hq; exact hZ.k 0 rfl ha6)
  rw [ha6]
  have hf9 := wd_b2_e hf; clear hf; obtain ⟨r9, w7, hc8, hf⟩ := hf9
  refine z_callV (ci := 5) (As := [.int (wd_I w3 1 a1)]) (rest := []) (c_X5_portWithMark l E n w3 a6 (wd_I w3 1 a1) r9 w7 (hZ.k 0 rfl rfl) hc8) mo_X5_portWithMark rfl (by decide) rfl tw_484 tw_485 tw_879 hx hb hml hts hown hK ⟨Nat.le_trans (by decide) hR.1, Nat.le_trans (by decide) hR.2⟩ hZ (hZ.k 0 rfl rfl) rfl hl.1 rfl (Nat.le_of_ble_eq_true rfl) rfl dX9_hearQuestion_20 ?_; clear hZ; intro H locs cells slots hX hZ
  replace hZ := hZ.add (Nat.succ_ne_zero _) hX
  refine z_astore_n (i := 3) (lv' := [(3, va_rf r9), (2, va_rf r5), (0, .ref this), (1, .ref a1)]) hx hb dX9_hearQuestion_23 rfl hl (by decide) (by simp [va_rf_cat, va_cat_r, va_cat_i, va_cat_l, va_cat_d]) ?_; clear hl; intro ls hl
  refine z_aload_n (i := 2) hx hb dX9_hearQuestion_24 rfl (lv_at hl 1 rfl) ?_
  refine z_ifnull (tgt := 48) hx hb dX9_hearQuestion_25 (by decide) (fun hn => ?_) (fun a10 ha10 => ?_)
  · replace hf := wd_on_n hn hf
    subst hn
    replace hl : lv_has ls 5 [(3, va_rf r9), (2, va_rf none), (0, .ref this), (1, .ref a1)] := hl
    replace hZ : wd_Z E w R s w7 H locs cells slots [(r9, 8), (some a6, 6), ((wd_R w3 904 this), 6), (none, 8), (some a2, 6), ((wd_R w 904 this), 6), (some this, 10), (some a1, 1)] := hZ
    obtain rfl := Option.some.inj hf
    exact z_vret hx hb hr hlocks hZ trivial dX9_hearQuestion_48
  · replace hf := wd_on_s ha10 hf
    subst ha10
    replace hl : lv_has ls 5 [(3, va_rf r9), (2, .ref a10), (0, .ref this), (1, .ref a1)] := hl
    replace hZ : wd_Z E w R s w7 H locs cells slots [(r9, 8), (some a6, 6), ((wd_R w3 904 this), 6), (some a10, 8), (some a2, 6), ((wd_R w 904 this), 6), (some this, 10), (some a1, 1)] := hZ
    refine z_aload_n (i := 3) hx hb dX9_hearQuestion_28 rfl (lv_at hl 0 rfl) ?_
    refine z_ifnull (tgt := 48) hx hb dX9_hearQuestion_29 (by decide) (fun hn => ?_) (fun a11 ha11 => ?_)
    · replace hf := wd_on_n hn hf
      subst hn
      replace hl : lv_has ls 5 [(3, va_rf none), (2, .ref a10), (0, .ref this), (1, .ref a1)] := hl
      replace hZ : wd_Z E w R s w7 H locs cells slots [(none, 8), (some a6, 6), ((wd_R w3 904 this), 6), (some a10, 8), (some a2, 6), ((wd_R w 904 this), 6), (some this, 10), (some a1, 1)] := hZ
      obtain rfl := Option.some.inj hf
      exact z_vret hx hb hr hlocks hZ trivial dX9_hearQuestion_48
    · replace hf := wd_on_s ha11 hf
      subst ha11
      replace hl : lv_has ls 5 [(3, .ref a11), (2, .ref a10), (0, .ref this), (1, .ref a1)] := hl
      replace hZ : wd_Z E w R s w7 H locs cells slots [(some a11, 8), (some a6, 6), ((wd_R w3 904 this), 6), (some a10, 8), (some a2, 6), ((wd_R w 904 this), 6), (some this, 10), (some a1, 1)] := hZ
      refine lv_aload_n (i := 2) hx hb dX9_hearQuestion_32 rfl (lv_at hl 1 rfl) ?_
      refine lv_aload_n (i := 3) hx hb dX9_hearQuestion_33 rfl (lv_at hl 0 rfl) ?_
      refine lv_acmp_eq (rx := (some a10)) (ry := (some a11)) (tgt := 48) hx hb dX9_hearQuestion_34 (by decide) (fun h12 => ?_) (fun h12 => ?_)
      · replace hf := wd_ite_p h12 hf
        obtain rfl := Option.some.inj hf
        exact z_vret hx hb hr hlocks hZ trivial dX9_hearQuestion_48
      · replace hf := wd_ite_n h12 hf
        refine lv_aload_n (i := 2) hx hb dX9_hearQuestion_37 rfl (lv_at hl 1 rfl) ?_
        refine z_getI fd_701 rfl hx hb hts hown hK hZ (hZ.k 3 rfl rfl) tw_565 dX9_hearQuestion_38 ?_
        refine lv_aload_n (i := 1) hx hb dX9_hearQuestion_41 rfl (lv_at hl 3 rfl) ?_
        refine z_getI fd_0 rfl hx hb hts hown hK hZ (hZ.k 7 rfl rfl) tw_809 dX9_hearQuestion_42 ?_
        refine lv_icmp_eq (tgt := 49) hx hb dX9_hearQuestion_45 (by decide) (fun h13 => ?_) (fun h13 => ?_)
        · replace hf := wd_ite_p h13 hf
          refine lv_aload_n (i := 0) hx hb dX9_hearQuestion_49 rfl (lv_at hl 2 rfl) ?_
          refine lv_aload_n (i := 2) hx hb dX9_hearQuestion_50 rfl (lv_at hl 1 rfl) ?_
          refine z_getI fd_700 rfl hx hb hts hown hK hZ (hZ.k 3 rfl rfl) tw_562 dX9_hearQuestion_51 ?_
          have hf9 := wd_b2_e hf; clear hf; obtain ⟨r16, w14, hc15, hf⟩ := hf9
          refine z_callV (ci := 9) (As := [.int (wd_I w7 700 a10)]) (rest := []) (c_X9_hostWithMark l E n w7 this (wd_I w7 700 a10) r16 w14 (hZ.k 6 rfl rfl) hc15) mo_X9_hostWithMark rfl (by decide) rfl tw_882 tw_19 tw_880 hx hb hml hts hown hK ⟨Nat.le_trans (by decide) hR.1, Nat.le_trans (by decide) hR.2⟩ hZ (hZ.k 6 rfl rfl) rfl hl.1 rfl (Nat.le_of_ble_eq_true rfl) rfl dX9_hearQuestion_54 ?_; clear hZ; intro H locs cells slots hX hZ
          replace hZ := hZ.add (Nat.succ_ne_zero _) hX
          refine z_astore (i := 4) (lv' := [(4, va_rf r16), (3, .ref a11), (2, .ref a10), (0, .ref this), (1, .ref a1)]) hx hb dX9_hearQuestion_57 hl (by decide) rfl ?_; clear hl; intro ls hl
          refine z_aload hx hb dX9_hearQuestion_59 (lv_at hl 0 rfl) ?_
          refine z_ifnull (tgt := 95) hx hb dX9_hearQuestion_61 (by decide) (fun hn => ?_) (fun a17 ha17 => ?_)
          · replace hf := wd_on_n hn hf
            subst hn
            replace hl : lv_has ls 5 [(4, va_rf none), (3, .ref a11), (2, .ref a10), (0, .ref this), (1, .ref a1)] := hl
            replace hZ : wd_Z E w R s w14 H locs cells slots [(none, 3), (some a11, 8), (some a6, 6), ((wd_R w3 904 this), 6), (some a10, 8), (some a2, 6), ((wd_R w 904 this), 6), (some this, 10), (some a1, 1)] := hZ
            obtain rfl := Option.some.inj hf
            exact z_vret hx hb hr hlocks hZ trivial dX9_hearQuestion_95
          · replace hf := wd_on_s ha17 hf
            subst ha17
            replace hl : lv_has ls 5 [(4, .ref a17), (3, .ref a11), (2, .ref a10), (0, .ref this), (1, .ref a1)] := hl
            replace hZ : wd_Z E w R s w14 H locs cells slots [(some a17, 3), (some a11, 8), (some a6, 6), ((wd_R w3 904 this), 6), (some a10, 8), (some a2, 6), ((wd_R w 904 this), 6), (some this, 10), (some a1, 1)] := hZ
            refine lv_aload hx hb dX9_hearQuestion_64 (lv_at hl 0 rfl) ?_
            refine lv_aload_n (i := 3) hx hb dX9_hearQuestion_66 rfl (lv_at hl 1 rfl) ?_
            refine z_getI fd_702 rfl hx hb hts hown hK hZ (hZ.k 1 rfl rfl) tw_568 dX9_hearQuestion_67 ?_
            refine lv_aload_n (i := 3) hx hb dX9_hearQuestion_70 rfl (lv_at hl 1 rfl) ?_
            refine z_getI fd_700 rfl hx hb hts hown hK hZ (hZ.k 1 rfl rfl) tw_562 dX9_hearQuestion_71 ?_
            have hf9 := Option.bind_eq_some_iff.mp hf; clear hf; obtain ⟨w18, hc19, hf⟩ := hf9
            refine z_callV (ci := 2) (As := [.int (wd_I w14 702 a11), .int (wd_I w14 700 a11)]) (rest := []) (c_X2_learn l E n w14 a17 (wd_I w14 702 a11) (wd_I w14 700 a11) w18 (hZ.k 0 rfl rfl) hc19) mo_X2_learn rfl (by decide) rfl tw_886 tw_887 tw_885 hx hb hml hts hown hK ⟨Nat.le_trans (by decide) hR.1, Nat.le_trans (by decide) hR.2⟩ hZ (hZ.k 0 rfl rfl) rfl hl.1 rfl (Nat.le_of_ble_eq_true rfl) rfl dX9_hearQuestion_74 ?_; clear hZ; intro H locs cells slots hX hZ
            refine lv_aload_n (i := 0) hx hb dX9_hearQuestion_77 rfl (lv_at hl 3 rfl) ?_
            refine z_getR (tk := 8) fd_900 rfl hx hb hts hown hK hZ (hZ.k 7 rfl rfl) tw_243 dX9_hearQuestion_78 ?_; clear hZ; intro hZ
            refine lv_iconst (v := 2) hx hb dX9_hearQuestion_81 (by decide) ?_
            refine lv_aload_n (i := 2) hx hb dX9_hearQuestion_82 rfl (lv_at hl 2 rfl) ?_
            refine lv_aload_n (i := 3) hx hb dX9_hearQuestion_83 rfl (lv_at hl 1 rfl) ?_
            refine z_getI fd_700 rfl hx hb hts hown hK hZ (hZ.k 2 rfl rfl) tw_562 dX9_hearQuestion_84 ?_
            refine lv_aload_n (i := 2) hx hb dX9_hearQuestion_87 rfl (lv_at hl 2 rfl) ?_
            refine z_getI fd_702 rfl hx hb hts hown hK hZ (hZ.k 5 rfl rfl) tw_568 dX9_hearQuestion_88 ?_
            refine z_null hx hb dX9_hearQuestion_91 ?_
            have hf9 := Option.bind_eq_some_iff.mp hf; clear hf; obtain ⟨a20, ha20, hf⟩ := hf9
            replace hZ := hZ.add (r := some a20) (k := 9) (Nat.succ_ne_zero _) (fun q hq => by cases hq; exact hZ.k 0 rfl ha20)
            rw [ha20]
            have hf9 := Option.bind_eq_some_iff.mp hf; clear hf; obtain ⟨w21, hc22, hf⟩ := hf9
            refine z_callV (ci := 8) (As := [.int (2 : Int32), va_rf (some a10), .int (wd_I w18 700 a11), .int (wd_I w18 702 a10), va_rf none]) (rest := []) (c_X8_add l E n w18 a20 (2 : Int32) (some a10) (wd_I w18 700 a11) (wd_I w18 702 a10) none w21 (hZ.k 0 rfl rfl) (fun q hq => by cases hq; exact (hZ.k 6 rfl rfl)) (fun q hq => by cases hq) hc22) mo_X8_add rfl (by decide) rfl tw_799 tw_800 tw_798 hx hb hml hts hown hK ⟨Nat.le_trans (by decide) hR.1, Nat.le_trans (by decide) hR.2⟩ hZ (hZ.k 0 rfl rfl) rfl hl.1 rfl (Nat.le_of_ble_eq_true rfl) rfl dX9_hearQuestion_92 ?_; clear hZ; intro H locs cells slots hX hZ
            obtain rfl := Option.some.inj hf
            exact z_vret hx hb hr hlocks hZ trivial dX9_hearQuestion_95
        · replace hf := wd_ite_n h13 hf
          obtain rfl := Option.some.inj hf
          exact z_vret hx hb hr hlocks hZ trivial dX9_hearQuestion_48

def f_X9_hearReply_j85 (n : Nat) (rec31 : Nat → Option Nat → Option Nat → Option Nat → Wd → Option Wd) (x0 : Nat) (x1 : Option Nat) (x2 : Option Nat) (x4 : Option Nat) (w : Wd) : Option Wd :=
  rec31 x0 x1 x2 x4 w
def f_X9_hearReply_j80 (n : Nat) (rec31 : Nat → Option Nat → Option Nat → Option Nat → Wd → Option Wd) (x0 : Nat) (x1 : Option Nat) (x2 : Option Nat) (x3 : Option Nat) (x4 : Option Nat) (w : Wd) : Option Wd :=
  Option.bind x2 fun a16 =>
  Option.bind (f_X2_putToWait n w a16 x3) fun w17 =>
  f_X9_hearReply_j85 n rec31 x0 x1 (some a16) x4 w17
def f_X9_hearReply_l31 (n : Nat) (rec31 : Nat → Option Nat → Option Nat → Option Nat → Wd → Option Wd) (x0 : Nat) (x1 : Option Nat) (x2 : Option Nat) (x3 : Option Nat) (w : Wd) : Option Wd :=
  wd_on x3 (
    some w)
    (fun a11 =>
    wd_let (wd_R w 413 a11) fun v12 =>
    Option.bind x1 fun a14 =>
    if (wd_I w 411 a11) = (wd_I w 4 a14) then
      wd_on (wd_R w 412 a11) (
        f_X9_hearReply_j80 n rec31 x0 (some a14) x2 (some a11) v12 w)
        (fun a19 =>
        Option.bind (wd_R w 900 x0) fun a20 =>
        Option.bind (f_X8_add n w a20 (0 : Int32) (wd_R w 412 a11) (wd_I w 1 a14) (-1 : Int32) (some a11)) fun w21 =>
        f_X9_hearReply_j85 n rec31 x0 (some a14) x2 v12 w21)
    else
      f_X9_hearReply_j80 n rec31 x0 (some a14) x2 (some a11) v12 w)
def f_X9_hearReply (n : Nat) (w : Wd) (this : Nat) (p0 : Option Nat) : Option Wd :=
  Option.bind p0 fun a1 =>
  wd_b2 (f_X9_hostWithMark n w this (wd_I w 2 a1)) fun r4 w2 =>
  wd_on r4 (
    some w2)
    (fun a5 =>
    Option.bind (f_X2_learn n w2 a5 (wd_I w2 4 a1) (wd_I w2 1 a1)) fun w6 =>
    wd_b2 (f_X2_takeWaiting n w6 a5) fun r10 w8 =>
    wd_lp5 (f_X9_hearReply_l31 n) n this (some a1) (some a5) r10 w8)
set_option maxHeartbeats 4000000 in
set_option maxRecDepth 100000 in
theorem v_X9_hearReply_j85 {p : Program} {l : Launch} {e : Env} {R : Room} {s : State} {m : MethodId} {args : Array Value} {below : List Frame} {meth : Method} {c : Code} {E : wd_E} {w0 : Wd} {w' : Wd} (n : Nat) (C : wd_X p s m args meth c cX9_hearReply RX9 5 none "hearReply" E) (hR : 3 ≤ R.frames ∧ 70 ≤ R.locals) (rec31 : Nat → Option Nat → Option Nat → Option Nat → Wd → Option Wd) (hrec31 : ∀ (x0_ : Nat) (x1_ : Option Nat) (x2_ : Option Nat) (x3_ : Option Nat) (w_ : Wd) (H : Heap) (locs : List Loc) (cells slots : Nat) (ls : Array Slot), wd_Z E w0 R s w_ H locs cells slots [(some x0_, 10), (x1_, 1), (x2_, 3), (x3_, 5)] → lv_has ls 5 [(0, .ref x0_), (1, va_rf x1_), (2, va_rf x2_), (3, va_rf x3_)] → rec31 x0_ x1_ x2_ x3_ w_ = some w' → W p l e R s m args below meth c H locs cells slots (wd_fin E w0 none w' True R args s below) (F0 m 31 ls [])) (x0 : Nat) (x1 : Option Nat) (x2 : Option Nat) (x4 : Option Nat) (w : Wd) (H : Heap) (locs : List Loc) (cells slots : Nat) (ls : Array Slot) (hZ : wd_Z E w0 R s w H locs cells slots [(some x0, 10), (x1, 1), (x2, 3), (x4, 5)]) (hl : lv_has ls 5 [(0, .ref x0), (1, va_rf x1), (2, va_rf x2), (4, va_rf x4)]) (hf : f_X9_hearReply_j85 n rec31 x0 x1 x2 x4 w = some w') : W p l e R s m args below meth c H locs cells slots (wd_fin E w0 none w' True R args s below) (F0 m 85 ls []) := by
  obtain ⟨hx, hb, hr, hml, hts, hown, hlocks, hmn, hK⟩ := id C
  unfold f_X9_hearReply_j85 at hf
  refine z_aload hx hb dX9_hearReply_85 (lv_at hl 3 rfl) ?_
  refine z_astore_n (i := 3) (lv' := [(3, va_rf x4), (0, .ref x0), (1, va_rf x1), (2, va_rf x2), (4, va_rf x4)]) hx hb dX9_hearReply_87 rfl hl (by decide) (by simp [va_rf_cat, va_cat_r, va_cat_i, va_cat_l, va_cat_d]) ?_; clear hl; intro ls hl
  refine lv_goto (tgt := 31) hx hb dX9_hearReply_88 (by decide) ?_
  exact hrec31 x0 x1 x2 x4 w _ _ _ _ _ ⟨hZ.1, hZ.2.1, hZ.2.2.1, hZ.2.2.2.1, (List.forall_mem_cons.mpr ⟨⟨Nat.succ_ne_zero _, (fun q hq => by cases hq; exact (hZ.k 0 rfl rfl))⟩, (List.forall_mem_cons.mpr ⟨⟨Nat.succ_ne_zero _, (fun q hq => hZ.k 1 rfl hq)⟩, (List.forall_mem_cons.mpr ⟨⟨Nat.succ_ne_zero _, (fun q hq => hZ.k 2 rfl hq)⟩, (List.forall_mem_cons.mpr ⟨⟨Nat.succ_ne_zero _, (fun q hq => hZ.k 3 rfl hq)⟩, (fun _ hq => absurd hq List.not_mem_nil)⟩)⟩)⟩)⟩), hZ.2.2.2.2.2⟩ (lv_sub hl [1, 2, 3, 0] rfl) hf

set_option maxHeartbeats 4000000 in
set_option maxRecDepth 100000 in
theorem v_X9_hearReply_j80 {p : Program} {l : Launch} {e : Env} {R : Room} {s : State} {m : MethodId} {args : Array Value} {below : List Frame} {meth : Method} {c : Code} {E : wd_E} {w0 : Wd} {w' : Wd} (n : Nat) (C : wd_X p s m args meth c cX9_hearReply RX9 5 none "hearReply" E) (hR : 3 ≤ R.frames ∧ 70 ≤ R.locals) (rec31 : Nat → Option Nat → Option Nat → Option Nat → Wd → Option Wd) (hrec31 : ∀ (x0_ : Nat) (x1_ : Option Nat) (x2_ : Option Nat) (x3_ : Option Nat) (w_ : Wd) (H : Heap) (locs : List Loc) (cells slots : Nat) (ls : Array Slot), wd_Z E w0 R s w_ H locs cells slots [(some x0_, 10), (x1_, 1), (x2_, 3), (x3_, 5)] → lv_has ls 5 [(0, .ref x0_), (1, va_rf x1_), (2, va_rf x2_), (3, va_rf x3_)] → rec31 x0_ x1_ x2_ x3_ w_ = some w' → W p l e R s m args below meth c H locs cells slots (wd_fin E w0 none w' True R args s below) (F0 m 31 ls [])) (x0 : Nat) (x1 : Option Nat) (x2 : Option Nat) (x3 : Option Nat) (x4 : Option Nat) (w : Wd) (H : Heap) (locs : List Loc) (cells slots : Nat) (ls : Array Slot) (hZ : wd_Z E w0 R s w H locs cells slots [(some x0, 10), (x1, 1), (x2, 3), (x3, 5), (x4, 5)]) (hl : lv_has ls 5 [(0, .ref x0), (1, va_rf x1), (2, va_rf x2), (3, va_rf x3), (4, va_rf x4)]) (hf : f_X9_hearReply_j80 n rec31 x0 x1 x2 x3 x4 w = some w') : W p l e R s m args below meth c H locs cells slots (wd_fin E w0 none w' True R args s below) (F0 m 80 ls []) := by
  obtain ⟨hx, hb, hr, hml, hts, hown, hlocks, hmn, hK⟩ := id C
  unfold f_X9_hearReply_j80 at hf
  refine z_aload_n (i := 2) hx hb dX9_hearReply_80 rfl (lv_at hl 2 rfl) ?_
  refine z_aload_n (i := 3) hx hb dX9_hearReply_81 rfl (lv_at hl 3 rfl) ?_
  have hf9 := Option.bind_eq_some_iff.mp hf; clear hf; obtain ⟨a16, ha16, hf⟩ := hf9
  subst ha16
  replace hl : lv_has ls 5 [(0, .ref x0), (1, va_rf x1), (2, .ref a16), (3, va_rf x3), (4, va_rf x4)] := hl
  replace hZ : wd_Z E w0 R s w H locs cells slots [(some x0, 10), (x1, 1), (some a16, 3), (x3, 5), (x4, 5)] := hZ
  have hf9 := Option.bind_eq_some_iff.mp hf; clear hf; obtain ⟨w17, hc18, hf⟩ := hf9
  refine z_callV (ci := 2) (As := [va_rf x3]) (rest := []) (c_X2_putToWait l E n w a16 x3 w17 (hZ.k 2 rfl rfl) (fun q hq => hZ.k 3 rfl hq) hc18) mo_X2_putToWait rfl (by decide) rfl tw_843 tw_844 tw_842 hx hb hml hts hown hK ⟨Nat.le_trans (by decide) hR.1, Nat.le_trans (by decide) hR.2⟩ hZ (hZ.k 2 rfl rfl) rfl hl.1 rfl (Nat.le_of_ble_eq_true rfl) rfl dX9_hearReply_82 ?_; clear hZ; intro H locs cells slots hX hZ
  exact v_X9_hearReply_j85 n C hR rec31 hrec31 x0 x1 (some a16) x4 w17 _ _ _ _ _ ⟨hZ.1, hZ.2.1, hZ.2.2.1, hZ.2.2.2.1, (List.forall_mem_cons.mpr ⟨⟨Nat.succ_ne_zero _, (fun q hq => by cases hq; exact (hZ.k 0 rfl rfl))⟩, (List.forall_mem_cons.mpr ⟨⟨Nat.succ_ne_zero _, (fun q hq => hZ.k 1 rfl hq)⟩, (List.forall_mem_cons.mpr ⟨⟨Nat.succ_ne_zero _, (fun q hq => by cases hq; exact (hZ.k 2 rfl rfl))⟩, (List.forall_mem_cons.mpr ⟨⟨Nat.succ_ne_zero _, (fun q hq => hZ.k 4 rfl hq)⟩, (fun _ hq => absurd hq List.not_mem_nil)⟩)⟩)⟩)⟩), hZ.2.2.2.2.2⟩ (lv_sub hl [0, 1, 2, 4] rfl) hf

set_option maxHeartbeats 4000000 in
set_option maxRecDepth 100000 in
theorem v_X9_hearReply_b31 {p : Program} {l : Launch} {e : Env} {R : Room} {s : State} {m : MethodId} {args : Array Value} {below : List Frame} {meth : Method} {c : Code} {E : wd_E} {w0 : Wd} {w' : Wd} (n : Nat) (C : wd_X p s m args meth c cX9_hearReply RX9 5 none "hearReply" E) (hR : 3 ≤ R.frames ∧ 70 ≤ R.locals) (rec31 : Nat → Option Nat → Option Nat → Option Nat → Wd → Option Wd) (hrec31 : ∀ (x0_ : Nat) (x1_ : Option Nat) (x2_ : Option Nat) (x3_ : Option Nat) (w_ : Wd) (H : Heap) (locs : List Loc) (cells slots : Nat) (ls : Array Slot), wd_Z E w0 R s w_ H locs cells slots [(some x0_, 10), (x1_, 1), (x2_, 3), (x3_, 5)] → lv_has ls 5 [(0, .ref x0_), (1, va_rf x1_), (2, va_rf x2_), (3, va_rf x3_)] → rec31 x0_ x1_ x2_ x3_ w_ = some w' → W p l e R s m args below meth c H locs cells slots (wd_fin E w0 none w' True R args s below) (F0 m 31 ls [])) (x0 : Nat) (x1 : Option Nat) (x2 : Option Nat) (x3 : Option Nat) (w : Wd) (H : Heap) (locs : List Loc) (cells slots : Nat) (ls : Array Slot) (hZ : wd_Z E w0 R s w H locs cells slots [(some x0, 10), (x1, 1), (x2, 3), (x3, 5)]) (hl : lv_has ls 5 [(0, .ref x0), (1, va_rf x1), (2, va_rf x2), (3, va_rf x3)]) (hf : f_X9_hearReply_l31 n rec31 x0 x1 x2 x3 w = some w') : W p l e R s m args below meth c H locs cells slots (wd_fin E w0 none w' True R args s below) (F0 m 31 ls []) := by
  obtain ⟨hx, hb, hr, hml, hts, hown, hlocks, hmn, hK⟩ := id C
  unfold f_X9_hearReply_l31 at hf
  refine z_aload_n (i := 3) hx hb dX9_hearReply_31 rfl (lv_at hl 3 rfl) ?_
  refine z_ifnull (tgt := 91) hx hb dX9_hearReply_32 (by decide) (fun hn => ?_) (fun a11 ha11 => ?_)
  · replace hf := wd_on_n hn hf
    subst hn
    replace hl : lv_has ls 5 [(0, .ref x0), (1, va_rf x1), (2, va_rf x2), (3, va_rf none)] := hl
    replace hZ : wd_Z E w0 R s w H locs cells slots [(some x0, 10), (x1, 1), (x2, 3), (none, 5)] := hZ
    obtain rfl := Option.some.inj hf
    exact z_vret hx hb hr hlocks hZ trivial dX9_hearReply_91
  · replace hf := wd_on_s ha11 hf
    subst ha11
    replace hl : lv_has ls 5 [(0, .ref x0), (1, va_rf x1), (2, va_rf x2), (3, .ref a11)] := hl
    replace hZ : wd_Z E w0 R s w H locs cells slots [(some x0, 10), (x1, 1), (x2, 3), (some a11, 5)] := hZ
    refine lv_aload_n (i := 3) hx hb dX9_hearReply_35 rfl (lv_at hl 3 rfl) ?_
    refine z_getR (tk := 4) fd_413 rfl hx hb hts hown hK hZ (hZ.k 3 rfl rfl) tw_724 dX9_hearReply_36 ?_; clear hZ; intro hZ
    have hf9 := wd_let_e hf; clear hf; obtain ⟨v12, e13, hf⟩ := hf9
    rw [e13]
    rw [e13] at hZ
    refine z_astore (i := 4) (lv' := [(4, va_rf v12), (0, .ref x0), (1, va_rf x1), (2, va_rf x2), (3, .ref a11)]) hx hb dX9_hearReply_39 hl (by decide) rfl ?_; clear hl; intro ls hl
    refine lv_aload_n (i := 3) hx hb dX9_hearReply_41 rfl (lv_at hl 4 rfl) ?_
    refine z_getI fd_411 rfl hx hb hts hown hK hZ (hZ.k 4 rfl rfl) tw_720 dX9_hearReply_42 ?_
    refine z_aload_n (i := 1) hx hb dX9_hearReply_45 rfl (lv_at hl 2 rfl) ?_
    have hf9 := Option.bind_eq_some_iff.mp hf; clear hf; obtain ⟨a14, ha14, hf⟩ := hf9
    subst ha14
    replace hl : lv_has ls 5 [(4, va_rf v12), (0, .ref x0), (1, .ref a14), (2, va_rf x2), (3, .ref a11)] := hl
    replace hZ : wd_Z E w0 R s w H locs cells slots [(v12, 5), (some x0, 10), (some a14, 1), (x2, 3), (some a11, 5)] := hZ
    refine z_getI fd_4 rfl hx hb hts hown hK hZ (hZ.k 2 rfl rfl) tw_821 dX9_hearReply_46 ?_
    refine lv_icmp_ne (tgt := 80) hx hb dX9_hearReply_49 (by decide) (fun h15 => ?_) (fun h15 => ?_)
    · replace hf := wd_ite_n h15 hf
      exact v_X9_hearReply_j80 n C hR rec31 hrec31 x0 (some a14) x2 (some a11) v12 w _ _ _ _ _ ⟨hZ.1, hZ.2.1, hZ.2.2.1, hZ.2.2.2.1, (List.forall_mem_cons.mpr ⟨⟨Nat.succ_ne_zero _, (fun q hq => by cases hq; exact (hZ.k 1 rfl rfl))⟩, (List.forall_mem_cons.mpr ⟨⟨Nat.succ_ne_zero _, (fun q hq => by cases hq; exact (hZ.k 2 rfl rfl))⟩, (List.forall_mem_cons.mpr ⟨⟨Nat.succ_ne_zero _, (fun q hq => hZ.k 3 rfl hq)⟩, (List.forall_mem_cons.mpr ⟨⟨Nat.succ_ne_zero _, (fun q hq => by cases hq; exact (hZ.k 4 rfl rfl))⟩, (List.forall_mem_cons.mpr ⟨⟨Nat.succ_ne_zero _, (fun q hq => hZ.k 0 rfl hq)⟩, (fun _ hq => absurd hq List.not_mem_nil)⟩)⟩)⟩)⟩)⟩), hZ.2.2.2.2.2⟩ (lv_sub hl [1, 2, 3, 4, 0] rfl) hf
    · replace hf := wd_ite_p h15 hf
      refine lv_aload_n (i := 3) hx hb dX9_hearReply_52 rfl (lv_at hl 4 rfl) ?_
      refine z_getR (tk := 7) fd_412 rfl hx hb hts hown hK hZ (hZ.k 4 rfl rfl) tw_721 dX9_hearReply_53 ?_; clear hZ; intro hZ
      refine z_ifnull (tgt := 80) hx hb dX9_hearReply_56 (by decide) (fun hn => ?_) (fun a19 ha19 => ?_)
      · replace hf := wd_on_n hn hf
        exact v_X9_hearReply_j80 n C hR rec31 hrec31 x0 (some a14) x2 (some a11) v12 w _ _ _ _ _ ⟨hZ.1, hZ.2.1, hZ.2.2.1, hZ.2.2.2.1, (List.forall_mem_cons.mpr ⟨⟨Nat.succ_ne_zero _, (fun q hq => by cases hq; exact (hZ.k 2 rfl rfl))⟩, (List.forall_mem_cons.mpr ⟨⟨Nat.succ_ne_zero _, (fun q hq => by cases hq; exact (hZ.k 3 rfl rfl))⟩, (List.forall_mem_cons.mpr ⟨⟨Nat.succ_ne_zero _, (fun q hq => hZ.k 4 rfl hq)⟩, (List.forall_mem_cons.mpr ⟨⟨Nat.succ_ne_zero _, (fun q hq => by cases hq; exact (hZ.k 5 rfl rfl))⟩, (List.forall_mem_cons.mpr ⟨⟨Nat.succ_ne_zero _, (fun q hq => hZ.k 1 rfl hq)⟩, (fun _ hq => absurd hq List.not_mem_nil)⟩)⟩)⟩)⟩)⟩), hZ.2.2.2.2.2⟩ (lv_sub hl [1, 2, 3, 4, 0] rfl) hf
      · replace hf := wd_on_s ha19 hf
        refine lv_aload_n (i := 0) hx hb dX9_hearReply_59 rfl (lv_at hl 1 rfl) ?_
        refine z_getR (tk := 8) fd_900 rfl hx hb hts hown hK hZ (hZ.k 2 rfl rfl) tw_243 dX9_hearReply_60 ?_; clear hZ; intro hZ
        refine lv_iconst (v := 0) hx hb dX9_hearReply_63 (by decide) ?_
        refine lv_aload_n (i := 3) hx hb dX9_hearReply_64 rfl (lv_at hl 4 rfl) ?_
        refine z_getR (tk := 7) fd_412 rfl hx hb hts hown hK hZ (hZ.k 6 rfl rfl) tw_721 dX9_hearReply_65 ?_; clear hZ; intro hZ
        refine lv_aload_n (i := 1) hx hb dX9_hearReply_68 rfl (lv_at hl 2 rfl) ?_
        refine z_getI fd_1 rfl hx hb hts hown hK hZ (hZ.k 5 rfl rfl) tw_812 dX9_hearReply_69 ?_
        refine lv_iconst (v := -1) hx hb dX9_hearReply_72 (by decide) ?_
        refine lv_aload_n (i := 3) hx hb dX9_hearReply_73 rfl (lv_at hl 4 rfl) ?_
        have hf9 := Option.bind_eq_some_iff.mp hf; clear hf; obtain ⟨a20, ha20, hf⟩ := hf9
        replace hZ := hZ.add (r := some a20) (k := 9) (Nat.succ_ne_zero _) (fun q hq => by cases hq; exact hZ.k 1 rfl ha20)
        rw [ha20]
        have hf9 := Option.bind_eq_some_iff.mp hf; clear hf; obtain ⟨w21, hc22, hf⟩ := hf9
        refine z_callV (ci := 8) (As := [.int (0 : Int32), va_rf (wd_R w 412 a11), .int (wd_I w 1 a14), .int (-1 : Int32), va_rf (some a11)]) (rest := []) (c_X8_add l E n w a20 (0 : Int32) (wd_R w 412 a11) (wd_I w 1 a14) (-1 : Int32) (some a11) w21 (hZ.k 0 rfl rfl) (fun q hq => hZ.k 1 rfl hq) (fun q hq => by cases hq; exact (hZ.k 8 rfl rfl)) hc22) mo_X8_add rfl (by decide) rfl tw_799 tw_800 tw_798 hx hb hml hts hown hK ⟨Nat.le_trans (by decide) hR.1, Nat.le_trans (by decide) hR.2⟩ hZ (hZ.k 0 rfl rfl) rfl hl.1 rfl (Nat.le_of_ble_eq_true rfl) rfl dX9_hearReply_74 ?_; clear hZ; intro H locs cells slots hX hZ
        refine lv_goto (tgt := 85) hx hb dX9_hearReply_77 (by decide) ?_
        exact v_X9_hearReply_j85 n C hR rec31 hrec31 x0 (some a14) x2 v12 w21 _ _ _ _ _ ⟨hZ.1, hZ.2.1, hZ.2.2.1, hZ.2.2.2.1, (List.forall_mem_cons.mpr ⟨⟨Nat.succ_ne_zero _, (fun q hq => by cases hq; exact (hZ.k 5 rfl rfl))⟩, (List.forall_mem_cons.mpr ⟨⟨Nat.succ_ne_zero _, (fun q hq => by cases hq; exact (hZ.k 6 rfl rfl))⟩, (List.forall_mem_cons.mpr ⟨⟨Nat.succ_ne_zero _, (fun q hq => hZ.k 7 rfl hq)⟩, (List.forall_mem_cons.mpr ⟨⟨Nat.succ_ne_zero _, (fun q hq => hZ.k 4 rfl hq)⟩, (fun _ hq => absurd hq List.not_mem_nil)⟩)⟩)⟩)⟩), hZ.2.2.2.2.2⟩ (lv_sub hl [1, 2, 3, 0] rfl) hf

theorem v_X9_hearReply_l31 {p : Program} {l : Launch} {e : Env} {R : Room} {s : State} {m : MethodId} {args : Array Value} {below : List Frame} {meth : Method} {c : Code} {E : wd_E} {w0 : Wd} {w' : Wd} (n : Nat) (C : wd_X p s m args meth c cX9_hearReply RX9 5 none "hearReply" E) (hR : 3 ≤ R.frames ∧ 70 ≤ R.locals) : ∀ (k : Nat) (x0 : Nat) (x1 : Option Nat) (x2 : Option Nat) (x3 : Option Nat) (w : Wd) (H : Heap) (locs : List Loc) (cells slots : Nat) (ls : Array Slot), wd_Z E w0 R s w H locs cells slots [(some x0, 10), (x1, 1), (x2, 3), (x3, 5)] → lv_has ls 5 [(0, .ref x0), (1, va_rf x1), (2, va_rf x2), (3, va_rf x3)] → wd_lp5 (f_X9_hearReply_l31 n) k x0 x1 x2 x3 w = some w' → W p l e R s m args below meth c H locs cells slots (wd_fin E w0 none w' True R args s below) (F0 m 31 ls []) := by
  intro k
  induction k with
  | zero => intro _ _ _ _ _ _ _ _ _ _ _ _ hf; cases hf
  | succ k ih =>
    intro x0 x1 x2 x3 w H locs cells slots ls hZ hl hf
    exact v_X9_hearReply_b31 n C hR (wd_lp5 (f_X9_hearReply_l31 n) k) ih x0 x1 x2 x3 w H locs cells slots ls hZ hl hf

set_option maxHeartbeats 4000000 in
set_option maxRecDepth 100000 in
theorem c_X9_hearReply (l : Launch) (E : wd_E) (n : Nat) (w : Wd) (this : Nat) (p0 : Option Nat) (w' : Wd) (k_this : wd_K w this = 10) (k_p0 : ∀ q, p0 = some q → wd_K w q = 1) (hf : f_X9_hearReply n w this p0 = some w') : wd_C l E yX9_hearReply cX9_hearReply 5 none 3 70 [.ref this, va_rf p0] w none w' True := by
  refine wd_ofW (own := RX9) (nm := "hearReply") (ks := [(some this, 10), (p0, 1)]) (lv := [(0, .ref this), (1, va_rf p0)]) (by decide) rfl rfl (by simp [lg_sl, va_rf_cat, va_cat_r, va_cat_i, va_cat_l, va_cat_d]) (by simp [lv_args, va_rf_cat, va_cat_r, va_cat_i, va_cat_l, va_cat_d]) (List.forall_mem_cons.mpr ⟨⟨Nat.succ_ne_zero _, fun q hq => by cases hq; exact k_this⟩, (List.forall_mem_cons.mpr ⟨⟨Nat.succ_ne_zero _, k_p0⟩, (fun _ hq => absurd hq List.not_mem_nil)⟩)⟩) ?_
  intro p e s m args below meth c R H locs cells slots ls C hR hZ hl
  obtain ⟨hx, hb, hr, hml, hts, hown, hlocks, hmn, hK⟩ := id C
  unfold f_X9_hearReply at hf
  refine lv_aload_n (i := 0) hx hb dX9_hearReply_0 rfl (lv_at hl 0 rfl) ?_
  refine z_aload_n (i := 1) hx hb dX9_hearReply_1 rfl (lv_at hl 1 rfl) ?_
  have hf9 := Option.bind_eq_some_iff.mp hf; clear hf; obtain ⟨a1, ha1, hf⟩ := hf9
  subst ha1
  replace hl : lv_has ls 5 [(0, .ref this), (1, .ref a1)] := hl
  replace hZ : wd_Z E w R s w H locs cells slots [(some this, 10), (some a1, 1)] := hZ
  refine z_getI fd_2 rfl hx hb hts hown hK hZ (hZ.k 1 rfl rfl) tw_815 dX9_hearReply_2 ?_
  have hf9 := wd_b2_e hf; clear hf; obtain ⟨r4, w2, hc3, hf⟩ := hf9
  refine z_callV (ci := 9) (As := [.int (wd_I w 2 a1)]) (rest := []) (c_X9_hostWithMark l E n w this (wd_I w 2 a1) r4 w2 (hZ.k 0 rfl rfl) hc3) mo_X9_hostWithMark rfl (by decide) rfl tw_882 tw_19 tw_880 hx hb hml hts hown hK ⟨Nat.le_trans (by decide) hR.1, Nat.le_trans (by decide) hR.2⟩ hZ (hZ.k 0 rfl rfl) rfl hl.1 rfl (Nat.le_of_ble_eq_true rfl) rfl dX9_hearReply_5 ?_; clear hZ; intro H locs cells slots hX hZ
  replace hZ := hZ.add (Nat.succ_ne_zero _) hX
  refine z_astore_n (i := 2) (lv' := [(2, va_rf r4), (0, .ref this), (1, .ref a1)]) hx hb dX9_hearReply_8 rfl hl (by decide) rfl ?_; clear hl; intro ls hl
  refine z_aload_n (i := 2) hx hb dX9_hearReply_9 rfl (lv_at hl 0 rfl) ?_
  refine z_ifnonnull (tgt := 14) hx hb dX9_hearReply_10 (by decide) (fun a5 ha5 => ?_) (fun hn => ?_)
  · replace hf := wd_on_s ha5 hf
    subst ha5
    replace hl : lv_has ls 5 [(2, .ref a5), (0, .ref this), (1, .ref a1)] := hl
    replace hZ : wd_Z E w R s w2 H locs cells slots [(some a5, 3), (some this, 10), (some a1, 1)] := hZ
    refine lv_aload_n (i := 2) hx hb dX9_hearReply_14 rfl (lv_at hl 0 rfl) ?_
    refine lv_aload_n (i := 1) hx hb dX9_hearReply_15 rfl (lv_at hl 2 rfl) ?_
    refine z_getI fd_4 rfl hx hb hts hown hK hZ (hZ.k 2 rfl rfl) tw_821 dX9_hearReply_16 ?_
    refine lv_aload_n (i := 1) hx hb dX9_hearReply_19 rfl (lv_at hl 2 rfl) ?_
    refine z_getI fd_1 rfl hx hb hts hown hK hZ (hZ.k 2 rfl rfl) tw_812 dX9_hearReply_20 ?_
    have hf9 := Option.bind_eq_some_iff.mp hf; clear hf; obtain ⟨w6, hc7, hf⟩ := hf9
    refine z_callV (ci := 2) (As := [.int (wd_I w2 4 a1), .int (wd_I w2 1 a1)]) (rest := []) (c_X2_learn l E n w2 a5 (wd_I w2 4 a1) (wd_I w2 1 a1) w6 (hZ.k 0 rfl rfl) hc7) mo_X2_learn rfl (by decide) rfl tw_886 tw_887 tw_885 hx hb hml hts hown hK ⟨Nat.le_trans (by decide) hR.1, Nat.le_trans (by decide) hR.2⟩ hZ (hZ.k 0 rfl rfl) rfl hl.1 rfl (Nat.le_of_ble_eq_true rfl) rfl dX9_hearReply_23 ?_; clear hZ; intro H locs cells slots hX hZ
    refine lv_aload_n (i := 2) hx hb dX9_hearReply_26 rfl (lv_at hl 0 rfl) ?_
    have hf9 := wd_b2_e hf; clear hf; obtain ⟨r10, w8, hc9, hf⟩ := hf9
    refine z_callV (ci := 2) (As := []) (rest := []) (c_X2_takeWaiting l E n w6 a5 r10 w8 (hZ.k 0 rfl rfl) hc9) mo_X2_takeWaiting rfl (by decide) rfl tw_894 tw_895 tw_893 hx hb hml hts hown hK ⟨Nat.le_trans (by decide) hR.1, Nat.le_trans (by decide) hR.2⟩ hZ (hZ.k 0 rfl rfl) rfl hl.1 rfl (Nat.le_of_ble_eq_true rfl) rfl dX9_hearReply_27 ?_; clear hZ; intro H locs cells slots hX hZ
    replace hZ := hZ.add (Nat.succ_ne_zero _) hX
    refine z_astore_n (i := 3) (lv' := [(3, va_rf r10), (2, .ref a5), (0, .ref this), (1, .ref a1)]) hx hb dX9_hearReply_30 rfl hl (by decide) rfl ?_; clear hl; intro ls hl
    exact v_X9_hearReply_l31 n C hR n this (some a1) (some a5) r10 w8 _ _ _ _ _ ⟨hZ.1, hZ.2.1, hZ.2.2.1, hZ.2.2.2.1, (List.forall_mem_cons.mpr ⟨⟨Nat.succ_ne_zero _, (fun q hq => by cases hq; exact (hZ.k 2 rfl rfl))⟩, (List.forall_mem_cons.mpr ⟨⟨Nat.succ_ne_zero _, (fun q hq => by cases hq; exact (hZ.k 3 rfl rfl))⟩, (List.forall_mem_cons.mpr ⟨⟨Nat.succ_ne_zero _, (fun q hq => by cases hq; exact (hZ.k 1 rfl rfl))⟩, (List.forall_mem_cons.mpr ⟨⟨Nat.succ_ne_zero _, (fun q hq => hZ.k 0 rfl hq)⟩, (fun _ hq => absurd hq List.not_mem_nil)⟩)⟩)⟩)⟩), hZ.2.2.2.2.2⟩ (lv_sub hl [2, 3, 1, 0] rfl) hf
  · replace hf := wd_on_n hn hf
    subst hn
    replace hl : lv_has ls 5 [(2, va_rf none), (0, .ref this), (1, .ref a1)] := hl
    replace hZ : wd_Z E w R s w2 H locs cells slots [(none, 3), (some this, 10), (some a1, 1)] := hZ
    obtain rfl := Option.some.inj hf
    exact z_vret hx hb hr hlocks hZ trivial dX9_hearReply_13

def f_X9_come_j127 (n : Nat) (w : Wd) : Option (Option Nat × Wd) :=
  some (none, w)
def f_X9_come_l5 (n : Nat) (rec5 : Nat → Option Nat → Option Nat → Int32 → Wd → Option (Option Nat × Wd)) (x0 : Nat) (x1 : Option Nat) (x3 : Option Nat) (x4 : Int32) (w : Wd) : Option (Option Nat × Wd) :=
  wd_on x3 (
    f_X9_come_j127 n w)
    (fun a1 =>
    if (1000000 : Int32) ≤ x4 then
      f_X9_come_j127 n w
    else
      Option.bind x1 fun a3 =>
      Option.bind (wd_R w 200 a3) fun a4 =>
      wd_b2 (f_X3_owns n w a4 (wd_I w 402 a1)) fun r7 w5 =>
      if r7 = 0 then
        Option.bind (wd_R w5 200 a3) fun a22 =>
        if (wd_I w5 301 a22) = 0 then
          wd_let (wd_sI w5 204 a3 ((wd_I w5 204 a3) + (1 : Int32))) fun w30 =>
          some (none, w30)
        else
          wd_let (wd_sI w5 404 a1 ((wd_I w5 404 a1) - (1 : Int32))) fun w24 =>
          if (wd_I w24 404 a1) ≤ 0 then
            wd_b2 (f_X9_complain n w24 x0 (some a3) (some a1) (3 : Int32) (0 : Int32)) fun r29 w27 =>
            some (r29, w27)
          else
            some ((some a1), w24)
      else
        wd_b2 (f_X2_gather n w5 a3 (some a1)) fun r11 w9 =>
        wd_on r11 (
          some (none, w9))
          (fun a12 =>
          if (wd_I w9 400 a12) = (6 : Int32) then
            wd_b2 (f_X2_unwrap n w9 a3 (some a12)) fun r16 w14 =>
            wd_let (x4 + 1) fun v17 =>
            rec5 x0 (some a3) r16 v17 w14
          else
            wd_b2 (f_X9_accept n w9 x0 (some a3) (some a12)) fun r21 w19 =>
            some (r21, w19)))
def f_X9_come (n : Nat) (w : Wd) (this : Nat) (p0 : Option Nat) (p1 : Option Nat) : Option (Option Nat × Wd) :=
  wd_lp5 (f_X9_come_l5 n) n this p0 p1 (0 : Int32) w
set_option maxHeartbeats 4000000 in
set_option maxRecDepth 100000 in
theorem v_X9_come_j127 {p : Program} {l : Launch} {e : Env} {R : Room} {s : State} {m : MethodId} {args : Array Value} {below : List Frame} {meth : Method} {c : Code} {E : wd_E} {w0 : Wd} {r' : Option Nat} {w' : Wd} (n : Nat) (C : wd_X p s m args meth c cX9_come RX9 6 (some (.object "SeamarkNet$Packet")) "come" E) (hR : 5 ≤ R.frames ∧ 116 ≤ R.locals) (w : Wd) (H : Heap) (locs : List Loc) (cells slots : Nat) (ls : Array Slot) (hZ : wd_Z E w0 R s w H locs cells slots []) (hl : lv_has ls 6 []) (hf : f_X9_come_j127 n w = some (r', w')) : W p l e R s m args below meth c H locs cells slots (wd_fin E w0 (some (va_rf r')) w' (∀ q, r' = some q → wd_K w' q = 5) R args s below) (F0 m 127 ls []) := by
  obtain ⟨hx, hb, hr, hml, hts, hown, hlocks, hmn, hK⟩ := id C
  unfold f_X9_come_j127 at hf
  refine z_null hx hb dX9_come_127 ?_
  obtain ⟨rfl, rfl⟩ := Prod.mk.inj (Option.some.inj hf)
  exact z_aret rfl hx hb hr hlocks hZ (fun q hq => by cases hq) dX9_come_128

set_option maxHeartbeats 4000000 in
set_option maxRecDepth 100000 in
theorem v_X9_come_b5 {p : Program} {l : Launch} {e : Env} {R : Room} {s : State} {m : MethodId} {args : Array Value} {below : List Frame} {meth : Method} {c : Code} {E : wd_E} {w0 : Wd} {r' : Option Nat} {w' : Wd} (n : Nat) (C : wd_X p s m args meth c cX9_come RX9 6 (some (.object "SeamarkNet$Packet")) "come" E) (hR : 5 ≤ R.frames ∧ 116 ≤ R.locals) (rec5 : Nat → Option Nat → Option Nat → Int32 → Wd → Option (Option Nat × Wd)) (hrec5 : ∀ (x0_ : Nat) (x1_ : Option Nat) (x3_ : Option Nat) (x4_ : Int32) (w_ : Wd) (H : Heap) (locs : List Loc) (cells slots : Nat) (ls : Array Slot), wd_Z E w0 R s w_ H locs cells slots [(some x0_, 10), (x1_, 3), (x3_, 5)] → lv_has ls 6 [(0, .ref x0_), (1, va_rf x1_), (3, va_rf x3_), (4, .int x4_)] → rec5 x0_ x1_ x3_ x4_ w_ = some (r', w') → W p l e R s m args below meth c H locs cells slots (wd_fin E w0 (some (va_rf r')) w' (∀ q, r' = some q → wd_K w' q = 5) R args s below) (F0 m 5 ls [])) (x0 : Nat) (x1 : Option Nat) (x3 : Option Nat) (x4 : Int32) (w : Wd) (H : Heap) (locs : List Loc) (cells slots : Nat) (ls : Array Slot) (hZ : wd_Z E w0 R s w H locs cells slots [(some x0, 10), (x1, 3), (x3, 5)]) (hl : lv_has ls 6 [(0, .ref x0), (1, va_rf x1), (3, va_rf x3), (4, .int x4)]) (hf : f_X9_come_l5 n rec5 x0 x1 x3 x4 w = some (r', w')) : W p l e R s m args below meth c H locs cells slots (wd_fin E w0 (some (va_rf r')) w' (∀ q, r' = some q → wd_K w' q = 5) R args s below) (F0 m 5 ls []) := by
  obtain ⟨hx, hb, hr, hml, hts, hown, hlocks, hmn, hK⟩ := id C
  unfold f_X9_come_l5 at hf
  refine z_aload_n (i := 3) hx hb dX9_come_5 rfl (lv_at hl 2 rfl) ?_
  refine z_ifnull (tgt := 127) hx hb dX9_come_6 (by decide) (fun hn => ?_) (fun a1 ha1 => ?_)
  · replace hf := wd_on_n hn hf
    subst hn
    replace hl : lv_has ls 6 [(0, .ref x0), (1, va_rf x1), (3, va_rf none), (4, .int x4)] := hl
    replace hZ : wd_Z E w0 R s w H locs cells slots [(some x0, 10), (x1, 3), (none, 5)] := hZ
    exact v_X9_come_j127 n C hR w _ _ _ _ _ ⟨hZ.1, hZ.2.1, hZ.2.2.1, hZ.2.2.2.1, (fun _ hq => absurd hq List.not_mem_nil), hZ.2.2.2.2.2⟩ (lv_sub hl [] rfl) hf
  · replace hf := wd_on_s ha1 hf
    subst ha1
    replace hl : lv_has ls 6 [(0, .ref x0), (1, va_rf x1), (3, .ref a1), (4, .int x4)] := hl
    replace hZ : wd_Z E w0 R s w H locs cells slots [(some x0, 10), (x1, 3), (some a1, 5)] := hZ
    refine lv_iload hx hb dX9_come_9 (lv_at hl 3 rfl) ?_
    refine lv_ldc (v := 1000000) hx hb hown (hts _ tw_761) dX9_come_11 ?_
    refine lv_icmp_ge (tgt := 127) hx hb dX9_come_13 (by decide) (fun h2 => ?_) (fun h2 => ?_)
    · replace hf := wd_ite_p h2 hf
      exact v_X9_come_j127 n C hR w _ _ _ _ _ ⟨hZ.1, hZ.2.1, hZ.2.2.1, hZ.2.2.2.1, (fun _ hq => absurd hq List.not_mem_nil), hZ.2.2.2.2.2⟩ (lv_sub hl [] rfl) hf
    · replace hf := wd_ite_n h2 hf
      refine z_aload_n (i := 1) hx hb dX9_come_16 rfl (lv_at hl 1 rfl) ?_
      have hf9 := Option.bind_eq_some_iff.mp hf; clear hf; obtain ⟨a3, ha3, hf⟩ := hf9
      subst ha3
      replace hl : lv_has ls 6 [(0, .ref x0), (1, .ref a3), (3, .ref a1), (4, .int x4)] := hl
      replace hZ : wd_Z E w0 R s w H locs cells slots [(some x0, 10), (some a3, 3), (some a1, 5)] := hZ
      refine z_getR (tk := 3) fd_200 rfl hx hb hts hown hK hZ (hZ.k 1 rfl rfl) tw_206 dX9_come_17 ?_; clear hZ; intro hZ
      refine lv_aload_n (i := 3) hx hb dX9_come_20 rfl (lv_at hl 2 rfl) ?_
      refine z_getI fd_402 rfl hx hb hts hown hK hZ (hZ.k 3 rfl rfl) tw_688 dX9_come_21 ?_
      have hf9 := Option.bind_eq_some_iff.mp hf; clear hf; obtain ⟨a4, ha4, hf⟩ := hf9
      replace hZ := hZ.add (r := some a4) (k := 4) (Nat.succ_ne_zero _) (fun q hq => by cases hq; exact hZ.k 0 rfl ha4)
      rw [ha4]
      have hf9 := wd_b2_e hf; clear hf; obtain ⟨r7, w5, hc6, hf⟩ := hf9
      refine z_callV (ci := 3) (As := [.int (wd_I w 402 a1)]) (rest := []) (c_X3_owns l E n w a4 (wd_I w 402 a1) r7 w5 (hZ.k 0 rfl rfl) hc6) mo_X3_owns rfl (by decide) rfl tw_649 tw_650 tw_648 hx hb hml hts hown hK ⟨Nat.le_trans (by decide) hR.1, Nat.le_trans (by decide) hR.2⟩ hZ (hZ.k 0 rfl rfl) rfl hl.1 rfl (Nat.le_of_ble_eq_true rfl) rfl dX9_come_24 ?_; clear hZ; intro H locs cells slots hX hZ
      refine lv_if_ne (tgt := 82) hx hb dX9_come_27 (by decide) (fun h8 => ?_) (fun h8 => ?_)
      · replace hf := wd_ite_n h8 hf
        refine lv_aload_n (i := 1) hx hb dX9_come_82 rfl (lv_at hl 1 rfl) ?_
        refine lv_aload_n (i := 3) hx hb dX9_come_83 rfl (lv_at hl 2 rfl) ?_
        have hf9 := wd_b2_e hf; clear hf; obtain ⟨r11, w9, hc10, hf⟩ := hf9
        refine z_callV (ci := 2) (As := [va_rf (some a1)]) (rest := []) (c_X2_gather l E n w5 a3 (some a1) r11 w9 (hZ.k 3 rfl rfl) (fun q hq => by cases hq; exact (hZ.k 4 rfl rfl)) hc10) mo_X2_gather rfl (by decide) rfl tw_902 tw_903 tw_901 hx hb hml hts hown hK ⟨Nat.le_trans (by decide) hR.1, Nat.le_trans (by decide) hR.2⟩ hZ (hZ.k 3 rfl rfl) rfl hl.1 rfl (Nat.le_of_ble_eq_true rfl) rfl dX9_come_84 ?_; clear hZ; intro H locs cells slots hX hZ
        replace hZ := hZ.add (Nat.succ_ne_zero _) hX
        refine z_astore (i := 5) (lv' := [(5, va_rf r11), (0, .ref x0), (1, .ref a3), (3, .ref a1), (4, .int x4)]) hx hb dX9_come_87 hl (by decide) rfl ?_; clear hl; intro ls hl
        refine z_aload hx hb dX9_come_89 (lv_at hl 0 rfl) ?_
        refine z_ifnonnull (tgt := 96) hx hb dX9_come_91 (by decide) (fun a12 ha12 => ?_) (fun hn => ?_)
        · replace hf := wd_on_s ha12 hf
          subst ha12
          replace hl : lv_has ls 6 [(5, .ref a12), (0, .ref x0), (1, .ref a3), (3, .ref a1), (4, .int x4)] := hl
          replace hZ : wd_Z E w0 R s w9 H locs cells slots [(some a12, 5), (some a4, 4), ((wd_R w 200 a3), 4), (some x0, 10), (some a3, 3), (some a1, 5)] := hZ
          refine lv_aload hx hb dX9_come_96 (lv_at hl 0 rfl) ?_
          refine z_getI fd_400 rfl hx hb hts hown hK hZ (hZ.k 0 rfl rfl) tw_681 dX9_come_98 ?_
          refine lv_bipush (v := 6) hx hb dX9_come_101 (by decide) ?_
          refine lv_icmp_eq (tgt := 114) hx hb dX9_come_103 (by decide) (fun h13 => ?_) (fun h13 => ?_)
          · replace hf := wd_ite_p h13 hf
            refine lv_aload_n (i := 1) hx hb dX9_come_114 rfl (lv_at hl 2 rfl) ?_
            refine lv_aload hx hb dX9_come_115 (lv_at hl 0 rfl) ?_
            have hf9 := wd_b2_e hf; clear hf; obtain ⟨r16, w14, hc15, hf⟩ := hf9
            refine z_callV (ci := 2) (As := [va_rf (some a12)]) (rest := []) (c_X2_unwrap l E n w9 a3 (some a12) r16 w14 (hZ.k 4 rfl rfl) (fun q hq => by cases hq; exact (hZ.k 0 rfl rfl)) hc15) mo_X2_unwrap rfl (by decide) rfl tw_934 tw_935 tw_933 hx hb hml hts hown hK ⟨Nat.le_trans (by decide) hR.1, Nat.le_trans (by decide) hR.2⟩ hZ (hZ.k 4 rfl rfl) rfl hl.1 rfl (Nat.le_of_ble_eq_true rfl) rfl dX9_come_117 ?_; clear hZ; intro H locs cells slots hX hZ
            replace hZ := hZ.add (Nat.succ_ne_zero _) hX
            refine z_astore_n (i := 3) (lv' := [(3, va_rf r16), (5, .ref a12), (0, .ref x0), (1, .ref a3), (4, .int x4)]) hx hb dX9_come_120 rfl hl (by decide) rfl ?_; clear hl; intro ls hl
            have hf9 := wd_let_e hf; clear hf; obtain ⟨v17, e18, hf⟩ := hf9
            refine lv_iinc (k := 4) (v := v17) (lv' := [(4, .int v17), (3, va_rf r16), (5, .ref a12), (0, .ref x0), (1, .ref a3)]) hx hb dX9_come_121 hl rfl (by rw [← e18]; rfl) (by decide) (by simp [va_rf_cat, va_cat_r, va_cat_i, va_cat_l, va_cat_d]) ?_; clear hl; intro ls hl
            refine lv_goto (tgt := 5) hx hb dX9_come_124 (by decide) ?_
            exact hrec5 x0 (some a3) r16 v17 w14 _ _ _ _ _ ⟨hZ.1, hZ.2.1, hZ.2.2.1, hZ.2.2.2.1, (List.forall_mem_cons.mpr ⟨⟨Nat.succ_ne_zero _, (fun q hq => by cases hq; exact (hZ.k 4 rfl rfl))⟩, (List.forall_mem_cons.mpr ⟨⟨Nat.succ_ne_zero _, (fun q hq => by cases hq; exact (hZ.k 5 rfl rfl))⟩, (List.forall_mem_cons.mpr ⟨⟨Nat.succ_ne_zero _, (fun q hq => hZ.k 0 rfl hq)⟩, (fun _ hq => absurd hq List.not_mem_nil)⟩)⟩)⟩), hZ.2.2.2.2.2⟩ (lv_sub hl [3, 4, 1, 0] rfl) hf
          · replace hf := wd_ite_n h13 hf
            refine lv_aload_n (i := 0) hx hb dX9_come_106 rfl (lv_at hl 1 rfl) ?_
            refine lv_aload_n (i := 1) hx hb dX9_come_107 rfl (lv_at hl 2 rfl) ?_
            refine lv_aload hx hb dX9_come_108 (lv_at hl 0 rfl) ?_
            have hf9 := wd_b2_e hf; clear hf; obtain ⟨r21, w19, hc20, hf⟩ := hf9
            refine z_callV (ci := 9) (As := [va_rf (some a3), va_rf (some a12)]) (rest := []) (c_X9_accept l E n w9 x0 (some a3) (some a12) r21 w19 (hZ.k 3 rfl rfl) (fun q hq => by cases hq; exact (hZ.k 4 rfl rfl)) (fun q hq => by cases hq; exact (hZ.k 0 rfl rfl)) hc20) mo_X9_accept rfl (by decide) rfl tw_764 tw_12 tw_762 hx hb hml hts hown hK ⟨Nat.le_trans (by decide) hR.1, Nat.le_trans (by decide) hR.2⟩ hZ (hZ.k 3 rfl rfl) rfl hl.1 rfl (Nat.le_of_ble_eq_true rfl) rfl dX9_come_110 ?_; clear hZ; intro H locs cells slots hX hZ
            replace hZ := hZ.add (Nat.succ_ne_zero _) hX
            obtain ⟨rfl, rfl⟩ := Prod.mk.inj (Option.some.inj hf)
            exact z_aret rfl hx hb hr hlocks hZ (fun q hq => hZ.k 0 rfl hq) dX9_come_113
        · replace hf := wd_on_n hn hf
          subst hn
          replace hl : lv_has ls 6 [(5, va_rf none), (0, .ref x0), (1, .ref a3), (3, .ref a1), (4, .int x4)] := hl
          replace hZ : wd_Z E w0 R s w9 H locs cells slots [(none, 5), (some a4, 4), ((wd_R w 200 a3), 4), (some x0, 10), (some a3, 3), (some a1, 5)] := hZ
          refine z_null hx hb dX9_come_94 ?_
          obtain ⟨rfl, rfl⟩ := Prod.mk.inj (Option.some.inj hf)
          exact z_aret rfl hx hb hr hlocks hZ (fun q hq => by cases hq) dX9_come_95
      · replace hf := wd_ite_p h8 hf
        refine lv_aload_n (i := 1) hx hb dX9_come_30 rfl (lv_at hl 1 rfl) ?_
        refine z_getR (tk := 3) fd_200 rfl hx hb hts hown hK hZ (hZ.k 3 rfl rfl) tw_206 dX9_come_31 ?_; clear hZ; intro hZ
        have hf9 := Option.bind_eq_some_iff.mp hf; clear hf; obtain ⟨a22, ha22, hf⟩ := hf9
        replace hZ := hZ.add (r := some a22) (k := 4) (Nat.succ_ne_zero _) (fun q hq => by cases hq; exact hZ.k 0 rfl ha22)
        rw [ha22]
        refine z_getI fd_301 rfl hx hb hts hown hK hZ (hZ.k 0 rfl rfl) tw_78 dX9_come_34 ?_
        refine lv_if_ne (tgt := 52) hx hb dX9_come_37 (by decide) (fun h23 => ?_) (fun h23 => ?_)
        · replace hf := wd_ite_n h23 hf
          refine lv_aload_n (i := 3) hx hb dX9_come_52 rfl (lv_at hl 2 rfl) ?_
          refine lv_dup hx hb dX9_come_53 rfl ?_
          refine z_getI fd_404 rfl hx hb hts hown hK hZ (hZ.k 6 rfl rfl) tw_695 dX9_come_54 ?_
          refine lv_iconst (v := 1) hx hb dX9_come_57 (by decide) ?_
          refine lv_isub hx hb dX9_come_58 ?_
          refine z_putI fd_404 cok_4 rfl rfl rfl rfl rfl hx hb hts hown hK hZ (hZ.k 6 rfl rfl) tw_695 dX9_come_59 ?_; clear hZ; intro H locs hZ
          have hf9 := wd_let_e hf; clear hf; obtain ⟨w24, e25, hf⟩ := hf9
          rw [e25] at hZ
          refine lv_aload_n (i := 3) hx hb dX9_come_62 rfl (lv_at hl 2 rfl) ?_
          refine z_getI fd_404 rfl hx hb hts hown hK hZ (hZ.k 6 rfl rfl) tw_695 dX9_come_63 ?_
          refine lv_if_le (tgt := 73) hx hb dX9_come_66 (by decide) (fun h26 => ?_) (fun h26 => ?_)
          · replace hf := wd_ite_p h26 hf
            refine lv_aload_n (i := 0) hx hb dX9_come_73 rfl (lv_at hl 0 rfl) ?_
            refine lv_aload_n (i := 1) hx hb dX9_come_74 rfl (lv_at hl 1 rfl) ?_
            refine lv_aload_n (i := 3) hx hb dX9_come_75 rfl (lv_at hl 2 rfl) ?_
            refine lv_iconst (v := 3) hx hb dX9_come_76 (by decide) ?_
            refine lv_iconst (v := 0) hx hb dX9_come_77 (by decide) ?_
            have hf9 := wd_b2_e hf; clear hf; obtain ⟨r29, w27, hc28, hf⟩ := hf9
            refine z_callV (ci := 9) (As := [va_rf (some a3), va_rf (some a1), .int (3 : Int32), .int (0 : Int32)]) (rest := []) (c_X9_complain l E n w24 x0 (some a3) (some a1) (3 : Int32) (0 : Int32) r29 w27 (hZ.k 4 rfl rfl) (fun q hq => by cases hq; exact (hZ.k 5 rfl rfl)) (fun q hq => by cases hq; exact (hZ.k 6 rfl rfl)) hc28) mo_X9_complain rfl (by decide) rfl tw_779 tw_14 tw_777 hx hb hml hts hown hK ⟨Nat.le_trans (by decide) hR.1, Nat.le_trans (by decide) hR.2⟩ hZ (hZ.k 4 rfl rfl) rfl hl.1 rfl (Nat.le_of_ble_eq_true rfl) rfl dX9_come_78 ?_; clear hZ; intro H locs cells slots hX hZ
            replace hZ := hZ.add (Nat.succ_ne_zero _) hX
            obtain ⟨rfl, rfl⟩ := Prod.mk.inj (Option.some.inj hf)
            exact z_aret rfl hx hb hr hlocks hZ (fun q hq => hZ.k 0 rfl hq) dX9_come_81
          · replace hf := wd_ite_n h26 hf
            refine lv_aload_n (i := 3) hx hb dX9_come_69 rfl (lv_at hl 2 rfl) ?_
            refine lv_goto (tgt := 81) hx hb dX9_come_70 (by decide) ?_
            obtain ⟨rfl, rfl⟩ := Prod.mk.inj (Option.some.inj hf)
            exact z_aret rfl hx hb hr hlocks hZ (fun q hq => by cases hq; exact (hZ.k 6 rfl rfl)) dX9_come_81
        · replace hf := wd_ite_p h23 hf
          refine lv_aload_n (i := 1) hx hb dX9_come_40 rfl (lv_at hl 1 rfl) ?_
          refine lv_dup hx hb dX9_come_41 rfl ?_
          refine z_getI fd_204 rfl hx hb hts hown hK hZ (hZ.k 5 rfl rfl) tw_216 dX9_come_42 ?_
          refine lv_iconst (v := 1) hx hb dX9_come_45 (by decide) ?_
          refine lv_iadd hx hb dX9_come_46 ?_
          refine z_putI fd_204 cok_2 rfl rfl rfl rfl rfl hx hb hts hown hK hZ (hZ.k 5 rfl rfl) tw_216 dX9_come_47 ?_; clear hZ; intro H locs hZ
          have hf9 := wd_let_e hf; clear hf; obtain ⟨w30, e31, hf⟩ := hf9
          rw [e31] at hZ
          refine z_null hx hb dX9_come_50 ?_
          obtain ⟨rfl, rfl⟩ := Prod.mk.inj (Option.some.inj hf)
          exact z_aret rfl hx hb hr hlocks hZ (fun q hq => by cases hq) dX9_come_51

theorem v_X9_come_l5 {p : Program} {l : Launch} {e : Env} {R : Room} {s : State} {m : MethodId} {args : Array Value} {below : List Frame} {meth : Method} {c : Code} {E : wd_E} {w0 : Wd} {r' : Option Nat} {w' : Wd} (n : Nat) (C : wd_X p s m args meth c cX9_come RX9 6 (some (.object "SeamarkNet$Packet")) "come" E) (hR : 5 ≤ R.frames ∧ 116 ≤ R.locals) : ∀ (k : Nat) (x0 : Nat) (x1 : Option Nat) (x3 : Option Nat) (x4 : Int32) (w : Wd) (H : Heap) (locs : List Loc) (cells slots : Nat) (ls : Array Slot), wd_Z E w0 R s w H locs cells slots [(some x0, 10), (x1, 3), (x3, 5)] → lv_has ls 6 [(0, .ref x0), (1, va_rf x1), (3, va_rf x3), (4, .int x4)] → wd_lp5 (f_X9_come_l5 n) k x0 x1 x3 x4 w = some (r', w') → W p l e R s m args below meth c H locs cells slots (wd_fin E w0 (some (va_rf r')) w' (∀ q, r' = some q → wd_K w' q = 5) R args s below) (F0 m 5 ls []) := by
  intro k
  induction k with
  | zero => intro _ _ _ _ _ _ _ _ _ _ _ _ hf; cases hf
  | succ k ih =>
    intro x0 x1 x3 x4 w H locs cells slots ls hZ hl hf
    exact v_X9_come_b5 n C hR (wd_lp5 (f_X9_come_l5 n) k) ih x0 x1 x3 x4 w H locs cells slots ls hZ hl hf

set_option maxHeartbeats 4000000 in
set_option maxRecDepth 100000 in
theorem c_X9_come (l : Launch) (E : wd_E) (n : Nat) (w : Wd) (this : Nat) (p0 : Option Nat) (p1 : Option Nat) (r' : Option Nat) (w' : Wd) (k_this : wd_K w this = 10) (k_p0 : ∀ q, p0 = some q → wd_K w q = 3) (k_p1 : ∀ q, p1 = some q → wd_K w q = 5) (hf : f_X9_come n w this p0 p1 = some (r', w')) : wd_C l E yX9_come cX9_come 6 (some (.object "SeamarkNet$Packet")) 5 116 [.ref this, va_rf p0, va_rf p1] w (some (va_rf r')) w' (∀ q, r' = some q → wd_K w' q = 5) := by
  refine wd_ofW (own := RX9) (nm := "come") (ks := [(some this, 10), (p0, 3), (p1, 5)]) (lv := [(0, .ref this), (1, va_rf p0), (2, va_rf p1)]) (by decide) rfl rfl (by simp [lg_sl, va_rf_cat, va_cat_r, va_cat_i, va_cat_l, va_cat_d]) (by simp [lv_args, va_rf_cat, va_cat_r, va_cat_i, va_cat_l, va_cat_d]) (List.forall_mem_cons.mpr ⟨⟨Nat.succ_ne_zero _, fun q hq => by cases hq; exact k_this⟩, (List.forall_mem_cons.mpr ⟨⟨Nat.succ_ne_zero _, k_p0⟩, (List.forall_mem_cons.mpr ⟨⟨Nat.succ_ne_zero _, k_p1⟩, (fun _ hq => absurd hq List.not_mem_nil)⟩)⟩)⟩) ?_
  intro p e s m args below meth c R H locs cells slots ls C hR hZ hl
  obtain ⟨hx, hb, hr, hml, hts, hown, hlocks, hmn, hK⟩ := id C
  unfold f_X9_come at hf
  refine z_aload_n (i := 2) hx hb dX9_come_0 rfl (lv_at hl 2 rfl) ?_
  refine z_astore_n (i := 3) (lv' := [(3, va_rf p1), (0, .ref this), (1, va_rf p0), (2, va_rf p1)]) hx hb dX9_come_1 rfl hl (by decide) (by simp [va_rf_cat, va_cat_r, va_cat_i, va_cat_l, va_cat_d]) ?_; clear hl; intro ls hl
  refine lv_iconst (v := 0) hx hb dX9_come_2 (by decide) ?_
  refine lv_istore (i := 4) (lv' := [(4, .int (0 : Int32)), (3, va_rf p1), (0, .ref this), (1, va_rf p0), (2, va_rf p1)]) hx hb dX9_come_3 hl (by decide) (by simp [va_rf_cat, va_cat_r, va_cat_i, va_cat_l, va_cat_d]) ?_; clear hl; intro ls hl
  exact v_X9_come_l5 n C hR n this p0 p1 (0 : Int32) w _ _ _ _ _ ⟨hZ.1, hZ.2.1, hZ.2.2.1, hZ.2.2.2.1, (List.forall_mem_cons.mpr ⟨⟨Nat.succ_ne_zero _, (fun q hq => by cases hq; exact (hZ.k 0 rfl rfl))⟩, (List.forall_mem_cons.mpr ⟨⟨Nat.succ_ne_zero _, (fun q hq => hZ.k 1 rfl hq)⟩, (List.forall_mem_cons.mpr ⟨⟨Nat.succ_ne_zero _, (fun q hq => hZ.k 2 rfl hq)⟩, (fun _ hq => absurd hq List.not_mem_nil)⟩)⟩)⟩), hZ.2.2.2.2.2⟩ (lv_sub hl [2, 3, 1, 0] rfl) hf

