/-! ===== meanings and contracts, laid by wip/p33/gen ===== -/
def f_L_areMachinesRight_j36 (n : Nat) (w : Wd) : Option (Int32 × Wd) :=
  some ((0 : Int32), w)
def f_L_areMachinesRight_j67 (n : Nat) (w : Wd) : Option (Int32 × Wd) :=
  some ((0 : Int32), w)
def f_L_areMachinesRight_j307 (n : Nat) (w : Wd) : Option (Int32 × Wd) :=
  some ((0 : Int32), w)
def f_L_areMachinesRight_j309 (n : Nat) (rec40 : Option Nat → Option Nat → Int32 → Wd → Option (Int32 × Wd)) (rec170 : Option Nat → Option Nat → Int32 → Int32 → Wd → Option (Int32 × Wd)) (x0 : Option Nat) (x1 : Option Nat) (x2 : Int32) (x3 : Int32) (w : Wd) : Option (Int32 × Wd) :=
  wd_let (x3 + 1) fun v86 =>
  rec170 x0 x1 x2 v86 w
def f_L_areMachinesRight_j304 (n : Nat) (rec40 : Option Nat → Option Nat → Int32 → Wd → Option (Int32 × Wd)) (rec170 : Option Nat → Option Nat → Int32 → Int32 → Wd → Option (Int32 × Wd)) (y0 : Int32) (y1 : Int32) (x0 : Option Nat) (x1 : Option Nat) (x2 : Int32) (x3 : Int32) (w : Wd) : Option (Int32 × Wd) :=
  if y1 = y0 then
    f_L_areMachinesRight_j309 n rec40 rec170 x0 x1 x2 x3 w
  else
    f_L_areMachinesRight_j307 n w
def f_L_areMachinesRight_j284 (n : Nat) (rec40 : Option Nat → Option Nat → Int32 → Wd → Option (Int32 × Wd)) (rec170 : Option Nat → Option Nat → Int32 → Int32 → Wd → Option (Int32 × Wd)) (y0 : Int32) (x0 : Option Nat) (x1 : Option Nat) (x2 : Int32) (x3 : Int32) (w : Wd) : Option (Int32 × Wd) :=
  Option.bind x1 fun a76 =>
  wd_gd (x3 < 0 ∨ wd_N w a76 ≤ x3.toNatClampNeg) <|
  Option.bind (wd_Q w a76 x3.toNatClampNeg) fun a78 =>
  wd_gd ((1 : Int32) < 0 ∨ wd_N w a78 ≤ (1 : Int32).toNatClampNeg) <|
  Option.bind x0 fun a80 =>
  wd_b2 (f_X11_way n w a80 x2 (wd_A w a78 (1 : Int32).toNatClampNeg) (1 : Int32)) fun r83 w81 =>
  if r83 = (-1 : Int32) then
    f_L_areMachinesRight_j304 n rec40 rec170 (1 : Int32) y0 (some a80) (some a76) x2 x3 w81
  else
    f_L_areMachinesRight_j304 n rec40 rec170 (0 : Int32) y0 (some a80) (some a76) x2 x3 w81
def f_L_areMachinesRight_j270 (n : Nat) (rec40 : Option Nat → Option Nat → Int32 → Wd → Option (Int32 × Wd)) (rec170 : Option Nat → Option Nat → Int32 → Int32 → Wd → Option (Int32 × Wd)) (y0 : Int32) (y1 : Int32) (x0 : Option Nat) (x1 : Option Nat) (x2 : Int32) (x3 : Int32) (x5 : Int32) (w : Wd) : Option (Int32 × Wd) :=
  if y1 = y0 then
    if x5 = (-1 : Int32) then
      f_L_areMachinesRight_j284 n rec40 rec170 (1 : Int32) x0 x1 x2 x3 w
    else
      f_L_areMachinesRight_j284 n rec40 rec170 (0 : Int32) x0 x1 x2 x3 w
  else
    f_L_areMachinesRight_j307 n w
def f_L_areMachinesRight_j250 (n : Nat) (rec40 : Option Nat → Option Nat → Int32 → Wd → Option (Int32 × Wd)) (rec170 : Option Nat → Option Nat → Int32 → Int32 → Wd → Option (Int32 × Wd)) (y0 : Int32) (x0 : Option Nat) (x1 : Option Nat) (x2 : Int32) (x3 : Int32) (x5 : Int32) (w : Wd) : Option (Int32 × Wd) :=
  Option.bind x1 fun a65 =>
  wd_gd (x3 < 0 ∨ wd_N w a65 ≤ x3.toNatClampNeg) <|
  Option.bind (wd_Q w a65 x3.toNatClampNeg) fun a67 =>
  wd_gd ((1 : Int32) < 0 ∨ wd_N w a67 ≤ (1 : Int32).toNatClampNeg) <|
  Option.bind x0 fun a69 =>
  wd_b2 (f_X11_way n w a69 x2 (wd_A w a67 (1 : Int32).toNatClampNeg) (2 : Int32)) fun r72 w70 =>
  if r72 = (-1 : Int32) then
    f_L_areMachinesRight_j270 n rec40 rec170 (1 : Int32) y0 (some a69) (some a65) x2 x3 x5 w70
  else
    f_L_areMachinesRight_j270 n rec40 rec170 (0 : Int32) y0 (some a69) (some a65) x2 x3 x5 w70
def f_L_areMachinesRight_j213 (n : Nat) (rec40 : Option Nat → Option Nat → Int32 → Wd → Option (Int32 × Wd)) (rec170 : Option Nat → Option Nat → Int32 → Int32 → Wd → Option (Int32 × Wd)) (x0 : Option Nat) (x1 : Option Nat) (x2 : Int32) (x3 : Int32) (w : Wd) : Option (Int32 × Wd) :=
  Option.bind x1 fun a54 =>
  wd_gd (x3 < 0 ∨ wd_N w a54 ≤ x3.toNatClampNeg) <|
  Option.bind (wd_Q w a54 x3.toNatClampNeg) fun a56 =>
  wd_gd ((1 : Int32) < 0 ∨ wd_N w a56 ≤ (1 : Int32).toNatClampNeg) <|
  Option.bind x0 fun a58 =>
  wd_b2 (f_X11_way n w a58 x2 (wd_A w a56 (1 : Int32).toNatClampNeg) (0 : Int32)) fun r61 w59 =>
  if r61 < (-2 : Int32) then
    f_L_areMachinesRight_j307 n w59
  else
    if (3 : Int32) < r61 then
      f_L_areMachinesRight_j307 n w59
    else
      if r61 = (-1 : Int32) then
        f_L_areMachinesRight_j250 n rec40 rec170 (1 : Int32) (some a58) (some a54) x2 x3 r61 w59
      else
        f_L_areMachinesRight_j250 n rec40 rec170 (0 : Int32) (some a58) (some a54) x2 x3 r61 w59
def f_L_areMachinesRight_l170 (n : Nat) (rec40 : Option Nat → Option Nat → Int32 → Wd → Option (Int32 × Wd)) (rec170 : Option Nat → Option Nat → Int32 → Int32 → Wd → Option (Int32 × Wd)) (x0 : Option Nat) (x1 : Option Nat) (x2 : Int32) (x3 : Int32) (w : Wd) : Option (Int32 × Wd) :=
  if (32 : Int32) ≤ x3 then
    wd_let (x2 + 1) fun v39 =>
    rec40 x0 x1 v39 w
  else
    Option.bind x1 fun a41 =>
    wd_gd (x3 < 0 ∨ wd_N w a41 ≤ x3.toNatClampNeg) <|
    Option.bind (wd_Q w a41 x3.toNatClampNeg) fun a43 =>
    wd_gd ((1 : Int32) < 0 ∨ wd_N w a43 ≤ (1 : Int32).toNatClampNeg) <|
    if 0 ≤ (wd_A w a43 (1 : Int32).toNatClampNeg) then
      wd_gd (x3 < 0 ∨ wd_N w a41 ≤ x3.toNatClampNeg) <|
      Option.bind (wd_Q w a41 x3.toNatClampNeg) fun a47 =>
      wd_gd ((1 : Int32) < 0 ∨ wd_N w a47 ≤ (1 : Int32).toNatClampNeg) <|
      Option.bind x0 fun a49 =>
      wd_b2 (f_X11_knows n w a49 x2 (wd_A w a47 (1 : Int32).toNatClampNeg)) fun r52 w50 =>
      if r52 = (-1 : Int32) then
        f_L_areMachinesRight_j213 n rec40 rec170 (some a49) (some a41) x2 x3 w50
      else
        if r52 = x3 then
          f_L_areMachinesRight_j213 n rec40 rec170 (some a49) (some a41) x2 x3 w50
        else
          some ((0 : Int32), w50)
    else
      f_L_areMachinesRight_j309 n rec40 rec170 x0 (some a41) x2 x3 w
def f_L_areMachinesRight_j160 (n : Nat) (w : Wd) : Option (Int32 × Wd) :=
  some ((0 : Int32), w)
def f_L_areMachinesRight_j162 (n : Nat) (rec40 : Option Nat → Option Nat → Int32 → Wd → Option (Int32 × Wd)) (rec71 : Option Nat → Option Nat → Int32 → Int32 → Wd → Option (Int32 × Wd)) (x0 : Option Nat) (x1 : Option Nat) (x2 : Int32) (x3 : Int32) (w : Wd) : Option (Int32 × Wd) :=
  wd_let (x3 + 1) fun v108 =>
  rec71 x0 x1 x2 v108 w
def f_L_areMachinesRight_l71 (n : Nat) (rec40 : Option Nat → Option Nat → Int32 → Wd → Option (Int32 × Wd)) (rec71 : Option Nat → Option Nat → Int32 → Int32 → Wd → Option (Int32 × Wd)) (x0 : Option Nat) (x1 : Option Nat) (x2 : Int32) (x3 : Int32) (w : Wd) : Option (Int32 × Wd) :=
  Option.bind x0 fun a33 =>
  wd_b2 (f_X11_noted n w a33 x2) fun r36 w34 =>
  if (if r36 < (10 : Int32) then r36 else (10 : Int32)) ≤ x3 then
    wd_lp5 (f_L_areMachinesRight_l170 n rec40) n (some a33) x1 x2 (0 : Int32) w34
  else
    wd_b2 (f_X11_note n w34 a33 x2 x3 (0 : Int32)) fun r91 w89 =>
    if r91 = (1 : Int32) then
      f_L_areMachinesRight_j160 n w89
    else
      if r91 = (6 : Int32) then
        f_L_areMachinesRight_j160 n w89
      else
        if r91 < 0 then
          f_L_areMachinesRight_j160 n w89
        else
          if (6 : Int32) < r91 then
            f_L_areMachinesRight_j160 n w89
          else
            wd_b2 (f_X11_note n w89 a33 x2 x3 (3 : Int32)) fun r98 w96 =>
            if r98 < (1 : Int32) then
              f_L_areMachinesRight_j160 n w96
            else
              wd_b2 (f_X11_note n w96 a33 x2 x3 (4 : Int32)) fun r102 w100 =>
              wd_b2 (f_X11_packets n w100 a33) fun r105 w103 =>
              if r105 ≤ r102 then
                f_L_areMachinesRight_j160 n w103
              else
                if r91 ≤ (2 : Int32) then
                  f_L_areMachinesRight_j162 n rec40 rec71 (some a33) x1 x2 x3 w103
                else
                  wd_b2 (f_X11_note n w103 a33 x2 x3 (2 : Int32)) fun r112 w110 =>
                  if r112 = 0 then
                    f_L_areMachinesRight_j162 n rec40 rec71 (some a33) x1 x2 x3 w110
                  else
                    f_L_areMachinesRight_j160 n w110
def f_L_areMachinesRight_l40 (n : Nat) (rec40 : Option Nat → Option Nat → Int32 → Wd → Option (Int32 × Wd)) (x0 : Option Nat) (x1 : Option Nat) (x2 : Int32) (w : Wd) : Option (Int32 × Wd) :=
  Option.bind x0 fun a20 =>
  wd_b2 (f_X11_machines n w a20) fun r23 w21 =>
  if r23 ≤ x2 then
    some ((1 : Int32), w21)
  else
    wd_b2 (f_X11_waiting n w21 a20 x2) fun r27 w25 =>
    if (6 : Int32) < r27 then
      f_L_areMachinesRight_j67 n w25
    else
      wd_b2 (f_X11_heaps n w25 a20 x2) fun r31 w29 =>
      if r31 ≤ (3 : Int32) then
        wd_lp5 (f_L_areMachinesRight_l71 n rec40) n (some a20) x1 x2 (0 : Int32) w29
      else
        f_L_areMachinesRight_j67 n w29
def f_L_areMachinesRight (n : Nat) (w : Wd) (p0 : Option Nat) (p1 : Option Nat) : Option (Int32 × Wd) :=
  Option.bind p0 fun a1 =>
  wd_b2 (f_X11_steps n w a1) fun r4 w2 =>
  wd_b2 (f_X11_carried n w2 a1 (0 : Int32)) fun r7 w5 =>
  wd_b2 (f_X11_carried n w5 a1 (1 : Int32)) fun r10 w8 =>
  if r4 = (r7 + r10) then
    wd_b2 (f_X11_use n w8 a1) fun r14 w12 =>
    if (Op.cmpValue (FP.dcmp r14 FP.dconst0) .g) < 0 then
      f_L_areMachinesRight_j36 n w12
    else
      wd_b2 (f_X11_use n w12 a1) fun r18 w16 =>
      if (Op.cmpValue (FP.dcmp r18 FP.dconst1) .l) ≤ 0 then
        wd_lp4 (f_L_areMachinesRight_l40 n) n (some a1) p1 (0 : Int32) w16
      else
        f_L_areMachinesRight_j36 n w16
  else
    f_L_areMachinesRight_j36 n w8
set_option maxHeartbeats 4000000 in
set_option maxRecDepth 100000 in
theorem v_L_areMachinesRight_j36 {p : Program} {l : Launch} {e : Env} {R : Room} {s : State} {m : MethodId} {args : Array Value} {below : List Frame} {meth : Method} {c : Code} {E : wd_E} {w0 : Wd} {r' : Int32} {w' : Wd} (n : Nat) (C : wd_X p s m args meth c cL_areMachinesRight RL 6 (some .boolean) "areMachinesRight" E) (hR : 3 ≤ R.frames ∧ 67 ≤ R.locals) (w : Wd) (H : Heap) (locs : List Loc) (cells slots : Nat) (ls : Array Slot) (hZ : wd_Z E w0 R s w H locs cells slots []) (hl : lv_has ls 6 []) (hf : f_L_areMachinesRight_j36 n w = some (r', w')) : W p l e R s m args below meth c H locs cells slots (wd_fin E w0 (some (.int r')) w' True R args s below) (F0 m 36 ls []) := by
  obtain ⟨hx, hb, hr, hml, hts, hown, hlocks, hmn, hK⟩ := id C
  unfold f_L_areMachinesRight_j36 at hf
  refine lv_iconst (v := 0) hx hb dL_areMachinesRight_36 (by decide) ?_
  obtain ⟨rfl, rfl⟩ := Prod.mk.inj (Option.some.inj hf)
  exact z_zret (by decide) hx hb hr hlocks hZ trivial dL_areMachinesRight_37

set_option maxHeartbeats 4000000 in
set_option maxRecDepth 100000 in
theorem v_L_areMachinesRight_j67 {p : Program} {l : Launch} {e : Env} {R : Room} {s : State} {m : MethodId} {args : Array Value} {below : List Frame} {meth : Method} {c : Code} {E : wd_E} {w0 : Wd} {r' : Int32} {w' : Wd} (n : Nat) (C : wd_X p s m args meth c cL_areMachinesRight RL 6 (some .boolean) "areMachinesRight" E) (hR : 3 ≤ R.frames ∧ 67 ≤ R.locals) (w : Wd) (H : Heap) (locs : List Loc) (cells slots : Nat) (ls : Array Slot) (hZ : wd_Z E w0 R s w H locs cells slots []) (hl : lv_has ls 6 []) (hf : f_L_areMachinesRight_j67 n w = some (r', w')) : W p l e R s m args below meth c H locs cells slots (wd_fin E w0 (some (.int r')) w' True R args s below) (F0 m 67 ls []) := by
  obtain ⟨hx, hb, hr, hml, hts, hown, hlocks, hmn, hK⟩ := id C
  unfold f_L_areMachinesRight_j67 at hf
  refine lv_iconst (v := 0) hx hb dL_areMachinesRight_67 (by decide) ?_
  obtain ⟨rfl, rfl⟩ := Prod.mk.inj (Option.some.inj hf)
  exact z_zret (by decide) hx hb hr hlocks hZ trivial dL_areMachinesRight_68

set_option maxHeartbeats 4000000 in
set_option maxRecDepth 100000 in
theorem v_L_areMachinesRight_j307 {p : Program} {l : Launch} {e : Env} {R : Room} {s : State} {m : MethodId} {args : Array Value} {below : List Frame} {meth : Method} {c : Code} {E : wd_E} {w0 : Wd} {r' : Int32} {w' : Wd} (n : Nat) (C : wd_X p s m args meth c cL_areMachinesRight RL 6 (some .boolean) "areMachinesRight" E) (hR : 3 ≤ R.frames ∧ 67 ≤ R.locals) (w : Wd) (H : Heap) (locs : List Loc) (cells slots : Nat) (ls : Array Slot) (hZ : wd_Z E w0 R s w H locs cells slots []) (hl : lv_has ls 6 []) (hf : f_L_areMachinesRight_j307 n w = some (r', w')) : W p l e R s m args below meth c H locs cells slots (wd_fin E w0 (some (.int r')) w' True R args s below) (F0 m 307 ls []) := by
  obtain ⟨hx, hb, hr, hml, hts, hown, hlocks, hmn, hK⟩ := id C
  unfold f_L_areMachinesRight_j307 at hf
  refine lv_iconst (v := 0) hx hb dL_areMachinesRight_307 (by decide) ?_
  obtain ⟨rfl, rfl⟩ := Prod.mk.inj (Option.some.inj hf)
  exact z_zret (by decide) hx hb hr hlocks hZ trivial dL_areMachinesRight_308

set_option maxHeartbeats 4000000 in
set_option maxRecDepth 100000 in
theorem v_L_areMachinesRight_j309 {p : Program} {l : Launch} {e : Env} {R : Room} {s : State} {m : MethodId} {args : Array Value} {below : List Frame} {meth : Method} {c : Code} {E : wd_E} {w0 : Wd} {r' : Int32} {w' : Wd} (n : Nat) (C : wd_X p s m args meth c cL_areMachinesRight RL 6 (some .boolean) "areMachinesRight" E) (hR : 3 ≤ R.frames ∧ 67 ≤ R.locals) (rec40 : Option Nat → Option Nat → Int32 → Wd → Option (Int32 × Wd)) (hrec40 : ∀ (x0_ : Option Nat) (x1_ : Option Nat) (x2_ : Int32) (w_ : Wd) (H : Heap) (locs : List Loc) (cells slots : Nat) (ls : Array Slot), wd_Z E w0 R s w_ H locs cells slots [(x0_, 12), (x1_, 26)] → lv_has ls 6 [(0, va_rf x0_), (1, va_rf x1_), (2, .int x2_)] → rec40 x0_ x1_ x2_ w_ = some (r', w') → W p l e R s m args below meth c H locs cells slots (wd_fin E w0 (some (.int r')) w' True R args s below) (F0 m 40 ls [])) (rec170 : Option Nat → Option Nat → Int32 → Int32 → Wd → Option (Int32 × Wd)) (hrec170 : ∀ (x0_ : Option Nat) (x1_ : Option Nat) (x2_ : Int32) (x3_ : Int32) (w_ : Wd) (H : Heap) (locs : List Loc) (cells slots : Nat) (ls : Array Slot), wd_Z E w0 R s w_ H locs cells slots [(x0_, 12), (x1_, 26)] → lv_has ls 6 [(0, va_rf x0_), (1, va_rf x1_), (2, .int x2_), (3, .int x3_)] → rec170 x0_ x1_ x2_ x3_ w_ = some (r', w') → W p l e R s m args below meth c H locs cells slots (wd_fin E w0 (some (.int r')) w' True R args s below) (F0 m 170 ls [])) (x0 : Option Nat) (x1 : Option Nat) (x2 : Int32) (x3 : Int32) (w : Wd) (H : Heap) (locs : List Loc) (cells slots : Nat) (ls : Array Slot) (hZ : wd_Z E w0 R s w H locs cells slots [(x0, 12), (x1, 26)]) (hl : lv_has ls 6 [(0, va_rf x0), (1, va_rf x1), (2, .int x2), (3, .int x3)]) (hf : f_L_areMachinesRight_j309 n rec40 rec170 x0 x1 x2 x3 w = some (r', w')) : W p l e R s m args below meth c H locs cells slots (wd_fin E w0 (some (.int r')) w' True R args s below) (F0 m 309 ls []) := by
  obtain ⟨hx, hb, hr, hml, hts, hown, hlocks, hmn, hK⟩ := id C
  unfold f_L_areMachinesRight_j309 at hf
  have hf9 := wd_let_e hf; clear hf; obtain ⟨v86, e87, hf⟩ := hf9
  refine lv_iinc (k := 3) (v := v86) (lv' := [(3, .int v86), (0, va_rf x0), (1, va_rf x1), (2, .int x2)]) hx hb dL_areMachinesRight_309 hl rfl (by rw [← e87]; rfl) (by decide) rfl ?_; clear hl; intro ls hl
  refine lv_goto (tgt := 170) hx hb dL_areMachinesRight_312 (by decide) ?_
  exact hrec170 x0 x1 x2 v86 w _ _ _ _ _ ⟨hZ.1, hZ.2.1, hZ.2.2.1, hZ.2.2.2.1, (List.forall_mem_cons.mpr ⟨⟨Nat.succ_ne_zero _, (fun q hq => hZ.k 0 rfl hq)⟩, (List.forall_mem_cons.mpr ⟨⟨Nat.succ_ne_zero _, (fun q hq => hZ.k 1 rfl hq)⟩, (fun _ hq => absurd hq List.not_mem_nil)⟩)⟩), hZ.2.2.2.2.2⟩ (lv_sub hl [1, 2, 3, 0] rfl) hf

set_option maxHeartbeats 4000000 in
set_option maxRecDepth 100000 in
theorem v_L_areMachinesRight_j304 {p : Program} {l : Launch} {e : Env} {R : Room} {s : State} {m : MethodId} {args : Array Value} {below : List Frame} {meth : Method} {c : Code} {E : wd_E} {w0 : Wd} {r' : Int32} {w' : Wd} (n : Nat) (C : wd_X p s m args meth c cL_areMachinesRight RL 6 (some .boolean) "areMachinesRight" E) (hR : 3 ≤ R.frames ∧ 67 ≤ R.locals) (rec40 : Option Nat → Option Nat → Int32 → Wd → Option (Int32 × Wd)) (hrec40 : ∀ (x0_ : Option Nat) (x1_ : Option Nat) (x2_ : Int32) (w_ : Wd) (H : Heap) (locs : List Loc) (cells slots : Nat) (ls : Array Slot), wd_Z E w0 R s w_ H locs cells slots [(x0_, 12), (x1_, 26)] → lv_has ls 6 [(0, va_rf x0_), (1, va_rf x1_), (2, .int x2_)] → rec40 x0_ x1_ x2_ w_ = some (r', w') → W p l e R s m args below meth c H locs cells slots (wd_fin E w0 (some (.int r')) w' True R args s below) (F0 m 40 ls [])) (rec170 : Option Nat → Option Nat → Int32 → Int32 → Wd → Option (Int32 × Wd)) (hrec170 : ∀ (x0_ : Option Nat) (x1_ : Option Nat) (x2_ : Int32) (x3_ : Int32) (w_ : Wd) (H : Heap) (locs : List Loc) (cells slots : Nat) (ls : Array Slot), wd_Z E w0 R s w_ H locs cells slots [(x0_, 12), (x1_, 26)] → lv_has ls 6 [(0, va_rf x0_), (1, va_rf x1_), (2, .int x2_), (3, .int x3_)] → rec170 x0_ x1_ x2_ x3_ w_ = some (r', w') → W p l e R s m args below meth c H locs cells slots (wd_fin E w0 (some (.int r')) w' True R args s below) (F0 m 170 ls [])) (y0 : Int32) (y1 : Int32) (x0 : Option Nat) (x1 : Option Nat) (x2 : Int32) (x3 : Int32) (w : Wd) (H : Heap) (locs : List Loc) (cells slots : Nat) (ls : Array Slot) (hZ : wd_Z E w0 R s w H locs cells slots [(x0, 12), (x1, 26)]) (hl : lv_has ls 6 [(0, va_rf x0), (1, va_rf x1), (2, .int x2), (3, .int x3)]) (hf : f_L_areMachinesRight_j304 n rec40 rec170 y0 y1 x0 x1 x2 x3 w = some (r', w')) : W p l e R s m args below meth c H locs cells slots (wd_fin E w0 (some (.int r')) w' True R args s below) (F0 m 304 ls [.int y0, .int y1]) := by
  obtain ⟨hx, hb, hr, hml, hts, hown, hlocks, hmn, hK⟩ := id C
  unfold f_L_areMachinesRight_j304 at hf
  refine lv_icmp_eq (tgt := 309) hx hb dL_areMachinesRight_304 (by decide) (fun h85 => ?_) (fun h85 => ?_)
  · replace hf := wd_ite_p h85 hf
    exact v_L_areMachinesRight_j309 n C hR rec40 hrec40 rec170 hrec170 x0 x1 x2 x3 w _ _ _ _ _ ⟨hZ.1, hZ.2.1, hZ.2.2.1, hZ.2.2.2.1, (List.forall_mem_cons.mpr ⟨⟨Nat.succ_ne_zero _, (fun q hq => hZ.k 0 rfl hq)⟩, (List.forall_mem_cons.mpr ⟨⟨Nat.succ_ne_zero _, (fun q hq => hZ.k 1 rfl hq)⟩, (fun _ hq => absurd hq List.not_mem_nil)⟩)⟩), hZ.2.2.2.2.2⟩ (lv_sub hl [0, 1, 2, 3] rfl) hf
  · replace hf := wd_ite_n h85 hf
    exact v_L_areMachinesRight_j307 n C hR w _ _ _ _ _ ⟨hZ.1, hZ.2.1, hZ.2.2.1, hZ.2.2.2.1, (fun _ hq => absurd hq List.not_mem_nil), hZ.2.2.2.2.2⟩ (lv_sub hl [] rfl) hf

set_option maxHeartbeats 4000000 in
set_option maxRecDepth 100000 in
theorem v_L_areMachinesRight_j284 {p : Program} {l : Launch} {e : Env} {R : Room} {s : State} {m : MethodId} {args : Array Value} {below : List Frame} {meth : Method} {c : Code} {E : wd_E} {w0 : Wd} {r' : Int32} {w' : Wd} (n : Nat) (C : wd_X p s m args meth c cL_areMachinesRight RL 6 (some .boolean) "areMachinesRight" E) (hR : 3 ≤ R.frames ∧ 67 ≤ R.locals) (rec40 : Option Nat → Option Nat → Int32 → Wd → Option (Int32 × Wd)) (hrec40 : ∀ (x0_ : Option Nat) (x1_ : Option Nat) (x2_ : Int32) (w_ : Wd) (H : Heap) (locs : List Loc) (cells slots : Nat) (ls : Array Slot), wd_Z E w0 R s w_ H locs cells slots [(x0_, 12), (x1_, 26)] → lv_has ls 6 [(0, va_rf x0_), (1, va_rf x1_), (2, .int x2_)] → rec40 x0_ x1_ x2_ w_ = some (r', w') → W p l e R s m args below meth c H locs cells slots (wd_fin E w0 (some (.int r')) w' True R args s below) (F0 m 40 ls [])) (rec170 : Option Nat → Option Nat → Int32 → Int32 → Wd → Option (Int32 × Wd)) (hrec170 : ∀ (x0_ : Option Nat) (x1_ : Option Nat) (x2_ : Int32) (x3_ : Int32) (w_ : Wd) (H : Heap) (locs : List Loc) (cells slots : Nat) (ls : Array Slot), wd_Z E w0 R s w_ H locs cells slots [(x0_, 12), (x1_, 26)] → lv_has ls 6 [(0, va_rf x0_), (1, va_rf x1_), (2, .int x2_), (3, .int x3_)] → rec170 x0_ x1_ x2_ x3_ w_ = some (r', w') → W p l e R s m args below meth c H locs cells slots (wd_fin E w0 (some (.int r')) w' True R args s below) (F0 m 170 ls [])) (y0 : Int32) (x0 : Option Nat) (x1 : Option Nat) (x2 : Int32) (x3 : Int32) (w : Wd) (H : Heap) (locs : List Loc) (cells slots : Nat) (ls : Array Slot) (hZ : wd_Z E w0 R s w H locs cells slots [(x0, 12), (x1, 26)]) (hl : lv_has ls 6 [(0, va_rf x0), (1, va_rf x1), (2, .int x2), (3, .int x3)]) (hf : f_L_areMachinesRight_j284 n rec40 rec170 y0 x0 x1 x2 x3 w = some (r', w')) : W p l e R s m args below meth c H locs cells slots (wd_fin E w0 (some (.int r')) w' True R args s below) (F0 m 284 ls [.int y0]) := by
  obtain ⟨hx, hb, hr, hml, hts, hown, hlocks, hmn, hK⟩ := id C
  unfold f_L_areMachinesRight_j284 at hf
  refine z_aload_n (i := 0) hx hb dL_areMachinesRight_284 rfl (lv_at hl 0 rfl) ?_
  refine lv_iload_n (i := 2) hx hb dL_areMachinesRight_285 rfl (lv_at hl 2 rfl) ?_
  refine z_aload_n (i := 1) hx hb dL_areMachinesRight_286 rfl (lv_at hl 1 rfl) ?_
  refine lv_iload_n (i := 3) hx hb dL_areMachinesRight_287 rfl (lv_at hl 3 rfl) ?_
  have hf9 := Option.bind_eq_some_iff.mp hf; clear hf; obtain ⟨a76, ha76, hf⟩ := hf9
  subst ha76
  replace hl : lv_has ls 6 [(0, va_rf x0), (1, .ref a76), (2, .int x2), (3, .int x3)] := hl
  replace hZ : wd_Z E w0 R s w H locs cells slots [(x0, 12), (some a76, 26)] := hZ
  have hf9 := wd_gd_e hf; clear hf; obtain ⟨h77, hf⟩ := hf9
  refine z_aald (k := 26) (by decide) (by decide) (tk := 20) rfl hx hb hK hZ (hZ.k 1 rfl rfl) h77 dL_areMachinesRight_288 ?_; clear hZ; intro hZ
  refine lv_iconst (v := 1) hx hb dL_areMachinesRight_289 (by decide) ?_
  have hf9 := Option.bind_eq_some_iff.mp hf; clear hf; obtain ⟨a78, ha78, hf⟩ := hf9
  replace hZ := hZ.add (r := some a78) (k := 21) (Nat.succ_ne_zero _) (fun q hq => by cases hq; exact hZ.k 0 rfl ha78)
  rw [ha78]
  have hf9 := wd_gd_e hf; clear hf; obtain ⟨h79, hf⟩ := hf9
  refine z_iald hx hb hK hZ (hZ.k 0 rfl rfl) h79 dL_areMachinesRight_290 ?_
  refine lv_iconst (v := 1) hx hb dL_areMachinesRight_291 (by decide) ?_
  have hf9 := Option.bind_eq_some_iff.mp hf; clear hf; obtain ⟨a80, ha80, hf⟩ := hf9
  subst ha80
  replace hl : lv_has ls 6 [(0, .ref a80), (1, .ref a76), (2, .int x2), (3, .int x3)] := hl
  replace hZ : wd_Z E w0 R s w H locs cells slots [(some a78, 21), ((wd_Q w a76 x3.toNatClampNeg), 21), (some a80, 12), (some a76, 26)] := hZ
  have hf9 := wd_b2_e hf; clear hf; obtain ⟨r83, w81, hc82, hf⟩ := hf9
  refine z_callV (ci := 11) (As := [.int x2, .int (wd_A w a78 (1 : Int32).toNatClampNeg), .int (1 : Int32)]) (rest := [.int y0]) (c_X11_way l E n w a80 x2 (wd_A w a78 (1 : Int32).toNatClampNeg) (1 : Int32) r83 w81 (hZ.k 2 rfl rfl) hc82) mo_X11_way rfl (by decide) rfl tw_1016 tw_1017 tw_1015 hx hb hml hts hown hK ⟨Nat.le_trans (by decide) hR.1, Nat.le_trans (by decide) hR.2⟩ hZ (hZ.k 2 rfl rfl) rfl hl.1 rfl (Nat.le_of_ble_eq_true rfl) rfl dL_areMachinesRight_292 ?_; clear hZ; intro H locs cells slots hX hZ
  refine lv_iconst (v := -1) hx hb dL_areMachinesRight_295 (by decide) ?_
  refine lv_icmp_ne (tgt := 303) hx hb dL_areMachinesRight_296 (by decide) (fun h84 => ?_) (fun h84 => ?_)
  · replace hf := wd_ite_n h84 hf
    refine lv_iconst (v := 0) hx hb dL_areMachinesRight_303 (by decide) ?_
    exact v_L_areMachinesRight_j304 n C hR rec40 hrec40 rec170 hrec170 (0 : Int32) y0 (some a80) (some a76) x2 x3 w81 _ _ _ _ _ ⟨hZ.1, hZ.2.1, hZ.2.2.1, hZ.2.2.2.1, (List.forall_mem_cons.mpr ⟨⟨Nat.succ_ne_zero _, (fun q hq => by cases hq; exact (hZ.k 2 rfl rfl))⟩, (List.forall_mem_cons.mpr ⟨⟨Nat.succ_ne_zero _, (fun q hq => by cases hq; exact (hZ.k 3 rfl rfl))⟩, (fun _ hq => absurd hq List.not_mem_nil)⟩)⟩), hZ.2.2.2.2.2⟩ (lv_sub hl [0, 1, 2, 3] rfl) hf
  · replace hf := wd_ite_p h84 hf
    refine lv_iconst (v := 1) hx hb dL_areMachinesRight_299 (by decide) ?_
    refine lv_goto (tgt := 304) hx hb dL_areMachinesRight_300 (by decide) ?_
    exact v_L_areMachinesRight_j304 n C hR rec40 hrec40 rec170 hrec170 (1 : Int32) y0 (some a80) (some a76) x2 x3 w81 _ _ _ _ _ ⟨hZ.1, hZ.2.1, hZ.2.2.1, hZ.2.2.2.1, (List.forall_mem_cons.mpr ⟨⟨Nat.succ_ne_zero _, (fun q hq => by cases hq; exact (hZ.k 2 rfl rfl))⟩, (List.forall_mem_cons.mpr ⟨⟨Nat.succ_ne_zero _, (fun q hq => by cases hq; exact (hZ.k 3 rfl rfl))⟩, (fun _ hq => absurd hq List.not_mem_nil)⟩)⟩), hZ.2.2.2.2.2⟩ (lv_sub hl [0, 1, 2, 3] rfl) hf

set_option maxHeartbeats 4000000 in
set_option maxRecDepth 100000 in
theorem v_L_areMachinesRight_j270 {p : Program} {l : Launch} {e : Env} {R : Room} {s : State} {m : MethodId} {args : Array Value} {below : List Frame} {meth : Method} {c : Code} {E : wd_E} {w0 : Wd} {r' : Int32} {w' : Wd} (n : Nat) (C : wd_X p s m args meth c cL_areMachinesRight RL 6 (some .boolean) "areMachinesRight" E) (hR : 3 ≤ R.frames ∧ 67 ≤ R.locals) (rec40 : Option Nat → Option Nat → Int32 → Wd → Option (Int32 × Wd)) (hrec40 : ∀ (x0_ : Option Nat) (x1_ : Option Nat) (x2_ : Int32) (w_ : Wd) (H : Heap) (locs : List Loc) (cells slots : Nat) (ls : Array Slot), wd_Z E w0 R s w_ H locs cells slots [(x0_, 12), (x1_, 26)] → lv_has ls 6 [(0, va_rf x0_), (1, va_rf x1_), (2, .int x2_)] → rec40 x0_ x1_ x2_ w_ = some (r', w') → W p l e R s m args below meth c H locs cells slots (wd_fin E w0 (some (.int r')) w' True R args s below) (F0 m 40 ls [])) (rec170 : Option Nat → Option Nat → Int32 → Int32 → Wd → Option (Int32 × Wd)) (hrec170 : ∀ (x0_ : Option Nat) (x1_ : Option Nat) (x2_ : Int32) (x3_ : Int32) (w_ : Wd) (H : Heap) (locs : List Loc) (cells slots : Nat) (ls : Array Slot), wd_Z E w0 R s w_ H locs cells slots [(x0_, 12), (x1_, 26)] → lv_has ls 6 [(0, va_rf x0_), (1, va_rf x1_), (2, .int x2_), (3, .int x3_)] → rec170 x0_ x1_ x2_ x3_ w_ = some (r', w') → W p l e R s m args below meth c H locs cells slots (wd_fin E w0 (some (.int r')) w' True R args s below) (F0 m 170 ls [])) (y0 : Int32) (y1 : Int32) (x0 : Option Nat) (x1 : Option Nat) (x2 : Int32) (x3 : Int32) (x5 : Int32) (w : Wd) (H : Heap) (locs : List Loc) (cells slots : Nat) (ls : Array Slot) (hZ : wd_Z E w0 R s w H locs cells slots [(x0, 12), (x1, 26)]) (hl : lv_has ls 6 [(0, va_rf x0), (1, va_rf x1), (2, .int x2), (3, .int x3), (5, .int x5)]) (hf : f_L_areMachinesRight_j270 n rec40 rec170 y0 y1 x0 x1 x2 x3 x5 w = some (r', w')) : W p l e R s m args below meth c H locs cells slots (wd_fin E w0 (some (.int r')) w' True R args s below) (F0 m 270 ls [.int y0, .int y1]) := by
  obtain ⟨hx, hb, hr, hml, hts, hown, hlocks, hmn, hK⟩ := id C
  unfold f_L_areMachinesRight_j270 at hf
  refine lv_icmp_ne (tgt := 307) hx hb dL_areMachinesRight_270 (by decide) (fun h74 => ?_) (fun h74 => ?_)
  · replace hf := wd_ite_n h74 hf
    exact v_L_areMachinesRight_j307 n C hR w _ _ _ _ _ ⟨hZ.1, hZ.2.1, hZ.2.2.1, hZ.2.2.2.1, (fun _ hq => absurd hq List.not_mem_nil), hZ.2.2.2.2.2⟩ (lv_sub hl [] rfl) hf
  · replace hf := wd_ite_p h74 hf
    refine lv_iload hx hb dL_areMachinesRight_273 (lv_at hl 4 rfl) ?_
    refine lv_iconst (v := -1) hx hb dL_areMachinesRight_275 (by decide) ?_
    refine lv_icmp_ne (tgt := 283) hx hb dL_areMachinesRight_276 (by decide) (fun h75 => ?_) (fun h75 => ?_)
    · replace hf := wd_ite_n h75 hf
      refine lv_iconst (v := 0) hx hb dL_areMachinesRight_283 (by decide) ?_
      exact v_L_areMachinesRight_j284 n C hR rec40 hrec40 rec170 hrec170 (0 : Int32) x0 x1 x2 x3 w _ _ _ _ _ ⟨hZ.1, hZ.2.1, hZ.2.2.1, hZ.2.2.2.1, (List.forall_mem_cons.mpr ⟨⟨Nat.succ_ne_zero _, (fun q hq => hZ.k 0 rfl hq)⟩, (List.forall_mem_cons.mpr ⟨⟨Nat.succ_ne_zero _, (fun q hq => hZ.k 1 rfl hq)⟩, (fun _ hq => absurd hq List.not_mem_nil)⟩)⟩), hZ.2.2.2.2.2⟩ (lv_sub hl [0, 1, 2, 3] rfl) hf
    · replace hf := wd_ite_p h75 hf
      refine lv_iconst (v := 1) hx hb dL_areMachinesRight_279 (by decide) ?_
      refine lv_goto (tgt := 284) hx hb dL_areMachinesRight_280 (by decide) ?_
      exact v_L_areMachinesRight_j284 n C hR rec40 hrec40 rec170 hrec170 (1 : Int32) x0 x1 x2 x3 w _ _ _ _ _ ⟨hZ.1, hZ.2.1, hZ.2.2.1, hZ.2.2.2.1, (List.forall_mem_cons.mpr ⟨⟨Nat.succ_ne_zero _, (fun q hq => hZ.k 0 rfl hq)⟩, (List.forall_mem_cons.mpr ⟨⟨Nat.succ_ne_zero _, (fun q hq => hZ.k 1 rfl hq)⟩, (fun _ hq => absurd hq List.not_mem_nil)⟩)⟩), hZ.2.2.2.2.2⟩ (lv_sub hl [0, 1, 2, 3] rfl) hf

set_option maxHeartbeats 4000000 in
set_option maxRecDepth 100000 in
theorem v_L_areMachinesRight_j250 {p : Program} {l : Launch} {e : Env} {R : Room} {s : State} {m : MethodId} {args : Array Value} {below : List Frame} {meth : Method} {c : Code} {E : wd_E} {w0 : Wd} {r' : Int32} {w' : Wd} (n : Nat) (C : wd_X p s m args meth c cL_areMachinesRight RL 6 (some .boolean) "areMachinesRight" E) (hR : 3 ≤ R.frames ∧ 67 ≤ R.locals) (rec40 : Option Nat → Option Nat → Int32 → Wd → Option (Int32 × Wd)) (hrec40 : ∀ (x0_ : Option Nat) (x1_ : Option Nat) (x2_ : Int32) (w_ : Wd) (H : Heap) (locs : List Loc) (cells slots : Nat) (ls : Array Slot), wd_Z E w0 R s w_ H locs cells slots [(x0_, 12), (x1_, 26)] → lv_has ls 6 [(0, va_rf x0_), (1, va_rf x1_), (2, .int x2_)] → rec40 x0_ x1_ x2_ w_ = some (r', w') → W p l e R s m args below meth c H locs cells slots (wd_fin E w0 (some (.int r')) w' True R args s below) (F0 m 40 ls [])) (rec170 : Option Nat → Option Nat → Int32 → Int32 → Wd → Option (Int32 × Wd)) (hrec170 : ∀ (x0_ : Option Nat) (x1_ : Option Nat) (x2_ : Int32) (x3_ : Int32) (w_ : Wd) (H : Heap) (locs : List Loc) (cells slots : Nat) (ls : Array Slot), wd_Z E w0 R s w_ H locs cells slots [(x0_, 12), (x1_, 26)] → lv_has ls 6 [(0, va_rf x0_), (1, va_rf x1_), (2, .int x2_), (3, .int x3_)] → rec170 x0_ x1_ x2_ x3_ w_ = some (r', w') → W p l e R s m args below meth c H locs cells slots (wd_fin E w0 (some (.int r')) w' True R args s below) (F0 m 170 ls [])) (y0 : Int32) (x0 : Option Nat) (x1 : Option Nat) (x2 : Int32) (x3 : Int32) (x5 : Int32) (w : Wd) (H : Heap) (locs : List Loc) (cells slots : Nat) (ls : Array Slot) (hZ : wd_Z E w0 R s w H locs cells slots [(x0, 12), (x1, 26)]) (hl : lv_has ls 6 [(0, va_rf x0), (1, va_rf x1), (2, .int x2), (3, .int x3), (5, .int x5)]) (hf : f_L_areMachinesRight_j250 n rec40 rec170 y0 x0 x1 x2 x3 x5 w = some (r', w')) : W p l e R s m args below meth c H locs cells slots (wd_fin E w0 (some (.int r')) w' True R args s below) (F0 m 250 ls [.int y0]) := by
  obtain ⟨hx, hb, hr, hml, hts, hown, hlocks, hmn, hK⟩ := id C
  unfold f_L_areMachinesRight_j250 at hf
  refine z_aload_n (i := 0) hx hb dL_areMachinesRight_250 rfl (lv_at hl 0 rfl) ?_
  refine lv_iload_n (i := 2) hx hb dL_areMachinesRight_251 rfl (lv_at hl 2 rfl) ?_
  refine z_aload_n (i := 1) hx hb dL_areMachinesRight_252 rfl (lv_at hl 1 rfl) ?_
  refine lv_iload_n (i := 3) hx hb dL_areMachinesRight_253 rfl (lv_at hl 3 rfl) ?_
  have hf9 := Option.bind_eq_some_iff.mp hf; clear hf; obtain ⟨a65, ha65, hf⟩ := hf9
  subst ha65
  replace hl : lv_has ls 6 [(0, va_rf x0), (1, .ref a65), (2, .int x2), (3, .int x3), (5, .int x5)] := hl
  replace hZ : wd_Z E w0 R s w H locs cells slots [(x0, 12), (some a65, 26)] := hZ
  have hf9 := wd_gd_e hf; clear hf; obtain ⟨h66, hf⟩ := hf9
  refine z_aald (k := 26) (by decide) (by decide) (tk := 20) rfl hx hb hK hZ (hZ.k 1 rfl rfl) h66 dL_areMachinesRight_254 ?_; clear hZ; intro hZ
  refine lv_iconst (v := 1) hx hb dL_areMachinesRight_255 (by decide) ?_
  have hf9 := Option.bind_eq_some_iff.mp hf; clear hf; obtain ⟨a67, ha67, hf⟩ := hf9
  replace hZ := hZ.add (r := some a67) (k := 21) (Nat.succ_ne_zero _) (fun q hq => by cases hq; exact hZ.k 0 rfl ha67)
  rw [ha67]
  have hf9 := wd_gd_e hf; clear hf; obtain ⟨h68, hf⟩ := hf9
  refine z_iald hx hb hK hZ (hZ.k 0 rfl rfl) h68 dL_areMachinesRight_256 ?_
  refine lv_iconst (v := 2) hx hb dL_areMachinesRight_257 (by decide) ?_
  have hf9 := Option.bind_eq_some_iff.mp hf; clear hf; obtain ⟨a69, ha69, hf⟩ := hf9
  subst ha69
  replace hl : lv_has ls 6 [(0, .ref a69), (1, .ref a65), (2, .int x2), (3, .int x3), (5, .int x5)] := hl
  replace hZ : wd_Z E w0 R s w H locs cells slots [(some a67, 21), ((wd_Q w a65 x3.toNatClampNeg), 21), (some a69, 12), (some a65, 26)] := hZ
  have hf9 := wd_b2_e hf; clear hf; obtain ⟨r72, w70, hc71, hf⟩ := hf9
  refine z_callV (ci := 11) (As := [.int x2, .int (wd_A w a67 (1 : Int32).toNatClampNeg), .int (2 : Int32)]) (rest := [.int y0]) (c_X11_way l E n w a69 x2 (wd_A w a67 (1 : Int32).toNatClampNeg) (2 : Int32) r72 w70 (hZ.k 2 rfl rfl) hc71) mo_X11_way rfl (by decide) rfl tw_1016 tw_1017 tw_1015 hx hb hml hts hown hK ⟨Nat.le_trans (by decide) hR.1, Nat.le_trans (by decide) hR.2⟩ hZ (hZ.k 2 rfl rfl) rfl hl.1 rfl (Nat.le_of_ble_eq_true rfl) rfl dL_areMachinesRight_258 ?_; clear hZ; intro H locs cells slots hX hZ
  refine lv_iconst (v := -1) hx hb dL_areMachinesRight_261 (by decide) ?_
  refine lv_icmp_ne (tgt := 269) hx hb dL_areMachinesRight_262 (by decide) (fun h73 => ?_) (fun h73 => ?_)
  · replace hf := wd_ite_n h73 hf
    refine lv_iconst (v := 0) hx hb dL_areMachinesRight_269 (by decide) ?_
    exact v_L_areMachinesRight_j270 n C hR rec40 hrec40 rec170 hrec170 (0 : Int32) y0 (some a69) (some a65) x2 x3 x5 w70 _ _ _ _ _ ⟨hZ.1, hZ.2.1, hZ.2.2.1, hZ.2.2.2.1, (List.forall_mem_cons.mpr ⟨⟨Nat.succ_ne_zero _, (fun q hq => by cases hq; exact (hZ.k 2 rfl rfl))⟩, (List.forall_mem_cons.mpr ⟨⟨Nat.succ_ne_zero _, (fun q hq => by cases hq; exact (hZ.k 3 rfl rfl))⟩, (fun _ hq => absurd hq List.not_mem_nil)⟩)⟩), hZ.2.2.2.2.2⟩ (lv_sub hl [0, 1, 2, 3, 4] rfl) hf
  · replace hf := wd_ite_p h73 hf
    refine lv_iconst (v := 1) hx hb dL_areMachinesRight_265 (by decide) ?_
    refine lv_goto (tgt := 270) hx hb dL_areMachinesRight_266 (by decide) ?_
    exact v_L_areMachinesRight_j270 n C hR rec40 hrec40 rec170 hrec170 (1 : Int32) y0 (some a69) (some a65) x2 x3 x5 w70 _ _ _ _ _ ⟨hZ.1, hZ.2.1, hZ.2.2.1, hZ.2.2.2.1, (List.forall_mem_cons.mpr ⟨⟨Nat.succ_ne_zero _, (fun q hq => by cases hq; exact (hZ.k 2 rfl rfl))⟩, (List.forall_mem_cons.mpr ⟨⟨Nat.succ_ne_zero _, (fun q hq => by cases hq; exact (hZ.k 3 rfl rfl))⟩, (fun _ hq => absurd hq List.not_mem_nil)⟩)⟩), hZ.2.2.2.2.2⟩ (lv_sub hl [0, 1, 2, 3, 4] rfl) hf

set_option maxHeartbeats 4000000 in
set_option maxRecDepth 100000 in
theorem v_L_areMachinesRight_j213 {p : Program} {l : Launch} {e : Env} {R : Room} {s : State} {m : MethodId} {args : Array Value} {below : List Frame} {meth : Method} {c : Code} {E : wd_E} {w0 : Wd} {r' : Int32} {w' : Wd} (n : Nat) (C : wd_X p s m args meth c cL_areMachinesRight RL 6 (some .boolean) "areMachinesRight" E) (hR : 3 ≤ R.frames ∧ 67 ≤ R.locals) (rec40 : Option Nat → Option Nat → Int32 → Wd → Option (Int32 × Wd)) (hrec40 : ∀ (x0_ : Option Nat) (x1_ : Option Nat) (x2_ : Int32) (w_ : Wd) (H : Heap) (locs : List Loc) (cells slots : Nat) (ls : Array Slot), wd_Z E w0 R s w_ H locs cells slots [(x0_, 12), (x1_, 26)] → lv_has ls 6 [(0, va_rf x0_), (1, va_rf x1_), (2, .int x2_)] → rec40 x0_ x1_ x2_ w_ = some (r', w') → W p l e R s m args below meth c H locs cells slots (wd_fin E w0 (some (.int r')) w' True R args s below) (F0 m 40 ls [])) (rec170 : Option Nat → Option Nat → Int32 → Int32 → Wd → Option (Int32 × Wd)) (hrec170 : ∀ (x0_ : Option Nat) (x1_ : Option Nat) (x2_ : Int32) (x3_ : Int32) (w_ : Wd) (H : Heap) (locs : List Loc) (cells slots : Nat) (ls : Array Slot), wd_Z E w0 R s w_ H locs cells slots [(x0_, 12), (x1_, 26)] → lv_has ls 6 [(0, va_rf x0_), (1, va_rf x1_), (2, .int x2_), (3, .int x3_)] → rec170 x0_ x1_ x2_ x3_ w_ = some (r', w') → W p l e R s m args below meth c H locs cells slots (wd_fin E w0 (some (.int r')) w' True R args s below) (F0 m 170 ls [])) (x0 : Option Nat) (x1 : Option Nat) (x2 : Int32) (x3 : Int32) (w : Wd) (H : Heap) (locs : List Loc) (cells slots : Nat) (ls : Array Slot) (hZ : wd_Z E w0 R s w H locs cells slots [(x0, 12), (x1, 26)]) (hl : lv_has ls 6 [(0, va_rf x0), (1, va_rf x1), (2, .int x2), (3, .int x3)]) (hf : f_L_areMachinesRight_j213 n rec40 rec170 x0 x1 x2 x3 w = some (r', w')) : W p l e R s m args below meth c H locs cells slots (wd_fin E w0 (some (.int r')) w' True R args s below) (F0 m 213 ls []) := by
  obtain ⟨hx, hb, hr, hml, hts, hown, hlocks, hmn, hK⟩ := id C
  unfold f_L_areMachinesRight_j213 at hf
  refine z_aload_n (i := 0) hx hb dL_areMachinesRight_213 rfl (lv_at hl 0 rfl) ?_
  refine lv_iload_n (i := 2) hx hb dL_areMachinesRight_214 rfl (lv_at hl 2 rfl) ?_
  refine z_aload_n (i := 1) hx hb dL_areMachinesRight_215 rfl (lv_at hl 1 rfl) ?_
  refine lv_iload_n (i := 3) hx hb dL_areMachinesRight_216 rfl (lv_at hl 3 rfl) ?_
  have hf9 := Option.bind_eq_some_iff.mp hf; clear hf; obtain ⟨a54, ha54, hf⟩ := hf9
  subst ha54
  replace hl : lv_has ls 6 [(0, va_rf x0), (1, .ref a54), (2, .int x2), (3, .int x3)] := hl
  replace hZ : wd_Z E w0 R s w H locs cells slots [(x0, 12), (some a54, 26)] := hZ
  have hf9 := wd_gd_e hf; clear hf; obtain ⟨h55, hf⟩ := hf9
  refine z_aald (k := 26) (by decide) (by decide) (tk := 20) rfl hx hb hK hZ (hZ.k 1 rfl rfl) h55 dL_areMachinesRight_217 ?_; clear hZ; intro hZ
  refine lv_iconst (v := 1) hx hb dL_areMachinesRight_218 (by decide) ?_
  have hf9 := Option.bind_eq_some_iff.mp hf; clear hf; obtain ⟨a56, ha56, hf⟩ := hf9
  replace hZ := hZ.add (r := some a56) (k := 21) (Nat.succ_ne_zero _) (fun q hq => by cases hq; exact hZ.k 0 rfl ha56)
  rw [ha56]
  have hf9 := wd_gd_e hf; clear hf; obtain ⟨h57, hf⟩ := hf9
  refine z_iald hx hb hK hZ (hZ.k 0 rfl rfl) h57 dL_areMachinesRight_219 ?_
  refine lv_iconst (v := 0) hx hb dL_areMachinesRight_220 (by decide) ?_
  have hf9 := Option.bind_eq_some_iff.mp hf; clear hf; obtain ⟨a58, ha58, hf⟩ := hf9
  subst ha58
  replace hl : lv_has ls 6 [(0, .ref a58), (1, .ref a54), (2, .int x2), (3, .int x3)] := hl
  replace hZ : wd_Z E w0 R s w H locs cells slots [(some a56, 21), ((wd_Q w a54 x3.toNatClampNeg), 21), (some a58, 12), (some a54, 26)] := hZ
  have hf9 := wd_b2_e hf; clear hf; obtain ⟨r61, w59, hc60, hf⟩ := hf9
  refine z_callV (ci := 11) (As := [.int x2, .int (wd_A w a56 (1 : Int32).toNatClampNeg), .int (0 : Int32)]) (rest := []) (c_X11_way l E n w a58 x2 (wd_A w a56 (1 : Int32).toNatClampNeg) (0 : Int32) r61 w59 (hZ.k 2 rfl rfl) hc60) mo_X11_way rfl (by decide) rfl tw_1016 tw_1017 tw_1015 hx hb hml hts hown hK ⟨Nat.le_trans (by decide) hR.1, Nat.le_trans (by decide) hR.2⟩ hZ (hZ.k 2 rfl rfl) rfl hl.1 rfl (Nat.le_of_ble_eq_true rfl) rfl dL_areMachinesRight_221 ?_; clear hZ; intro H locs cells slots hX hZ
  refine lv_istore (i := 5) (lv' := [(5, .int r61), (0, .ref a58), (1, .ref a54), (2, .int x2), (3, .int x3)]) hx hb dL_areMachinesRight_224 hl (by decide) rfl ?_; clear hl; intro ls hl
  refine lv_iload hx hb dL_areMachinesRight_226 (lv_at hl 0 rfl) ?_
  refine lv_bipush (v := -2) hx hb dL_areMachinesRight_228 (by decide) ?_
  refine lv_icmp_lt (tgt := 307) hx hb dL_areMachinesRight_230 (by decide) (fun h62 => ?_) (fun h62 => ?_)
  · replace hf := wd_ite_p h62 hf
    exact v_L_areMachinesRight_j307 n C hR w59 _ _ _ _ _ ⟨hZ.1, hZ.2.1, hZ.2.2.1, hZ.2.2.2.1, (fun _ hq => absurd hq List.not_mem_nil), hZ.2.2.2.2.2⟩ (lv_sub hl [] rfl) hf
  · replace hf := wd_ite_n h62 hf
    refine lv_iload hx hb dL_areMachinesRight_233 (lv_at hl 0 rfl) ?_
    refine lv_iconst (v := 3) hx hb dL_areMachinesRight_235 (by decide) ?_
    refine lv_icmp_gt (tgt := 307) hx hb dL_areMachinesRight_236 (by decide) (fun h63 => ?_) (fun h63 => ?_)
    · replace hf := wd_ite_p h63 hf
      exact v_L_areMachinesRight_j307 n C hR w59 _ _ _ _ _ ⟨hZ.1, hZ.2.1, hZ.2.2.1, hZ.2.2.2.1, (fun _ hq => absurd hq List.not_mem_nil), hZ.2.2.2.2.2⟩ (lv_sub hl [] rfl) hf
    · replace hf := wd_ite_n h63 hf
      refine lv_iload hx hb dL_areMachinesRight_239 (lv_at hl 0 rfl) ?_
      refine lv_iconst (v := -1) hx hb dL_areMachinesRight_241 (by decide) ?_
      refine lv_icmp_ne (tgt := 249) hx hb dL_areMachinesRight_242 (by decide) (fun h64 => ?_) (fun h64 => ?_)
      · replace hf := wd_ite_n h64 hf
        refine lv_iconst (v := 0) hx hb dL_areMachinesRight_249 (by decide) ?_
        exact v_L_areMachinesRight_j250 n C hR rec40 hrec40 rec170 hrec170 (0 : Int32) (some a58) (some a54) x2 x3 r61 w59 _ _ _ _ _ ⟨hZ.1, hZ.2.1, hZ.2.2.1, hZ.2.2.2.1, (List.forall_mem_cons.mpr ⟨⟨Nat.succ_ne_zero _, (fun q hq => by cases hq; exact (hZ.k 2 rfl rfl))⟩, (List.forall_mem_cons.mpr ⟨⟨Nat.succ_ne_zero _, (fun q hq => by cases hq; exact (hZ.k 3 rfl rfl))⟩, (fun _ hq => absurd hq List.not_mem_nil)⟩)⟩), hZ.2.2.2.2.2⟩ (lv_sub hl [1, 2, 3, 4, 0] rfl) hf
      · replace hf := wd_ite_p h64 hf
        refine lv_iconst (v := 1) hx hb dL_areMachinesRight_245 (by decide) ?_
        refine lv_goto (tgt := 250) hx hb dL_areMachinesRight_246 (by decide) ?_
        exact v_L_areMachinesRight_j250 n C hR rec40 hrec40 rec170 hrec170 (1 : Int32) (some a58) (some a54) x2 x3 r61 w59 _ _ _ _ _ ⟨hZ.1, hZ.2.1, hZ.2.2.1, hZ.2.2.2.1, (List.forall_mem_cons.mpr ⟨⟨Nat.succ_ne_zero _, (fun q hq => by cases hq; exact (hZ.k 2 rfl rfl))⟩, (List.forall_mem_cons.mpr ⟨⟨Nat.succ_ne_zero _, (fun q hq => by cases hq; exact (hZ.k 3 rfl rfl))⟩, (fun _ hq => absurd hq List.not_mem_nil)⟩)⟩), hZ.2.2.2.2.2⟩ (lv_sub hl [1, 2, 3, 4, 0] rfl) hf

set_option maxHeartbeats 4000000 in
set_option maxRecDepth 100000 in
theorem v_L_areMachinesRight_b170 {p : Program} {l : Launch} {e : Env} {R : Room} {s : State} {m : MethodId} {args : Array Value} {below : List Frame} {meth : Method} {c : Code} {E : wd_E} {w0 : Wd} {r' : Int32} {w' : Wd} (n : Nat) (C : wd_X p s m args meth c cL_areMachinesRight RL 6 (some .boolean) "areMachinesRight" E) (hR : 3 ≤ R.frames ∧ 67 ≤ R.locals) (rec40 : Option Nat → Option Nat → Int32 → Wd → Option (Int32 × Wd)) (hrec40 : ∀ (x0_ : Option Nat) (x1_ : Option Nat) (x2_ : Int32) (w_ : Wd) (H : Heap) (locs : List Loc) (cells slots : Nat) (ls : Array Slot), wd_Z E w0 R s w_ H locs cells slots [(x0_, 12), (x1_, 26)] → lv_has ls 6 [(0, va_rf x0_), (1, va_rf x1_), (2, .int x2_)] → rec40 x0_ x1_ x2_ w_ = some (r', w') → W p l e R s m args below meth c H locs cells slots (wd_fin E w0 (some (.int r')) w' True R args s below) (F0 m 40 ls [])) (rec170 : Option Nat → Option Nat → Int32 → Int32 → Wd → Option (Int32 × Wd)) (hrec170 : ∀ (x0_ : Option Nat) (x1_ : Option Nat) (x2_ : Int32) (x3_ : Int32) (w_ : Wd) (H : Heap) (locs : List Loc) (cells slots : Nat) (ls : Array Slot), wd_Z E w0 R s w_ H locs cells slots [(x0_, 12), (x1_, 26)] → lv_has ls 6 [(0, va_rf x0_), (1, va_rf x1_), (2, .int x2_), (3, .int x3_)] → rec170 x0_ x1_ x2_ x3_ w_ = some (r', w') → W p l e R s m args below meth c H locs cells slots (wd_fin E w0 (some (.int r')) w' True R args s below) (F0 m 170 ls [])) (x0 : Option Nat) (x1 : Option Nat) (x2 : Int32) (x3 : Int32) (w : Wd) (H : Heap) (locs : List Loc) (cells slots : Nat) (ls : Array Slot) (hZ : wd_Z E w0 R s w H locs cells slots [(x0, 12), (x1, 26)]) (hl : lv_has ls 6 [(0, va_rf x0), (1, va_rf x1), (2, .int x2), (3, .int x3)]) (hf : f_L_areMachinesRight_l170 n rec40 rec170 x0 x1 x2 x3 w = some (r', w')) : W p l e R s m args below meth c H locs cells slots (wd_fin E w0 (some (.int r')) w' True R args s below) (F0 m 170 ls []) := by
  obtain ⟨hx, hb, hr, hml, hts, hown, hlocks, hmn, hK⟩ := id C
  unfold f_L_areMachinesRight_l170 at hf
  refine lv_iload_n (i := 3) hx hb dL_areMachinesRight_170 rfl (lv_at hl 3 rfl) ?_
  refine lv_bipush (v := 32) hx hb dL_areMachinesRight_171 (by decide) ?_
  refine lv_icmp_ge (tgt := 315) hx hb dL_areMachinesRight_173 (by decide) (fun h38 => ?_) (fun h38 => ?_)
  · replace hf := wd_ite_p h38 hf
    have hf9 := wd_let_e hf; clear hf; obtain ⟨v39, e40, hf⟩ := hf9
    refine lv_iinc (k := 2) (v := v39) (lv' := [(2, .int v39), (0, va_rf x0), (1, va_rf x1), (3, .int x3)]) hx hb dL_areMachinesRight_315 hl rfl (by rw [← e40]; rfl) (by decide) (by simp [va_rf_cat, va_cat_r, va_cat_i, va_cat_l, va_cat_d]) ?_; clear hl; intro ls hl
    refine lv_goto (tgt := 40) hx hb dL_areMachinesRight_318 (by decide) ?_
    exact hrec40 x0 x1 v39 w _ _ _ _ _ ⟨hZ.1, hZ.2.1, hZ.2.2.1, hZ.2.2.2.1, (List.forall_mem_cons.mpr ⟨⟨Nat.succ_ne_zero _, (fun q hq => hZ.k 0 rfl hq)⟩, (List.forall_mem_cons.mpr ⟨⟨Nat.succ_ne_zero _, (fun q hq => hZ.k 1 rfl hq)⟩, (fun _ hq => absurd hq List.not_mem_nil)⟩)⟩), hZ.2.2.2.2.2⟩ (lv_sub hl [1, 2, 0] rfl) hf
  · replace hf := wd_ite_n h38 hf
    refine z_aload_n (i := 1) hx hb dL_areMachinesRight_176 rfl (lv_at hl 1 rfl) ?_
    refine lv_iload_n (i := 3) hx hb dL_areMachinesRight_177 rfl (lv_at hl 3 rfl) ?_
    have hf9 := Option.bind_eq_some_iff.mp hf; clear hf; obtain ⟨a41, ha41, hf⟩ := hf9
    subst ha41
    replace hl : lv_has ls 6 [(0, va_rf x0), (1, .ref a41), (2, .int x2), (3, .int x3)] := hl
    replace hZ : wd_Z E w0 R s w H locs cells slots [(x0, 12), (some a41, 26)] := hZ
    have hf9 := wd_gd_e hf; clear hf; obtain ⟨h42, hf⟩ := hf9
    refine z_aald (k := 26) (by decide) (by decide) (tk := 20) rfl hx hb hK hZ (hZ.k 1 rfl rfl) h42 dL_areMachinesRight_178 ?_; clear hZ; intro hZ
    refine lv_iconst (v := 1) hx hb dL_areMachinesRight_179 (by decide) ?_
    have hf9 := Option.bind_eq_some_iff.mp hf; clear hf; obtain ⟨a43, ha43, hf⟩ := hf9
    replace hZ := hZ.add (r := some a43) (k := 21) (Nat.succ_ne_zero _) (fun q hq => by cases hq; exact hZ.k 0 rfl ha43)
    rw [ha43]
    have hf9 := wd_gd_e hf; clear hf; obtain ⟨h44, hf⟩ := hf9
    refine z_iald hx hb hK hZ (hZ.k 0 rfl rfl) h44 dL_areMachinesRight_180 ?_
    refine lv_if_ge (tgt := 187) hx hb dL_areMachinesRight_181 (by decide) (fun h45 => ?_) (fun h45 => ?_)
    · replace hf := wd_ite_p h45 hf
      refine z_aload_n (i := 0) hx hb dL_areMachinesRight_187 rfl (lv_at hl 0 rfl) ?_
      refine lv_iload_n (i := 2) hx hb dL_areMachinesRight_188 rfl (lv_at hl 2 rfl) ?_
      refine lv_aload_n (i := 1) hx hb dL_areMachinesRight_189 rfl (lv_at hl 1 rfl) ?_
      refine lv_iload_n (i := 3) hx hb dL_areMachinesRight_190 rfl (lv_at hl 3 rfl) ?_
      have hf9 := wd_gd_e hf; clear hf; obtain ⟨h46, hf⟩ := hf9
      refine z_aald (k := 26) (by decide) (by decide) (tk := 20) rfl hx hb hK hZ (hZ.k 3 rfl rfl) h46 dL_areMachinesRight_191 ?_; clear hZ; intro hZ
      refine lv_iconst (v := 1) hx hb dL_areMachinesRight_192 (by decide) ?_
      have hf9 := Option.bind_eq_some_iff.mp hf; clear hf; obtain ⟨a47, ha47, hf⟩ := hf9
      replace hZ := hZ.add (r := some a47) (k := 21) (Nat.succ_ne_zero _) (fun q hq => by cases hq; exact hZ.k 0 rfl ha47)
      rw [ha47]
      have hf9 := wd_gd_e hf; clear hf; obtain ⟨h48, hf⟩ := hf9
      refine z_iald hx hb hK hZ (hZ.k 0 rfl rfl) h48 dL_areMachinesRight_193 ?_
      have hf9 := Option.bind_eq_some_iff.mp hf; clear hf; obtain ⟨a49, ha49, hf⟩ := hf9
      subst ha49
      replace hl : lv_has ls 6 [(0, .ref a49), (1, .ref a41), (2, .int x2), (3, .int x3)] := hl
      replace hZ : wd_Z E w0 R s w H locs cells slots [(some a47, 21), ((wd_Q w a41 x3.toNatClampNeg), 21), (some a43, 21), ((wd_Q w a41 x3.toNatClampNeg), 21), (some a49, 12), (some a41, 26)] := hZ
      have hf9 := wd_b2_e hf; clear hf; obtain ⟨r52, w50, hc51, hf⟩ := hf9
      refine z_callV (ci := 11) (As := [.int x2, .int (wd_A w a47 (1 : Int32).toNatClampNeg)]) (rest := []) (c_X11_knows l E n w a49 x2 (wd_A w a47 (1 : Int32).toNatClampNeg) r52 w50 (hZ.k 4 rfl rfl) hc51) mo_X11_knows rfl (by decide) rfl tw_1012 tw_1013 tw_1011 hx hb hml hts hown hK ⟨Nat.le_trans (by decide) hR.1, Nat.le_trans (by decide) hR.2⟩ hZ (hZ.k 4 rfl rfl) rfl hl.1 rfl (Nat.le_of_ble_eq_true rfl) rfl dL_areMachinesRight_194 ?_; clear hZ; intro H locs cells slots hX hZ
      refine lv_istore (i := 4) (lv' := [(4, .int r52), (0, .ref a49), (1, .ref a41), (2, .int x2), (3, .int x3)]) hx hb dL_areMachinesRight_197 hl (by decide) rfl ?_; clear hl; intro ls hl
      refine lv_iload hx hb dL_areMachinesRight_199 (lv_at hl 0 rfl) ?_
      refine lv_iconst (v := -1) hx hb dL_areMachinesRight_201 (by decide) ?_
      refine lv_icmp_eq (tgt := 213) hx hb dL_areMachinesRight_202 (by decide) (fun h53 => ?_) (fun h53 => ?_)
      · replace hf := wd_ite_p h53 hf
        exact v_L_areMachinesRight_j213 n C hR rec40 hrec40 rec170 hrec170 (some a49) (some a41) x2 x3 w50 _ _ _ _ _ ⟨hZ.1, hZ.2.1, hZ.2.2.1, hZ.2.2.2.1, (List.forall_mem_cons.mpr ⟨⟨Nat.succ_ne_zero _, (fun q hq => by cases hq; exact (hZ.k 4 rfl rfl))⟩, (List.forall_mem_cons.mpr ⟨⟨Nat.succ_ne_zero _, (fun q hq => by cases hq; exact (hZ.k 5 rfl rfl))⟩, (fun _ hq => absurd hq List.not_mem_nil)⟩)⟩), hZ.2.2.2.2.2⟩ (lv_sub hl [1, 2, 3, 4] rfl) hf
      · replace hf := wd_ite_n h53 hf
        refine lv_iload hx hb dL_areMachinesRight_205 (lv_at hl 0 rfl) ?_
        refine lv_iload_n (i := 3) hx hb dL_areMachinesRight_207 rfl (lv_at hl 4 rfl) ?_
        refine lv_icmp_eq (tgt := 213) hx hb dL_areMachinesRight_208 (by decide) (fun h88 => ?_) (fun h88 => ?_)
        · replace hf := wd_ite_p h88 hf
          exact v_L_areMachinesRight_j213 n C hR rec40 hrec40 rec170 hrec170 (some a49) (some a41) x2 x3 w50 _ _ _ _ _ ⟨hZ.1, hZ.2.1, hZ.2.2.1, hZ.2.2.2.1, (List.forall_mem_cons.mpr ⟨⟨Nat.succ_ne_zero _, (fun q hq => by cases hq; exact (hZ.k 4 rfl rfl))⟩, (List.forall_mem_cons.mpr ⟨⟨Nat.succ_ne_zero _, (fun q hq => by cases hq; exact (hZ.k 5 rfl rfl))⟩, (fun _ hq => absurd hq List.not_mem_nil)⟩)⟩), hZ.2.2.2.2.2⟩ (lv_sub hl [1, 2, 3, 4] rfl) hf
        · replace hf := wd_ite_n h88 hf
          refine lv_iconst (v := 0) hx hb dL_areMachinesRight_211 (by decide) ?_
          obtain ⟨rfl, rfl⟩ := Prod.mk.inj (Option.some.inj hf)
          exact z_zret (by decide) hx hb hr hlocks hZ trivial dL_areMachinesRight_212
    · replace hf := wd_ite_n h45 hf
      refine lv_goto (tgt := 309) hx hb dL_areMachinesRight_184 (by decide) ?_
      exact v_L_areMachinesRight_j309 n C hR rec40 hrec40 rec170 hrec170 x0 (some a41) x2 x3 w _ _ _ _ _ ⟨hZ.1, hZ.2.1, hZ.2.2.1, hZ.2.2.2.1, (List.forall_mem_cons.mpr ⟨⟨Nat.succ_ne_zero _, (fun q hq => hZ.k 2 rfl hq)⟩, (List.forall_mem_cons.mpr ⟨⟨Nat.succ_ne_zero _, (fun q hq => by cases hq; exact (hZ.k 3 rfl rfl))⟩, (fun _ hq => absurd hq List.not_mem_nil)⟩)⟩), hZ.2.2.2.2.2⟩ (lv_sub hl [0, 1, 2, 3] rfl) hf

theorem v_L_areMachinesRight_l170 {p : Program} {l : Launch} {e : Env} {R : Room} {s : State} {m : MethodId} {args : Array Value} {below : List Frame} {meth : Method} {c : Code} {E : wd_E} {w0 : Wd} {r' : Int32} {w' : Wd} (n : Nat) (C : wd_X p s m args meth c cL_areMachinesRight RL 6 (some .boolean) "areMachinesRight" E) (hR : 3 ≤ R.frames ∧ 67 ≤ R.locals) (rec40 : Option Nat → Option Nat → Int32 → Wd → Option (Int32 × Wd)) (hrec40 : ∀ (x0_ : Option Nat) (x1_ : Option Nat) (x2_ : Int32) (w_ : Wd) (H : Heap) (locs : List Loc) (cells slots : Nat) (ls : Array Slot), wd_Z E w0 R s w_ H locs cells slots [(x0_, 12), (x1_, 26)] → lv_has ls 6 [(0, va_rf x0_), (1, va_rf x1_), (2, .int x2_)] → rec40 x0_ x1_ x2_ w_ = some (r', w') → W p l e R s m args below meth c H locs cells slots (wd_fin E w0 (some (.int r')) w' True R args s below) (F0 m 40 ls [])) : ∀ (k : Nat) (x0 : Option Nat) (x1 : Option Nat) (x2 : Int32) (x3 : Int32) (w : Wd) (H : Heap) (locs : List Loc) (cells slots : Nat) (ls : Array Slot), wd_Z E w0 R s w H locs cells slots [(x0, 12), (x1, 26)] → lv_has ls 6 [(0, va_rf x0), (1, va_rf x1), (2, .int x2), (3, .int x3)] → wd_lp5 (f_L_areMachinesRight_l170 n rec40) k x0 x1 x2 x3 w = some (r', w') → W p l e R s m args below meth c H locs cells slots (wd_fin E w0 (some (.int r')) w' True R args s below) (F0 m 170 ls []) := by
  intro k
  induction k with
  | zero => intro _ _ _ _ _ _ _ _ _ _ _ _ hf; cases hf
  | succ k ih =>
    intro x0 x1 x2 x3 w H locs cells slots ls hZ hl hf
    exact v_L_areMachinesRight_b170 n C hR rec40 hrec40 (wd_lp5 (f_L_areMachinesRight_l170 n rec40) k) ih x0 x1 x2 x3 w H locs cells slots ls hZ hl hf

set_option maxHeartbeats 4000000 in
set_option maxRecDepth 100000 in
theorem v_L_areMachinesRight_j160 {p : Program} {l : Launch} {e : Env} {R : Room} {s : State} {m : MethodId} {args : Array Value} {below : List Frame} {meth : Method} {c : Code} {E : wd_E} {w0 : Wd} {r' : Int32} {w' : Wd} (n : Nat) (C : wd_X p s m args meth c cL_areMachinesRight RL 6 (some .boolean) "areMachinesRight" E) (hR : 3 ≤ R.frames ∧ 67 ≤ R.locals) (w : Wd) (H : Heap) (locs : List Loc) (cells slots : Nat) (ls : Array Slot) (hZ : wd_Z E w0 R s w H locs cells slots []) (hl : lv_has ls 6 []) (hf : f_L_areMachinesRight_j160 n w = some (r', w')) : W p l e R s m args below meth c H locs cells slots (wd_fin E w0 (some (.int r')) w' True R args s below) (F0 m 160 ls []) := by
  obtain ⟨hx, hb, hr, hml, hts, hown, hlocks, hmn, hK⟩ := id C
  unfold f_L_areMachinesRight_j160 at hf
  refine lv_iconst (v := 0) hx hb dL_areMachinesRight_160 (by decide) ?_
  obtain ⟨rfl, rfl⟩ := Prod.mk.inj (Option.some.inj hf)
  exact z_zret (by decide) hx hb hr hlocks hZ trivial dL_areMachinesRight_161

set_option maxHeartbeats 4000000 in
set_option maxRecDepth 100000 in
theorem v_L_areMachinesRight_j162 {p : Program} {l : Launch} {e : Env} {R : Room} {s : State} {m : MethodId} {args : Array Value} {below : List Frame} {meth : Method} {c : Code} {E : wd_E} {w0 : Wd} {r' : Int32} {w' : Wd} (n : Nat) (C : wd_X p s m args meth c cL_areMachinesRight RL 6 (some .boolean) "areMachinesRight" E) (hR : 3 ≤ R.frames ∧ 67 ≤ R.locals) (rec40 : Option Nat → Option Nat → Int32 → Wd → Option (Int32 × Wd)) (hrec40 : ∀ (x0_ : Option Nat) (x1_ : Option Nat) (x2_ : Int32) (w_ : Wd) (H : Heap) (locs : List Loc) (cells slots : Nat) (ls : Array Slot), wd_Z E w0 R s w_ H locs cells slots [(x0_, 12), (x1_, 26)] → lv_has ls 6 [(0, va_rf x0_), (1, va_rf x1_), (2, .int x2_)] → rec40 x0_ x1_ x2_ w_ = some (r', w') → W p l e R s m args below meth c H locs cells slots (wd_fin E w0 (some (.int r')) w' True R args s below) (F0 m 40 ls [])) (rec71 : Option Nat → Option Nat → Int32 → Int32 → Wd → Option (Int32 × Wd)) (hrec71 : ∀ (x0_ : Option Nat) (x1_ : Option Nat) (x2_ : Int32) (x3_ : Int32) (w_ : Wd) (H : Heap) (locs : List Loc) (cells slots : Nat) (ls : Array Slot), wd_Z E w0 R s w_ H locs cells slots [(x0_, 12), (x1_, 26)] → lv_has ls 6 [(0, va_rf x0_), (1, va_rf x1_), (2, .int x2_), (3, .int x3_)] → rec71 x0_ x1_ x2_ x3_ w_ = some (r', w') → W p l e R s m args below meth c H locs cells slots (wd_fin E w0 (some (.int r')) w' True R args s below) (F0 m 71 ls [])) (x0 : Option Nat) (x1 : Option Nat) (x2 : Int32) (x3 : Int32) (w : Wd) (H : Heap) (locs : List Loc) (cells slots : Nat) (ls : Array Slot) (hZ : wd_Z E w0 R s w H locs cells slots [(x0, 12), (x1, 26)]) (hl : lv_has ls 6 [(0, va_rf x0), (1, va_rf x1), (2, .int x2), (3, .int x3)]) (hf : f_L_areMachinesRight_j162 n rec40 rec71 x0 x1 x2 x3 w = some (r', w')) : W p l e R s m args below meth c H locs cells slots (wd_fin E w0 (some (.int r')) w' True R args s below) (F0 m 162 ls []) := by
  obtain ⟨hx, hb, hr, hml, hts, hown, hlocks, hmn, hK⟩ := id C
  unfold f_L_areMachinesRight_j162 at hf
  have hf9 := wd_let_e hf; clear hf; obtain ⟨v108, e109, hf⟩ := hf9
  refine lv_iinc (k := 3) (v := v108) (lv' := [(3, .int v108), (0, va_rf x0), (1, va_rf x1), (2, .int x2)]) hx hb dL_areMachinesRight_162 hl rfl (by rw [← e109]; rfl) (by decide) rfl ?_; clear hl; intro ls hl
  refine lv_goto (tgt := 71) hx hb dL_areMachinesRight_165 (by decide) ?_
  exact hrec71 x0 x1 x2 v108 w _ _ _ _ _ ⟨hZ.1, hZ.2.1, hZ.2.2.1, hZ.2.2.2.1, (List.forall_mem_cons.mpr ⟨⟨Nat.succ_ne_zero _, (fun q hq => hZ.k 0 rfl hq)⟩, (List.forall_mem_cons.mpr ⟨⟨Nat.succ_ne_zero _, (fun q hq => hZ.k 1 rfl hq)⟩, (fun _ hq => absurd hq List.not_mem_nil)⟩)⟩), hZ.2.2.2.2.2⟩ (lv_sub hl [1, 2, 3, 0] rfl) hf

set_option maxHeartbeats 4000000 in
set_option maxRecDepth 100000 in
theorem v_L_areMachinesRight_b71 {p : Program} {l : Launch} {e : Env} {R : Room} {s : State} {m : MethodId} {args : Array Value} {below : List Frame} {meth : Method} {c : Code} {E : wd_E} {w0 : Wd} {r' : Int32} {w' : Wd} (n : Nat) (C : wd_X p s m args meth c cL_areMachinesRight RL 6 (some .boolean) "areMachinesRight" E) (hR : 3 ≤ R.frames ∧ 67 ≤ R.locals) (rec40 : Option Nat → Option Nat → Int32 → Wd → Option (Int32 × Wd)) (hrec40 : ∀ (x0_ : Option Nat) (x1_ : Option Nat) (x2_ : Int32) (w_ : Wd) (H : Heap) (locs : List Loc) (cells slots : Nat) (ls : Array Slot), wd_Z E w0 R s w_ H locs cells slots [(x0_, 12), (x1_, 26)] → lv_has ls 6 [(0, va_rf x0_), (1, va_rf x1_), (2, .int x2_)] → rec40 x0_ x1_ x2_ w_ = some (r', w') → W p l e R s m args below meth c H locs cells slots (wd_fin E w0 (some (.int r')) w' True R args s below) (F0 m 40 ls [])) (rec71 : Option Nat → Option Nat → Int32 → Int32 → Wd → Option (Int32 × Wd)) (hrec71 : ∀ (x0_ : Option Nat) (x1_ : Option Nat) (x2_ : Int32) (x3_ : Int32) (w_ : Wd) (H : Heap) (locs : List Loc) (cells slots : Nat) (ls : Array Slot), wd_Z E w0 R s w_ H locs cells slots [(x0_, 12), (x1_, 26)] → lv_has ls 6 [(0, va_rf x0_), (1, va_rf x1_), (2, .int x2_), (3, .int x3_)] → rec71 x0_ x1_ x2_ x3_ w_ = some (r', w') → W p l e R s m args below meth c H locs cells slots (wd_fin E w0 (some (.int r')) w' True R args s below) (F0 m 71 ls [])) (x0 : Option Nat) (x1 : Option Nat) (x2 : Int32) (x3 : Int32) (w : Wd) (H : Heap) (locs : List Loc) (cells slots : Nat) (ls : Array Slot) (hZ : wd_Z E w0 R s w H locs cells slots [(x0, 12), (x1, 26)]) (hl : lv_has ls 6 [(0, va_rf x0), (1, va_rf x1), (2, .int x2), (3, .int x3)]) (hf : f_L_areMachinesRight_l71 n rec40 rec71 x0 x1 x2 x3 w = some (r', w')) : W p l e R s m args below meth c H locs cells slots (wd_fin E w0 (some (.int r')) w' True R args s below) (F0 m 71 ls []) := by
  obtain ⟨hx, hb, hr, hml, hts, hown, hlocks, hmn, hK⟩ := id C
  unfold f_L_areMachinesRight_l71 at hf
  refine lv_iload_n (i := 3) hx hb dL_areMachinesRight_71 rfl (lv_at hl 3 rfl) ?_
  refine lv_bipush (v := 10) hx hb dL_areMachinesRight_72 (by decide) ?_
  refine z_aload_n (i := 0) hx hb dL_areMachinesRight_74 rfl (lv_at hl 0 rfl) ?_
  refine lv_iload_n (i := 2) hx hb dL_areMachinesRight_75 rfl (lv_at hl 2 rfl) ?_
  have hf9 := Option.bind_eq_some_iff.mp hf; clear hf; obtain ⟨a33, ha33, hf⟩ := hf9
  subst ha33
  replace hl : lv_has ls 6 [(0, .ref a33), (1, va_rf x1), (2, .int x2), (3, .int x3)] := hl
  replace hZ : wd_Z E w0 R s w H locs cells slots [(some a33, 12), (x1, 26)] := hZ
  have hf9 := wd_b2_e hf; clear hf; obtain ⟨r36, w34, hc35, hf⟩ := hf9
  refine z_callV (ci := 11) (As := [.int x2]) (rest := [.int (10 : Int32), .int x3]) (c_X11_noted l E n w a33 x2 r36 w34 (hZ.k 0 rfl rfl) hc35) mo_X11_noted rfl (by decide) rfl tw_998 tw_999 tw_997 hx hb hml hts hown hK ⟨Nat.le_trans (by decide) hR.1, Nat.le_trans (by decide) hR.2⟩ hZ (hZ.k 0 rfl rfl) rfl hl.1 rfl (Nat.le_of_ble_eq_true rfl) rfl dL_areMachinesRight_76 ?_; clear hZ; intro H locs cells slots hX hZ
  have hb3 := hZ.2.2.1
  refine va_mmin hx hb (hml.trans hl.1.symm) hown (hts _ tw_1001) (hts _ tw_859) (hts _ tw_46) (hts _ tw_860) (Nat.le_trans (by decide) hR.1) (Nat.le_trans (Nat.le_of_ble_eq_true rfl) hR.2) (by omega) (by omega) dL_areMachinesRight_79 ?_
  refine lv_icmp_ge (tgt := 168) hx hb dL_areMachinesRight_82 (by decide) (fun h37 => ?_) (fun h37 => ?_)
  · replace hf := wd_ite_p h37 hf
    refine lv_iconst (v := 0) hx hb dL_areMachinesRight_168 (by decide) ?_
    refine lv_istore_n (i := 3) (lv' := [(3, .int (0 : Int32)), (0, .ref a33), (1, va_rf x1), (2, .int x2)]) hx hb dL_areMachinesRight_169 rfl hl (by decide) rfl ?_; clear hl; intro ls hl
    exact v_L_areMachinesRight_l170 n C hR rec40 hrec40 n (some a33) x1 x2 (0 : Int32) w34 _ _ _ _ _ ⟨hZ.1, hZ.2.1, hZ.2.2.1, hZ.2.2.2.1, (List.forall_mem_cons.mpr ⟨⟨Nat.succ_ne_zero _, (fun q hq => by cases hq; exact (hZ.k 0 rfl rfl))⟩, (List.forall_mem_cons.mpr ⟨⟨Nat.succ_ne_zero _, (fun q hq => hZ.k 1 rfl hq)⟩, (fun _ hq => absurd hq List.not_mem_nil)⟩)⟩), hZ.2.2.2.2.2⟩ (lv_sub hl [1, 2, 3, 0] rfl) hf
  · replace hf := wd_ite_n h37 hf
    refine lv_aload_n (i := 0) hx hb dL_areMachinesRight_85 rfl (lv_at hl 0 rfl) ?_
    refine lv_iload_n (i := 2) hx hb dL_areMachinesRight_86 rfl (lv_at hl 2 rfl) ?_
    refine lv_iload_n (i := 3) hx hb dL_areMachinesRight_87 rfl (lv_at hl 3 rfl) ?_
    refine lv_iconst (v := 0) hx hb dL_areMachinesRight_88 (by decide) ?_
    have hf9 := wd_b2_e hf; clear hf; obtain ⟨r91, w89, hc90, hf⟩ := hf9
    refine z_callV (ci := 11) (As := [.int x2, .int x3, .int (0 : Int32)]) (rest := []) (c_X11_note l E n w34 a33 x2 x3 (0 : Int32) r91 w89 (hZ.k 0 rfl rfl) hc90) mo_X11_note rfl (by decide) rfl tw_1003 tw_1004 tw_1002 hx hb hml hts hown hK ⟨Nat.le_trans (by decide) hR.1, Nat.le_trans (by decide) hR.2⟩ hZ (hZ.k 0 rfl rfl) rfl hl.1 rfl (Nat.le_of_ble_eq_true rfl) rfl dL_areMachinesRight_89 ?_; clear hZ; intro H locs cells slots hX hZ
    refine lv_istore (i := 4) (lv' := [(4, .int r91), (0, .ref a33), (1, va_rf x1), (2, .int x2), (3, .int x3)]) hx hb dL_areMachinesRight_92 hl (by decide) rfl ?_; clear hl; intro ls hl
    refine lv_iload hx hb dL_areMachinesRight_94 (lv_at hl 0 rfl) ?_
    refine lv_iconst (v := 1) hx hb dL_areMachinesRight_96 (by decide) ?_
    refine lv_icmp_eq (tgt := 160) hx hb dL_areMachinesRight_97 (by decide) (fun h92 => ?_) (fun h92 => ?_)
    · replace hf := wd_ite_p h92 hf
      exact v_L_areMachinesRight_j160 n C hR w89 _ _ _ _ _ ⟨hZ.1, hZ.2.1, hZ.2.2.1, hZ.2.2.2.1, (fun _ hq => absurd hq List.not_mem_nil), hZ.2.2.2.2.2⟩ (lv_sub hl [] rfl) hf
    · replace hf := wd_ite_n h92 hf
      refine lv_iload hx hb dL_areMachinesRight_100 (lv_at hl 0 rfl) ?_
      refine lv_bipush (v := 6) hx hb dL_areMachinesRight_102 (by decide) ?_
      refine lv_icmp_eq (tgt := 160) hx hb dL_areMachinesRight_104 (by decide) (fun h93 => ?_) (fun h93 => ?_)
      · replace hf := wd_ite_p h93 hf
        exact v_L_areMachinesRight_j160 n C hR w89 _ _ _ _ _ ⟨hZ.1, hZ.2.1, hZ.2.2.1, hZ.2.2.2.1, (fun _ hq => absurd hq List.not_mem_nil), hZ.2.2.2.2.2⟩ (lv_sub hl [] rfl) hf
      · replace hf := wd_ite_n h93 hf
        refine lv_iload hx hb dL_areMachinesRight_107 (lv_at hl 0 rfl) ?_
        refine lv_if_lt (tgt := 160) hx hb dL_areMachinesRight_109 (by decide) (fun h94 => ?_) (fun h94 => ?_)
        · replace hf := wd_ite_p h94 hf
          exact v_L_areMachinesRight_j160 n C hR w89 _ _ _ _ _ ⟨hZ.1, hZ.2.1, hZ.2.2.1, hZ.2.2.2.1, (fun _ hq => absurd hq List.not_mem_nil), hZ.2.2.2.2.2⟩ (lv_sub hl [] rfl) hf
        · replace hf := wd_ite_n h94 hf
          refine lv_iload hx hb dL_areMachinesRight_112 (lv_at hl 0 rfl) ?_
          refine lv_bipush (v := 6) hx hb dL_areMachinesRight_114 (by decide) ?_
          refine lv_icmp_gt (tgt := 160) hx hb dL_areMachinesRight_116 (by decide) (fun h95 => ?_) (fun h95 => ?_)
          · replace hf := wd_ite_p h95 hf
            exact v_L_areMachinesRight_j160 n C hR w89 _ _ _ _ _ ⟨hZ.1, hZ.2.1, hZ.2.2.1, hZ.2.2.2.1, (fun _ hq => absurd hq List.not_mem_nil), hZ.2.2.2.2.2⟩ (lv_sub hl [] rfl) hf
          · replace hf := wd_ite_n h95 hf
            refine lv_aload_n (i := 0) hx hb dL_areMachinesRight_119 rfl (lv_at hl 1 rfl) ?_
            refine lv_iload_n (i := 2) hx hb dL_areMachinesRight_120 rfl (lv_at hl 3 rfl) ?_
            refine lv_iload_n (i := 3) hx hb dL_areMachinesRight_121 rfl (lv_at hl 4 rfl) ?_
            refine lv_iconst (v := 3) hx hb dL_areMachinesRight_122 (by decide) ?_
            have hf9 := wd_b2_e hf; clear hf; obtain ⟨r98, w96, hc97, hf⟩ := hf9
            refine z_callV (ci := 11) (As := [.int x2, .int x3, .int (3 : Int32)]) (rest := []) (c_X11_note l E n w89 a33 x2 x3 (3 : Int32) r98 w96 (hZ.k 0 rfl rfl) hc97) mo_X11_note rfl (by decide) rfl tw_1003 tw_1004 tw_1002 hx hb hml hts hown hK ⟨Nat.le_trans (by decide) hR.1, Nat.le_trans (by decide) hR.2⟩ hZ (hZ.k 0 rfl rfl) rfl hl.1 rfl (Nat.le_of_ble_eq_true rfl) rfl dL_areMachinesRight_123 ?_; clear hZ; intro H locs cells slots hX hZ
            refine lv_iconst (v := 1) hx hb dL_areMachinesRight_126 (by decide) ?_
            refine lv_icmp_lt (tgt := 160) hx hb dL_areMachinesRight_127 (by decide) (fun h99 => ?_) (fun h99 => ?_)
            · replace hf := wd_ite_p h99 hf
              exact v_L_areMachinesRight_j160 n C hR w96 _ _ _ _ _ ⟨hZ.1, hZ.2.1, hZ.2.2.1, hZ.2.2.2.1, (fun _ hq => absurd hq List.not_mem_nil), hZ.2.2.2.2.2⟩ (lv_sub hl [] rfl) hf
            · replace hf := wd_ite_n h99 hf
              refine lv_aload_n (i := 0) hx hb dL_areMachinesRight_130 rfl (lv_at hl 1 rfl) ?_
              refine lv_iload_n (i := 2) hx hb dL_areMachinesRight_131 rfl (lv_at hl 3 rfl) ?_
              refine lv_iload_n (i := 3) hx hb dL_areMachinesRight_132 rfl (lv_at hl 4 rfl) ?_
              refine lv_iconst (v := 4) hx hb dL_areMachinesRight_133 (by decide) ?_
              have hf9 := wd_b2_e hf; clear hf; obtain ⟨r102, w100, hc101, hf⟩ := hf9
              refine z_callV (ci := 11) (As := [.int x2, .int x3, .int (4 : Int32)]) (rest := []) (c_X11_note l E n w96 a33 x2 x3 (4 : Int32) r102 w100 (hZ.k 0 rfl rfl) hc101) mo_X11_note rfl (by decide) rfl tw_1003 tw_1004 tw_1002 hx hb hml hts hown hK ⟨Nat.le_trans (by decide) hR.1, Nat.le_trans (by decide) hR.2⟩ hZ (hZ.k 0 rfl rfl) rfl hl.1 rfl (Nat.le_of_ble_eq_true rfl) rfl dL_areMachinesRight_134 ?_; clear hZ; intro H locs cells slots hX hZ
              refine lv_aload_n (i := 0) hx hb dL_areMachinesRight_137 rfl (lv_at hl 1 rfl) ?_
              have hf9 := wd_b2_e hf; clear hf; obtain ⟨r105, w103, hc104, hf⟩ := hf9
              refine z_callV (ci := 11) (As := []) (rest := [.int r102]) (c_X11_packets l E n w100 a33 r105 w103 (hZ.k 0 rfl rfl) hc104) mo_X11_packets rfl (by decide) rfl tw_514 tw_515 tw_513 hx hb hml hts hown hK ⟨Nat.le_trans (by decide) hR.1, Nat.le_trans (by decide) hR.2⟩ hZ (hZ.k 0 rfl rfl) rfl hl.1 rfl (Nat.le_of_ble_eq_true rfl) rfl dL_areMachinesRight_138 ?_; clear hZ; intro H locs cells slots hX hZ
              refine lv_icmp_ge (tgt := 160) hx hb dL_areMachinesRight_141 (by decide) (fun h106 => ?_) (fun h106 => ?_)
              · replace hf := wd_ite_p h106 hf
                exact v_L_areMachinesRight_j160 n C hR w103 _ _ _ _ _ ⟨hZ.1, hZ.2.1, hZ.2.2.1, hZ.2.2.2.1, (fun _ hq => absurd hq List.not_mem_nil), hZ.2.2.2.2.2⟩ (lv_sub hl [] rfl) hf
              · replace hf := wd_ite_n h106 hf
                refine lv_iload hx hb dL_areMachinesRight_144 (lv_at hl 0 rfl) ?_
                refine lv_iconst (v := 2) hx hb dL_areMachinesRight_146 (by decide) ?_
                refine lv_icmp_le (tgt := 162) hx hb dL_areMachinesRight_147 (by decide) (fun h107 => ?_) (fun h107 => ?_)
                · replace hf := wd_ite_p h107 hf
                  exact v_L_areMachinesRight_j162 n C hR rec40 hrec40 rec71 hrec71 (some a33) x1 x2 x3 w103 _ _ _ _ _ ⟨hZ.1, hZ.2.1, hZ.2.2.1, hZ.2.2.2.1, (List.forall_mem_cons.mpr ⟨⟨Nat.succ_ne_zero _, (fun q hq => by cases hq; exact (hZ.k 0 rfl rfl))⟩, (List.forall_mem_cons.mpr ⟨⟨Nat.succ_ne_zero _, (fun q hq => hZ.k 1 rfl hq)⟩, (fun _ hq => absurd hq List.not_mem_nil)⟩)⟩), hZ.2.2.2.2.2⟩ (lv_sub hl [1, 2, 3, 4] rfl) hf
                · replace hf := wd_ite_n h107 hf
                  refine lv_aload_n (i := 0) hx hb dL_areMachinesRight_150 rfl (lv_at hl 1 rfl) ?_
                  refine lv_iload_n (i := 2) hx hb dL_areMachinesRight_151 rfl (lv_at hl 3 rfl) ?_
                  refine lv_iload_n (i := 3) hx hb dL_areMachinesRight_152 rfl (lv_at hl 4 rfl) ?_
                  refine lv_iconst (v := 2) hx hb dL_areMachinesRight_153 (by decide) ?_
                  have hf9 := wd_b2_e hf; clear hf; obtain ⟨r112, w110, hc111, hf⟩ := hf9
                  refine z_callV (ci := 11) (As := [.int x2, .int x3, .int (2 : Int32)]) (rest := []) (c_X11_note l E n w103 a33 x2 x3 (2 : Int32) r112 w110 (hZ.k 0 rfl rfl) hc111) mo_X11_note rfl (by decide) rfl tw_1003 tw_1004 tw_1002 hx hb hml hts hown hK ⟨Nat.le_trans (by decide) hR.1, Nat.le_trans (by decide) hR.2⟩ hZ (hZ.k 0 rfl rfl) rfl hl.1 rfl (Nat.le_of_ble_eq_true rfl) rfl dL_areMachinesRight_154 ?_; clear hZ; intro H locs cells slots hX hZ
                  refine lv_if_eq (tgt := 162) hx hb dL_areMachinesRight_157 (by decide) (fun h113 => ?_) (fun h113 => ?_)
                  · replace hf := wd_ite_p h113 hf
                    exact v_L_areMachinesRight_j162 n C hR rec40 hrec40 rec71 hrec71 (some a33) x1 x2 x3 w110 _ _ _ _ _ ⟨hZ.1, hZ.2.1, hZ.2.2.1, hZ.2.2.2.1, (List.forall_mem_cons.mpr ⟨⟨Nat.succ_ne_zero _, (fun q hq => by cases hq; exact (hZ.k 0 rfl rfl))⟩, (List.forall_mem_cons.mpr ⟨⟨Nat.succ_ne_zero _, (fun q hq => hZ.k 1 rfl hq)⟩, (fun _ hq => absurd hq List.not_mem_nil)⟩)⟩), hZ.2.2.2.2.2⟩ (lv_sub hl [1, 2, 3, 4] rfl) hf
                  · replace hf := wd_ite_n h113 hf
                    exact v_L_areMachinesRight_j160 n C hR w110 _ _ _ _ _ ⟨hZ.1, hZ.2.1, hZ.2.2.1, hZ.2.2.2.1, (fun _ hq => absurd hq List.not_mem_nil), hZ.2.2.2.2.2⟩ (lv_sub hl [] rfl) hf

theorem v_L_areMachinesRight_l71 {p : Program} {l : Launch} {e : Env} {R : Room} {s : State} {m : MethodId} {args : Array Value} {below : List Frame} {meth : Method} {c : Code} {E : wd_E} {w0 : Wd} {r' : Int32} {w' : Wd} (n : Nat) (C : wd_X p s m args meth c cL_areMachinesRight RL 6 (some .boolean) "areMachinesRight" E) (hR : 3 ≤ R.frames ∧ 67 ≤ R.locals) (rec40 : Option Nat → Option Nat → Int32 → Wd → Option (Int32 × Wd)) (hrec40 : ∀ (x0_ : Option Nat) (x1_ : Option Nat) (x2_ : Int32) (w_ : Wd) (H : Heap) (locs : List Loc) (cells slots : Nat) (ls : Array Slot), wd_Z E w0 R s w_ H locs cells slots [(x0_, 12), (x1_, 26)] → lv_has ls 6 [(0, va_rf x0_), (1, va_rf x1_), (2, .int x2_)] → rec40 x0_ x1_ x2_ w_ = some (r', w') → W p l e R s m args below meth c H locs cells slots (wd_fin E w0 (some (.int r')) w' True R args s below) (F0 m 40 ls [])) : ∀ (k : Nat) (x0 : Option Nat) (x1 : Option Nat) (x2 : Int32) (x3 : Int32) (w : Wd) (H : Heap) (locs : List Loc) (cells slots : Nat) (ls : Array Slot), wd_Z E w0 R s w H locs cells slots [(x0, 12), (x1, 26)] → lv_has ls 6 [(0, va_rf x0), (1, va_rf x1), (2, .int x2), (3, .int x3)] → wd_lp5 (f_L_areMachinesRight_l71 n rec40) k x0 x1 x2 x3 w = some (r', w') → W p l e R s m args below meth c H locs cells slots (wd_fin E w0 (some (.int r')) w' True R args s below) (F0 m 71 ls []) := by
  intro k
  induction k with
  | zero => intro _ _ _ _ _ _ _ _ _ _ _ _ hf; cases hf
  | succ k ih =>
    intro x0 x1 x2 x3 w H locs cells slots ls hZ hl hf
    exact v_L_areMachinesRight_b71 n C hR rec40 hrec40 (wd_lp5 (f_L_areMachinesRight_l71 n rec40) k) ih x0 x1 x2 x3 w H locs cells slots ls hZ hl hf

set_option maxHeartbeats 4000000 in
set_option maxRecDepth 100000 in
theorem v_L_areMachinesRight_b40 {p : Program} {l : Launch} {e : Env} {R : Room} {s : State} {m : MethodId} {args : Array Value} {below : List Frame} {meth : Method} {c : Code} {E : wd_E} {w0 : Wd} {r' : Int32} {w' : Wd} (n : Nat) (C : wd_X p s m args meth c cL_areMachinesRight RL 6 (some .boolean) "areMachinesRight" E) (hR : 3 ≤ R.frames ∧ 67 ≤ R.locals) (rec40 : Option Nat → Option Nat → Int32 → Wd → Option (Int32 × Wd)) (hrec40 : ∀ (x0_ : Option Nat) (x1_ : Option Nat) (x2_ : Int32) (w_ : Wd) (H : Heap) (locs : List Loc) (cells slots : Nat) (ls : Array Slot), wd_Z E w0 R s w_ H locs cells slots [(x0_, 12), (x1_, 26)] → lv_has ls 6 [(0, va_rf x0_), (1, va_rf x1_), (2, .int x2_)] → rec40 x0_ x1_ x2_ w_ = some (r', w') → W p l e R s m args below meth c H locs cells slots (wd_fin E w0 (some (.int r')) w' True R args s below) (F0 m 40 ls [])) (x0 : Option Nat) (x1 : Option Nat) (x2 : Int32) (w : Wd) (H : Heap) (locs : List Loc) (cells slots : Nat) (ls : Array Slot) (hZ : wd_Z E w0 R s w H locs cells slots [(x0, 12), (x1, 26)]) (hl : lv_has ls 6 [(0, va_rf x0), (1, va_rf x1), (2, .int x2)]) (hf : f_L_areMachinesRight_l40 n rec40 x0 x1 x2 w = some (r', w')) : W p l e R s m args below meth c H locs cells slots (wd_fin E w0 (some (.int r')) w' True R args s below) (F0 m 40 ls []) := by
  obtain ⟨hx, hb, hr, hml, hts, hown, hlocks, hmn, hK⟩ := id C
  unfold f_L_areMachinesRight_l40 at hf
  refine lv_iload_n (i := 2) hx hb dL_areMachinesRight_40 rfl (lv_at hl 2 rfl) ?_
  refine z_aload_n (i := 0) hx hb dL_areMachinesRight_41 rfl (lv_at hl 0 rfl) ?_
  have hf9 := Option.bind_eq_some_iff.mp hf; clear hf; obtain ⟨a20, ha20, hf⟩ := hf9
  subst ha20
  replace hl : lv_has ls 6 [(0, .ref a20), (1, va_rf x1), (2, .int x2)] := hl
  replace hZ : wd_Z E w0 R s w H locs cells slots [(some a20, 12), (x1, 26)] := hZ
  have hf9 := wd_b2_e hf; clear hf; obtain ⟨r23, w21, hc22, hf⟩ := hf9
  refine z_callV (ci := 11) (As := []) (rest := [.int x2]) (c_X11_machines l E n w a20 r23 w21 (hZ.k 0 rfl rfl) hc22) mo_X11_machines rfl (by decide) rfl tw_510 tw_511 tw_509 hx hb hml hts hown hK ⟨Nat.le_trans (by decide) hR.1, Nat.le_trans (by decide) hR.2⟩ hZ (hZ.k 0 rfl rfl) rfl hl.1 rfl (Nat.le_of_ble_eq_true rfl) rfl dL_areMachinesRight_42 ?_; clear hZ; intro H locs cells slots hX hZ
  refine lv_icmp_ge (tgt := 321) hx hb dL_areMachinesRight_45 (by decide) (fun h24 => ?_) (fun h24 => ?_)
  · replace hf := wd_ite_p h24 hf
    refine lv_iconst (v := 1) hx hb dL_areMachinesRight_321 (by decide) ?_
    obtain ⟨rfl, rfl⟩ := Prod.mk.inj (Option.some.inj hf)
    exact z_zret (by decide) hx hb hr hlocks hZ trivial dL_areMachinesRight_322
  · replace hf := wd_ite_n h24 hf
    refine lv_aload_n (i := 0) hx hb dL_areMachinesRight_48 rfl (lv_at hl 0 rfl) ?_
    refine lv_iload_n (i := 2) hx hb dL_areMachinesRight_49 rfl (lv_at hl 2 rfl) ?_
    have hf9 := wd_b2_e hf; clear hf; obtain ⟨r27, w25, hc26, hf⟩ := hf9
    refine z_callV (ci := 11) (As := [.int x2]) (rest := []) (c_X11_waiting l E n w21 a20 x2 r27 w25 (hZ.k 0 rfl rfl) hc26) mo_X11_waiting rfl (by decide) rfl tw_954 tw_955 tw_953 hx hb hml hts hown hK ⟨Nat.le_trans (by decide) hR.1, Nat.le_trans (by decide) hR.2⟩ hZ (hZ.k 0 rfl rfl) rfl hl.1 rfl (Nat.le_of_ble_eq_true rfl) rfl dL_areMachinesRight_50 ?_; clear hZ; intro H locs cells slots hX hZ
    refine lv_bipush (v := 6) hx hb dL_areMachinesRight_53 (by decide) ?_
    refine lv_icmp_gt (tgt := 67) hx hb dL_areMachinesRight_55 (by decide) (fun h28 => ?_) (fun h28 => ?_)
    · replace hf := wd_ite_p h28 hf
      exact v_L_areMachinesRight_j67 n C hR w25 _ _ _ _ _ ⟨hZ.1, hZ.2.1, hZ.2.2.1, hZ.2.2.2.1, (fun _ hq => absurd hq List.not_mem_nil), hZ.2.2.2.2.2⟩ (lv_sub hl [] rfl) hf
    · replace hf := wd_ite_n h28 hf
      refine lv_aload_n (i := 0) hx hb dL_areMachinesRight_58 rfl (lv_at hl 0 rfl) ?_
      refine lv_iload_n (i := 2) hx hb dL_areMachinesRight_59 rfl (lv_at hl 2 rfl) ?_
      have hf9 := wd_b2_e hf; clear hf; obtain ⟨r31, w29, hc30, hf⟩ := hf9
      refine z_callV (ci := 11) (As := [.int x2]) (rest := []) (c_X11_heaps l E n w25 a20 x2 r31 w29 (hZ.k 0 rfl rfl) hc30) mo_X11_heaps rfl (by decide) rfl tw_994 tw_995 tw_993 hx hb hml hts hown hK ⟨Nat.le_trans (by decide) hR.1, Nat.le_trans (by decide) hR.2⟩ hZ (hZ.k 0 rfl rfl) rfl hl.1 rfl (Nat.le_of_ble_eq_true rfl) rfl dL_areMachinesRight_60 ?_; clear hZ; intro H locs cells slots hX hZ
      refine lv_iconst (v := 3) hx hb dL_areMachinesRight_63 (by decide) ?_
      refine lv_icmp_le (tgt := 69) hx hb dL_areMachinesRight_64 (by decide) (fun h32 => ?_) (fun h32 => ?_)
      · replace hf := wd_ite_p h32 hf
        refine lv_iconst (v := 0) hx hb dL_areMachinesRight_69 (by decide) ?_
        refine lv_istore_n (i := 3) (lv' := [(3, .int (0 : Int32)), (0, .ref a20), (1, va_rf x1), (2, .int x2)]) hx hb dL_areMachinesRight_70 rfl hl (by decide) rfl ?_; clear hl; intro ls hl
        exact v_L_areMachinesRight_l71 n C hR rec40 hrec40 n (some a20) x1 x2 (0 : Int32) w29 _ _ _ _ _ ⟨hZ.1, hZ.2.1, hZ.2.2.1, hZ.2.2.2.1, (List.forall_mem_cons.mpr ⟨⟨Nat.succ_ne_zero _, (fun q hq => by cases hq; exact (hZ.k 0 rfl rfl))⟩, (List.forall_mem_cons.mpr ⟨⟨Nat.succ_ne_zero _, (fun q hq => hZ.k 1 rfl hq)⟩, (fun _ hq => absurd hq List.not_mem_nil)⟩)⟩), hZ.2.2.2.2.2⟩ (lv_sub hl [1, 2, 3, 0] rfl) hf
      · replace hf := wd_ite_n h32 hf
        exact v_L_areMachinesRight_j67 n C hR w29 _ _ _ _ _ ⟨hZ.1, hZ.2.1, hZ.2.2.1, hZ.2.2.2.1, (fun _ hq => absurd hq List.not_mem_nil), hZ.2.2.2.2.2⟩ (lv_sub hl [] rfl) hf

theorem v_L_areMachinesRight_l40 {p : Program} {l : Launch} {e : Env} {R : Room} {s : State} {m : MethodId} {args : Array Value} {below : List Frame} {meth : Method} {c : Code} {E : wd_E} {w0 : Wd} {r' : Int32} {w' : Wd} (n : Nat) (C : wd_X p s m args meth c cL_areMachinesRight RL 6 (some .boolean) "areMachinesRight" E) (hR : 3 ≤ R.frames ∧ 67 ≤ R.locals) : ∀ (k : Nat) (x0 : Option Nat) (x1 : Option Nat) (x2 : Int32) (w : Wd) (H : Heap) (locs : List Loc) (cells slots : Nat) (ls : Array Slot), wd_Z E w0 R s w H locs cells slots [(x0, 12), (x1, 26)] → lv_has ls 6 [(0, va_rf x0), (1, va_rf x1), (2, .int x2)] → wd_lp4 (f_L_areMachinesRight_l40 n) k x0 x1 x2 w = some (r', w') → W p l e R s m args below meth c H locs cells slots (wd_fin E w0 (some (.int r')) w' True R args s below) (F0 m 40 ls []) := by
  intro k
  induction k with
  | zero => intro _ _ _ _ _ _ _ _ _ _ _ hf; cases hf
  | succ k ih =>
    intro x0 x1 x2 w H locs cells slots ls hZ hl hf
    exact v_L_areMachinesRight_b40 n C hR (wd_lp4 (f_L_areMachinesRight_l40 n) k) ih x0 x1 x2 w H locs cells slots ls hZ hl hf

set_option maxHeartbeats 4000000 in
set_option maxRecDepth 100000 in
theorem c_L_areMachinesRight (l : Launch) (E : wd_E) (n : Nat) (w : Wd) (p0 : Option Nat) (p1 : Option Nat) (r' : Int32) (w' : Wd) (k_p0 : ∀ q, p0 = some q → wd_K w q = 12) (k_p1 : ∀ q, p1 = some q → wd_K w q = 26) (hf : f_L_areMachinesRight n w p0 p1 = some (r', w')) : wd_C l E yL_areMachinesRight cL_areMachinesRight 6 (some .boolean) 3 67 [va_rf p0, va_rf p1] w (some (.int r')) w' True := by
  refine wd_ofW (own := RL) (nm := "areMachinesRight") (ks := [(p0, 12), (p1, 26)]) (lv := [(0, va_rf p0), (1, va_rf p1)]) (by decide) rfl rfl (by simp [lg_sl, va_rf_cat, va_cat_r, va_cat_i, va_cat_l, va_cat_d]) (by simp [lv_args, va_rf_cat, va_cat_r, va_cat_i, va_cat_l, va_cat_d]) (List.forall_mem_cons.mpr ⟨⟨Nat.succ_ne_zero _, k_p0⟩, (List.forall_mem_cons.mpr ⟨⟨Nat.succ_ne_zero _, k_p1⟩, (fun _ hq => absurd hq List.not_mem_nil)⟩)⟩) ?_
  intro p e s m args below meth c R H locs cells slots ls C hR hZ hl
  obtain ⟨hx, hb, hr, hml, hts, hown, hlocks, hmn, hK⟩ := id C
  unfold f_L_areMachinesRight at hf
  refine z_aload_n (i := 0) hx hb dL_areMachinesRight_0 rfl (lv_at hl 0 rfl) ?_
  have hf9 := Option.bind_eq_some_iff.mp hf; clear hf; obtain ⟨a1, ha1, hf⟩ := hf9
  subst ha1
  replace hl : lv_has ls 6 [(0, .ref a1), (1, va_rf p1)] := hl
  replace hZ : wd_Z E w R s w H locs cells slots [(some a1, 12), (p1, 26)] := hZ
  have hf9 := wd_b2_e hf; clear hf; obtain ⟨r4, w2, hc3, hf⟩ := hf9
  refine z_callV (ci := 11) (As := []) (rest := []) (c_X11_steps l E n w a1 r4 w2 (hZ.k 0 rfl rfl) hc3) mo_X11_steps rfl (by decide) rfl tw_522 tw_523 tw_521 hx hb hml hts hown hK ⟨Nat.le_trans (by decide) hR.1, Nat.le_trans (by decide) hR.2⟩ hZ (hZ.k 0 rfl rfl) rfl hl.1 rfl (Nat.le_of_ble_eq_true rfl) rfl dL_areMachinesRight_1 ?_; clear hZ; intro H locs cells slots hX hZ
  refine lv_aload_n (i := 0) hx hb dL_areMachinesRight_4 rfl (lv_at hl 0 rfl) ?_
  refine lv_iconst (v := 0) hx hb dL_areMachinesRight_5 (by decide) ?_
  have hf9 := wd_b2_e hf; clear hf; obtain ⟨r7, w5, hc6, hf⟩ := hf9
  refine z_callV (ci := 11) (As := [.int (0 : Int32)]) (rest := [.int r4]) (c_X11_carried l E n w2 a1 (0 : Int32) r7 w5 (hZ.k 0 rfl rfl) hc6) mo_X11_carried rfl (by decide) rfl tw_986 tw_987 tw_985 hx hb hml hts hown hK ⟨Nat.le_trans (by decide) hR.1, Nat.le_trans (by decide) hR.2⟩ hZ (hZ.k 0 rfl rfl) rfl hl.1 rfl (Nat.le_of_ble_eq_true rfl) rfl dL_areMachinesRight_6 ?_; clear hZ; intro H locs cells slots hX hZ
  refine lv_aload_n (i := 0) hx hb dL_areMachinesRight_9 rfl (lv_at hl 0 rfl) ?_
  refine lv_iconst (v := 1) hx hb dL_areMachinesRight_10 (by decide) ?_
  have hf9 := wd_b2_e hf; clear hf; obtain ⟨r10, w8, hc9, hf⟩ := hf9
  refine z_callV (ci := 11) (As := [.int (1 : Int32)]) (rest := [.int r7, .int r4]) (c_X11_carried l E n w5 a1 (1 : Int32) r10 w8 (hZ.k 0 rfl rfl) hc9) mo_X11_carried rfl (by decide) rfl tw_986 tw_987 tw_985 hx hb hml hts hown hK ⟨Nat.le_trans (by decide) hR.1, Nat.le_trans (by decide) hR.2⟩ hZ (hZ.k 0 rfl rfl) rfl hl.1 rfl (Nat.le_of_ble_eq_true rfl) rfl dL_areMachinesRight_11 ?_; clear hZ; intro H locs cells slots hX hZ
  refine lv_iadd hx hb dL_areMachinesRight_14 ?_
  refine lv_icmp_ne (tgt := 36) hx hb dL_areMachinesRight_15 (by decide) (fun h11 => ?_) (fun h11 => ?_)
  · replace hf := wd_ite_n h11 hf
    exact v_L_areMachinesRight_j36 n C hR w8 _ _ _ _ _ ⟨hZ.1, hZ.2.1, hZ.2.2.1, hZ.2.2.2.1, (fun _ hq => absurd hq List.not_mem_nil), hZ.2.2.2.2.2⟩ (lv_sub hl [] rfl) hf
  · replace hf := wd_ite_p h11 hf
    refine lv_aload_n (i := 0) hx hb dL_areMachinesRight_18 rfl (lv_at hl 0 rfl) ?_
    have hf9 := wd_b2_e hf; clear hf; obtain ⟨r14, w12, hc13, hf⟩ := hf9
    refine z_callV (ci := 11) (As := []) (rest := []) (c_X11_use l E n w8 a1 r14 w12 (hZ.k 0 rfl rfl) hc13) mo_X11_use rfl (by decide) rfl tw_990 tw_991 tw_989 hx hb hml hts hown hK ⟨Nat.le_trans (by decide) hR.1, Nat.le_trans (by decide) hR.2⟩ hZ (hZ.k 0 rfl rfl) rfl hl.1 rfl (Nat.le_of_ble_eq_true rfl) rfl dL_areMachinesRight_19 ?_; clear hZ; intro H locs cells slots hX hZ
    refine lv_dconst0 hx hb dL_areMachinesRight_22 ?_
    refine lv_dcmp hx hb dL_areMachinesRight_23 ?_
    refine lv_if_lt (tgt := 36) hx hb dL_areMachinesRight_24 (by decide) (fun h15 => ?_) (fun h15 => ?_)
    · replace hf := wd_ite_p h15 hf
      exact v_L_areMachinesRight_j36 n C hR w12 _ _ _ _ _ ⟨hZ.1, hZ.2.1, hZ.2.2.1, hZ.2.2.2.1, (fun _ hq => absurd hq List.not_mem_nil), hZ.2.2.2.2.2⟩ (lv_sub hl [] rfl) hf
    · replace hf := wd_ite_n h15 hf
      refine lv_aload_n (i := 0) hx hb dL_areMachinesRight_27 rfl (lv_at hl 0 rfl) ?_
      have hf9 := wd_b2_e hf; clear hf; obtain ⟨r18, w16, hc17, hf⟩ := hf9
      refine z_callV (ci := 11) (As := []) (rest := []) (c_X11_use l E n w12 a1 r18 w16 (hZ.k 0 rfl rfl) hc17) mo_X11_use rfl (by decide) rfl tw_990 tw_991 tw_989 hx hb hml hts hown hK ⟨Nat.le_trans (by decide) hR.1, Nat.le_trans (by decide) hR.2⟩ hZ (hZ.k 0 rfl rfl) rfl hl.1 rfl (Nat.le_of_ble_eq_true rfl) rfl dL_areMachinesRight_28 ?_; clear hZ; intro H locs cells slots hX hZ
      refine lv_dconst1 hx hb dL_areMachinesRight_31 ?_
      refine lv_dcmp hx hb dL_areMachinesRight_32 ?_
      refine lv_if_le (tgt := 38) hx hb dL_areMachinesRight_33 (by decide) (fun h19 => ?_) (fun h19 => ?_)
      · replace hf := wd_ite_p h19 hf
        refine lv_iconst (v := 0) hx hb dL_areMachinesRight_38 (by decide) ?_
        refine lv_istore_n (i := 2) (lv' := [(2, .int (0 : Int32)), (0, .ref a1), (1, va_rf p1)]) hx hb dL_areMachinesRight_39 rfl hl (by decide) (by simp [va_rf_cat, va_cat_r, va_cat_i, va_cat_l, va_cat_d]) ?_; clear hl; intro ls hl
        exact v_L_areMachinesRight_l40 n C hR n (some a1) p1 (0 : Int32) w16 _ _ _ _ _ ⟨hZ.1, hZ.2.1, hZ.2.2.1, hZ.2.2.2.1, (List.forall_mem_cons.mpr ⟨⟨Nat.succ_ne_zero _, (fun q hq => by cases hq; exact (hZ.k 0 rfl rfl))⟩, (List.forall_mem_cons.mpr ⟨⟨Nat.succ_ne_zero _, (fun q hq => hZ.k 1 rfl hq)⟩, (fun _ hq => absurd hq List.not_mem_nil)⟩)⟩), hZ.2.2.2.2.2⟩ (lv_sub hl [1, 2, 0] rfl) hf
      · replace hf := wd_ite_n h19 hf
        exact v_L_areMachinesRight_j36 n C hR w16 _ _ _ _ _ ⟨hZ.1, hZ.2.1, hZ.2.2.1, hZ.2.2.2.1, (fun _ hq => absurd hq List.not_mem_nil), hZ.2.2.2.2.2⟩ (lv_sub hl [] rfl) hf

def f_L_areFramesRight_j95 (n : Nat) (w : Wd) : Option (Int32 × Wd) :=
  some ((0 : Int32), w)
def f_L_areFramesRight_j153 (n : Nat) (rec2 : Option Nat → Option Nat → Int32 → Wd → Option (Int32 × Wd)) (x0 : Option Nat) (x1 : Option Nat) (x2 : Int32) (w : Wd) : Option (Int32 × Wd) :=
  wd_let (x2 + 1) fun v34 =>
  rec2 x0 x1 v34 w
def f_L_areFramesRight_j151 (n : Nat) (w : Wd) : Option (Int32 × Wd) :=
  some ((0 : Int32), w)
def f_L_areFramesRight_j135 (n : Nat) (rec2 : Option Nat → Option Nat → Int32 → Wd → Option (Int32 × Wd)) (x0 : Option Nat) (x1 : Option Nat) (x2 : Int32) (x5 : Int32) (w : Wd) : Option (Int32 × Wd) :=
  if x5 ≤ 0 then
    f_L_areFramesRight_j153 n rec2 x0 x1 x2 w
  else
    Option.bind x0 fun a36 =>
    wd_b2 (f_X11_frame n w a36 x2 (7 : Int32)) fun r39 w37 =>
    if r39 = (-1 : Int32) then
      f_L_areFramesRight_j153 n rec2 (some a36) x1 x2 w37
    else
      f_L_areFramesRight_j151 n w37
def f_L_areFramesRight_j117 (n : Nat) (rec2 : Option Nat → Option Nat → Int32 → Wd → Option (Int32 × Wd)) (x0 : Option Nat) (x1 : Option Nat) (x2 : Int32) (x5 : Int32) (w : Wd) : Option (Int32 × Wd) :=
  if x5 = 0 then
    Option.bind x0 fun a41 =>
    wd_b2 (f_X11_frame n w a41 x2 (4 : Int32)) fun r44 w42 =>
    wd_b2 (f_X11_packets n w42 a41) fun r47 w45 =>
    if r47 ≤ r44 then
      f_L_areFramesRight_j151 n w45
    else
      f_L_areFramesRight_j135 n rec2 (some a41) x1 x2 x5 w45
  else
    f_L_areFramesRight_j135 n rec2 x0 x1 x2 x5 w
def f_L_areFramesRight_j92 (n : Nat) (rec2 : Option Nat → Option Nat → Int32 → Wd → Option (Int32 × Wd)) (y0 : Int32) (y1 : Int32) (x0 : Option Nat) (x1 : Option Nat) (x2 : Int32) (x3 : Int32) (x5 : Int32) (w : Wd) : Option (Int32 × Wd) :=
  if y1 = y0 then
    if x5 = (2 : Int32) then
      Option.bind x0 fun a49 =>
      wd_b2 (f_X11_frame n w a49 x2 (4 : Int32)) fun r52 w50 =>
      Option.bind x1 fun a53 =>
      wd_gd (x3 < 0 ∨ wd_N w50 a53 ≤ x3.toNatClampNeg) <|
      Option.bind (wd_Q w50 a53 x3.toNatClampNeg) fun a55 =>
      wd_gd ((1 : Int32) < 0 ∨ wd_N w50 a55 ≤ (1 : Int32).toNatClampNeg) <|
      if r52 = (wd_A w50 a55 (1 : Int32).toNatClampNeg) then
        f_L_areFramesRight_j117 n rec2 (some a49) (some a53) x2 x5 w50
      else
        f_L_areFramesRight_j151 n w50
    else
      f_L_areFramesRight_j117 n rec2 x0 x1 x2 x5 w
  else
    f_L_areFramesRight_j95 n w
def f_L_areFramesRight_j81 (n : Nat) (rec2 : Option Nat → Option Nat → Int32 → Wd → Option (Int32 × Wd)) (y0 : Int32) (x0 : Option Nat) (x1 : Option Nat) (x2 : Int32) (x3 : Int32) (x5 : Int32) (w : Wd) : Option (Int32 × Wd) :=
  if x5 = (1 : Int32) then
    f_L_areFramesRight_j92 n rec2 (1 : Int32) y0 x0 x1 x2 x3 x5 w
  else
    f_L_areFramesRight_j92 n rec2 (0 : Int32) y0 x0 x1 x2 x3 x5 w
def f_L_areFramesRight_j70 (n : Nat) (rec2 : Option Nat → Option Nat → Int32 → Wd → Option (Int32 × Wd)) (x0 : Option Nat) (x1 : Option Nat) (x2 : Int32) (x3 : Int32) (x4 : Int32) (x5 : Int32) (w : Wd) : Option (Int32 × Wd) :=
  if x4 = (-1 : Int32) then
    f_L_areFramesRight_j81 n rec2 (1 : Int32) x0 x1 x2 x3 x5 w
  else
    f_L_areFramesRight_j81 n rec2 (0 : Int32) x0 x1 x2 x3 x5 w
def f_L_areFramesRight_l2 (n : Nat) (rec2 : Option Nat → Option Nat → Int32 → Wd → Option (Int32 × Wd)) (x0 : Option Nat) (x1 : Option Nat) (x2 : Int32) (w : Wd) : Option (Int32 × Wd) :=
  Option.bind x0 fun a1 =>
  wd_b2 (f_X11_frames n w a1) fun r4 w2 =>
  if r4 ≤ x2 then
    some ((1 : Int32), w2)
  else
    wd_b2 (f_X11_frame n w2 a1 x2 (1 : Int32)) fun r8 w6 =>
    wd_b2 (f_X11_frame n w6 a1 x2 (2 : Int32)) fun r11 w9 =>
    wd_b2 (f_X11_frame n w9 a1 x2 (3 : Int32)) fun r14 w12 =>
    Option.bind x1 fun a15 =>
    wd_gd (r8 < 0 ∨ wd_N w12 a15 ≤ r8.toNatClampNeg) <|
    Option.bind (wd_Q w12 a15 r8.toNatClampNeg) fun a17 =>
    wd_gd ((1 : Int32) < 0 ∨ wd_N w12 a17 ≤ (1 : Int32).toNatClampNeg) <|
    if (wd_A w12 a17 (1 : Int32).toNatClampNeg) < 0 then
      f_L_areFramesRight_j95 n w12
    else
      wd_gd (r8 < 0 ∨ wd_N w12 a15 ≤ r8.toNatClampNeg) <|
      Option.bind (wd_Q w12 a15 r8.toNatClampNeg) fun a21 =>
      wd_gd ((0 : Int32) < 0 ∨ wd_N w12 a21 ≤ (0 : Int32).toNatClampNeg) <|
      wd_b2 (f_X11_frame n w12 a1 x2 (0 : Int32)) fun r25 w23 =>
      if (wd_A w12 a21 (0 : Int32).toNatClampNeg) = r25 then
        if r11 = (-1 : Int32) then
          f_L_areFramesRight_j70 n rec2 (some a1) (some a15) x2 r8 r11 r14 w23
        else
          wd_gd (r11 < 0 ∨ wd_N w23 a15 ≤ r11.toNatClampNeg) <|
          Option.bind (wd_Q w23 a15 r11.toNatClampNeg) fun a59 =>
          wd_gd ((1 : Int32) < 0 ∨ wd_N w23 a59 ≤ (1 : Int32).toNatClampNeg) <|
          if (wd_A w23 a59 (1 : Int32).toNatClampNeg) < 0 then
            f_L_areFramesRight_j95 n w23
          else
            f_L_areFramesRight_j70 n rec2 (some a1) (some a15) x2 r8 r11 r14 w23
      else
        f_L_areFramesRight_j95 n w23
def f_L_areFramesRight (n : Nat) (w : Wd) (p0 : Option Nat) (p1 : Option Nat) : Option (Int32 × Wd) :=
  wd_lp4 (f_L_areFramesRight_l2 n) n p0 p1 (0 : Int32) w
set_option maxHeartbeats 4000000 in
set_option maxRecDepth 100000 in
theorem v_L_areFramesRight_j95 {p : Program} {l : Launch} {e : Env} {R : Room} {s : State} {m : MethodId} {args : Array Value} {below : List Frame} {meth : Method} {c : Code} {E : wd_E} {w0 : Wd} {r' : Int32} {w' : Wd} (n : Nat) (C : wd_X p s m args meth c cL_areFramesRight RL 6 (some .boolean) "areFramesRight" E) (hR : 3 ≤ R.frames ∧ 65 ≤ R.locals) (w : Wd) (H : Heap) (locs : List Loc) (cells slots : Nat) (ls : Array Slot) (hZ : wd_Z E w0 R s w H locs cells slots []) (hl : lv_has ls 6 []) (hf : f_L_areFramesRight_j95 n w = some (r', w')) : W p l e R s m args below meth c H locs cells slots (wd_fin E w0 (some (.int r')) w' True R args s below) (F0 m 95 ls []) := by
  obtain ⟨hx, hb, hr, hml, hts, hown, hlocks, hmn, hK⟩ := id C
  unfold f_L_areFramesRight_j95 at hf
  refine lv_iconst (v := 0) hx hb dL_areFramesRight_95 (by decide) ?_
  obtain ⟨rfl, rfl⟩ := Prod.mk.inj (Option.some.inj hf)
  exact z_zret (by decide) hx hb hr hlocks hZ trivial dL_areFramesRight_96

set_option maxHeartbeats 4000000 in
set_option maxRecDepth 100000 in
theorem v_L_areFramesRight_j153 {p : Program} {l : Launch} {e : Env} {R : Room} {s : State} {m : MethodId} {args : Array Value} {below : List Frame} {meth : Method} {c : Code} {E : wd_E} {w0 : Wd} {r' : Int32} {w' : Wd} (n : Nat) (C : wd_X p s m args meth c cL_areFramesRight RL 6 (some .boolean) "areFramesRight" E) (hR : 3 ≤ R.frames ∧ 65 ≤ R.locals) (rec2 : Option Nat → Option Nat → Int32 → Wd → Option (Int32 × Wd)) (hrec2 : ∀ (x0_ : Option Nat) (x1_ : Option Nat) (x2_ : Int32) (w_ : Wd) (H : Heap) (locs : List Loc) (cells slots : Nat) (ls : Array Slot), wd_Z E w0 R s w_ H locs cells slots [(x0_, 12), (x1_, 26)] → lv_has ls 6 [(0, va_rf x0_), (1, va_rf x1_), (2, .int x2_)] → rec2 x0_ x1_ x2_ w_ = some (r', w') → W p l e R s m args below meth c H locs cells slots (wd_fin E w0 (some (.int r')) w' True R args s below) (F0 m 2 ls [])) (x0 : Option Nat) (x1 : Option Nat) (x2 : Int32) (w : Wd) (H : Heap) (locs : List Loc) (cells slots : Nat) (ls : Array Slot) (hZ : wd_Z E w0 R s w H locs cells slots [(x0, 12), (x1, 26)]) (hl : lv_has ls 6 [(0, va_rf x0), (1, va_rf x1), (2, .int x2)]) (hf : f_L_areFramesRight_j153 n rec2 x0 x1 x2 w = some (r', w')) : W p l e R s m args below meth c H locs cells slots (wd_fin E w0 (some (.int r')) w' True R args s below) (F0 m 153 ls []) := by
  obtain ⟨hx, hb, hr, hml, hts, hown, hlocks, hmn, hK⟩ := id C
  unfold f_L_areFramesRight_j153 at hf
  have hf9 := wd_let_e hf; clear hf; obtain ⟨v34, e35, hf⟩ := hf9
  refine lv_iinc (k := 2) (v := v34) (lv' := [(2, .int v34), (0, va_rf x0), (1, va_rf x1)]) hx hb dL_areFramesRight_153 hl rfl (by rw [← e35]; rfl) (by decide) (by simp [va_rf_cat, va_cat_r, va_cat_i, va_cat_l, va_cat_d]) ?_; clear hl; intro ls hl
  refine lv_goto (tgt := 2) hx hb dL_areFramesRight_156 (by decide) ?_
  exact hrec2 x0 x1 v34 w _ _ _ _ _ ⟨hZ.1, hZ.2.1, hZ.2.2.1, hZ.2.2.2.1, (List.forall_mem_cons.mpr ⟨⟨Nat.succ_ne_zero _, (fun q hq => hZ.k 0 rfl hq)⟩, (List.forall_mem_cons.mpr ⟨⟨Nat.succ_ne_zero _, (fun q hq => hZ.k 1 rfl hq)⟩, (fun _ hq => absurd hq List.not_mem_nil)⟩)⟩), hZ.2.2.2.2.2⟩ (lv_sub hl [1, 2, 0] rfl) hf

set_option maxHeartbeats 4000000 in
set_option maxRecDepth 100000 in
theorem v_L_areFramesRight_j151 {p : Program} {l : Launch} {e : Env} {R : Room} {s : State} {m : MethodId} {args : Array Value} {below : List Frame} {meth : Method} {c : Code} {E : wd_E} {w0 : Wd} {r' : Int32} {w' : Wd} (n : Nat) (C : wd_X p s m args meth c cL_areFramesRight RL 6 (some .boolean) "areFramesRight" E) (hR : 3 ≤ R.frames ∧ 65 ≤ R.locals) (w : Wd) (H : Heap) (locs : List Loc) (cells slots : Nat) (ls : Array Slot) (hZ : wd_Z E w0 R s w H locs cells slots []) (hl : lv_has ls 6 []) (hf : f_L_areFramesRight_j151 n w = some (r', w')) : W p l e R s m args below meth c H locs cells slots (wd_fin E w0 (some (.int r')) w' True R args s below) (F0 m 151 ls []) := by
  obtain ⟨hx, hb, hr, hml, hts, hown, hlocks, hmn, hK⟩ := id C
  unfold f_L_areFramesRight_j151 at hf
  refine lv_iconst (v := 0) hx hb dL_areFramesRight_151 (by decide) ?_
  obtain ⟨rfl, rfl⟩ := Prod.mk.inj (Option.some.inj hf)
  exact z_zret (by decide) hx hb hr hlocks hZ trivial dL_areFramesRight_152

set_option maxHeartbeats 4000000 in
set_option maxRecDepth 100000 in
theorem v_L_areFramesRight_j135 {p : Program} {l : Launch} {e : Env} {R : Room} {s : State} {m : MethodId} {args : Array Value} {below : List Frame} {meth : Method} {c : Code} {E : wd_E} {w0 : Wd} {r' : Int32} {w' : Wd} (n : Nat) (C : wd_X p s m args meth c cL_areFramesRight RL 6 (some .boolean) "areFramesRight" E) (hR : 3 ≤ R.frames ∧ 65 ≤ R.locals) (rec2 : Option Nat → Option Nat → Int32 → Wd → Option (Int32 × Wd)) (hrec2 : ∀ (x0_ : Option Nat) (x1_ : Option Nat) (x2_ : Int32) (w_ : Wd) (H : Heap) (locs : List Loc) (cells slots : Nat) (ls : Array Slot), wd_Z E w0 R s w_ H locs cells slots [(x0_, 12), (x1_, 26)] → lv_has ls 6 [(0, va_rf x0_), (1, va_rf x1_), (2, .int x2_)] → rec2 x0_ x1_ x2_ w_ = some (r', w') → W p l e R s m args below meth c H locs cells slots (wd_fin E w0 (some (.int r')) w' True R args s below) (F0 m 2 ls [])) (x0 : Option Nat) (x1 : Option Nat) (x2 : Int32) (x5 : Int32) (w : Wd) (H : Heap) (locs : List Loc) (cells slots : Nat) (ls : Array Slot) (hZ : wd_Z E w0 R s w H locs cells slots [(x0, 12), (x1, 26)]) (hl : lv_has ls 6 [(0, va_rf x0), (1, va_rf x1), (2, .int x2), (5, .int x5)]) (hf : f_L_areFramesRight_j135 n rec2 x0 x1 x2 x5 w = some (r', w')) : W p l e R s m args below meth c H locs cells slots (wd_fin E w0 (some (.int r')) w' True R args s below) (F0 m 135 ls []) := by
  obtain ⟨hx, hb, hr, hml, hts, hown, hlocks, hmn, hK⟩ := id C
  unfold f_L_areFramesRight_j135 at hf
  refine lv_iload hx hb dL_areFramesRight_135 (lv_at hl 3 rfl) ?_
  refine lv_if_le (tgt := 153) hx hb dL_areFramesRight_137 (by decide) (fun h33 => ?_) (fun h33 => ?_)
  · replace hf := wd_ite_p h33 hf
    exact v_L_areFramesRight_j153 n C hR rec2 hrec2 x0 x1 x2 w _ _ _ _ _ ⟨hZ.1, hZ.2.1, hZ.2.2.1, hZ.2.2.2.1, (List.forall_mem_cons.mpr ⟨⟨Nat.succ_ne_zero _, (fun q hq => hZ.k 0 rfl hq)⟩, (List.forall_mem_cons.mpr ⟨⟨Nat.succ_ne_zero _, (fun q hq => hZ.k 1 rfl hq)⟩, (fun _ hq => absurd hq List.not_mem_nil)⟩)⟩), hZ.2.2.2.2.2⟩ (lv_sub hl [0, 1, 2] rfl) hf
  · replace hf := wd_ite_n h33 hf
    refine z_aload_n (i := 0) hx hb dL_areFramesRight_140 rfl (lv_at hl 0 rfl) ?_
    refine lv_iload_n (i := 2) hx hb dL_areFramesRight_141 rfl (lv_at hl 2 rfl) ?_
    refine lv_bipush (v := 7) hx hb dL_areFramesRight_142 (by decide) ?_
    have hf9 := Option.bind_eq_some_iff.mp hf; clear hf; obtain ⟨a36, ha36, hf⟩ := hf9
    subst ha36
    replace hl : lv_has ls 6 [(0, .ref a36), (1, va_rf x1), (2, .int x2), (5, .int x5)] := hl
    replace hZ : wd_Z E w0 R s w H locs cells slots [(some a36, 12), (x1, 26)] := hZ
    have hf9 := wd_b2_e hf; clear hf; obtain ⟨r39, w37, hc38, hf⟩ := hf9
    refine z_callV (ci := 11) (As := [.int x2, .int (7 : Int32)]) (rest := []) (c_X11_frame l E n w a36 x2 (7 : Int32) r39 w37 (hZ.k 0 rfl rfl) hc38) mo_X11_frame rfl (by decide) rfl tw_1029 tw_1030 tw_1028 hx hb hml hts hown hK ⟨Nat.le_trans (by decide) hR.1, Nat.le_trans (by decide) hR.2⟩ hZ (hZ.k 0 rfl rfl) rfl hl.1 rfl (Nat.le_of_ble_eq_true rfl) rfl dL_areFramesRight_144 ?_; clear hZ; intro H locs cells slots hX hZ
    refine lv_iconst (v := -1) hx hb dL_areFramesRight_147 (by decide) ?_
    refine lv_icmp_eq (tgt := 153) hx hb dL_areFramesRight_148 (by decide) (fun h40 => ?_) (fun h40 => ?_)
    · replace hf := wd_ite_p h40 hf
      exact v_L_areFramesRight_j153 n C hR rec2 hrec2 (some a36) x1 x2 w37 _ _ _ _ _ ⟨hZ.1, hZ.2.1, hZ.2.2.1, hZ.2.2.2.1, (List.forall_mem_cons.mpr ⟨⟨Nat.succ_ne_zero _, (fun q hq => by cases hq; exact (hZ.k 0 rfl rfl))⟩, (List.forall_mem_cons.mpr ⟨⟨Nat.succ_ne_zero _, (fun q hq => hZ.k 1 rfl hq)⟩, (fun _ hq => absurd hq List.not_mem_nil)⟩)⟩), hZ.2.2.2.2.2⟩ (lv_sub hl [0, 1, 2] rfl) hf
    · replace hf := wd_ite_n h40 hf
      exact v_L_areFramesRight_j151 n C hR w37 _ _ _ _ _ ⟨hZ.1, hZ.2.1, hZ.2.2.1, hZ.2.2.2.1, (fun _ hq => absurd hq List.not_mem_nil), hZ.2.2.2.2.2⟩ (lv_sub hl [] rfl) hf

set_option maxHeartbeats 4000000 in
set_option maxRecDepth 100000 in
theorem v_L_areFramesRight_j117 {p : Program} {l : Launch} {e : Env} {R : Room} {s : State} {m : MethodId} {args : Array Value} {below : List Frame} {meth : Method} {c : Code} {E : wd_E} {w0 : Wd} {r' : Int32} {w' : Wd} (n : Nat) (C : wd_X p s m args meth c cL_areFramesRight RL 6 (some .boolean) "areFramesRight" E) (hR : 3 ≤ R.frames ∧ 65 ≤ R.locals) (rec2 : Option Nat → Option Nat → Int32 → Wd → Option (Int32 × Wd)) (hrec2 : ∀ (x0_ : Option Nat) (x1_ : Option Nat) (x2_ : Int32) (w_ : Wd) (H : Heap) (locs : List Loc) (cells slots : Nat) (ls : Array Slot), wd_Z E w0 R s w_ H locs cells slots [(x0_, 12), (x1_, 26)] → lv_has ls 6 [(0, va_rf x0_), (1, va_rf x1_), (2, .int x2_)] → rec2 x0_ x1_ x2_ w_ = some (r', w') → W p l e R s m args below meth c H locs cells slots (wd_fin E w0 (some (.int r')) w' True R args s below) (F0 m 2 ls [])) (x0 : Option Nat) (x1 : Option Nat) (x2 : Int32) (x5 : Int32) (w : Wd) (H : Heap) (locs : List Loc) (cells slots : Nat) (ls : Array Slot) (hZ : wd_Z E w0 R s w H locs cells slots [(x0, 12), (x1, 26)]) (hl : lv_has ls 6 [(0, va_rf x0), (1, va_rf x1), (2, .int x2), (5, .int x5)]) (hf : f_L_areFramesRight_j117 n rec2 x0 x1 x2 x5 w = some (r', w')) : W p l e R s m args below meth c H locs cells slots (wd_fin E w0 (some (.int r')) w' True R args s below) (F0 m 117 ls []) := by
  obtain ⟨hx, hb, hr, hml, hts, hown, hlocks, hmn, hK⟩ := id C
  unfold f_L_areFramesRight_j117 at hf
  refine lv_iload hx hb dL_areFramesRight_117 (lv_at hl 3 rfl) ?_
  refine lv_if_ne (tgt := 135) hx hb dL_areFramesRight_119 (by decide) (fun h32 => ?_) (fun h32 => ?_)
  · replace hf := wd_ite_n h32 hf
    exact v_L_areFramesRight_j135 n C hR rec2 hrec2 x0 x1 x2 x5 w _ _ _ _ _ ⟨hZ.1, hZ.2.1, hZ.2.2.1, hZ.2.2.2.1, (List.forall_mem_cons.mpr ⟨⟨Nat.succ_ne_zero _, (fun q hq => hZ.k 0 rfl hq)⟩, (List.forall_mem_cons.mpr ⟨⟨Nat.succ_ne_zero _, (fun q hq => hZ.k 1 rfl hq)⟩, (fun _ hq => absurd hq List.not_mem_nil)⟩)⟩), hZ.2.2.2.2.2⟩ (lv_sub hl [0, 1, 2, 3] rfl) hf
  · replace hf := wd_ite_p h32 hf
    refine z_aload_n (i := 0) hx hb dL_areFramesRight_122 rfl (lv_at hl 0 rfl) ?_
    refine lv_iload_n (i := 2) hx hb dL_areFramesRight_123 rfl (lv_at hl 2 rfl) ?_
    refine lv_iconst (v := 4) hx hb dL_areFramesRight_124 (by decide) ?_
    have hf9 := Option.bind_eq_some_iff.mp hf; clear hf; obtain ⟨a41, ha41, hf⟩ := hf9
    subst ha41
    replace hl : lv_has ls 6 [(0, .ref a41), (1, va_rf x1), (2, .int x2), (5, .int x5)] := hl
    replace hZ : wd_Z E w0 R s w H locs cells slots [(some a41, 12), (x1, 26)] := hZ
    have hf9 := wd_b2_e hf; clear hf; obtain ⟨r44, w42, hc43, hf⟩ := hf9
    refine z_callV (ci := 11) (As := [.int x2, .int (4 : Int32)]) (rest := []) (c_X11_frame l E n w a41 x2 (4 : Int32) r44 w42 (hZ.k 0 rfl rfl) hc43) mo_X11_frame rfl (by decide) rfl tw_1029 tw_1030 tw_1028 hx hb hml hts hown hK ⟨Nat.le_trans (by decide) hR.1, Nat.le_trans (by decide) hR.2⟩ hZ (hZ.k 0 rfl rfl) rfl hl.1 rfl (Nat.le_of_ble_eq_true rfl) rfl dL_areFramesRight_125 ?_; clear hZ; intro H locs cells slots hX hZ
    refine lv_aload_n (i := 0) hx hb dL_areFramesRight_128 rfl (lv_at hl 0 rfl) ?_
    have hf9 := wd_b2_e hf; clear hf; obtain ⟨r47, w45, hc46, hf⟩ := hf9
    refine z_callV (ci := 11) (As := []) (rest := [.int r44]) (c_X11_packets l E n w42 a41 r47 w45 (hZ.k 0 rfl rfl) hc46) mo_X11_packets rfl (by decide) rfl tw_514 tw_515 tw_513 hx hb hml hts hown hK ⟨Nat.le_trans (by decide) hR.1, Nat.le_trans (by decide) hR.2⟩ hZ (hZ.k 0 rfl rfl) rfl hl.1 rfl (Nat.le_of_ble_eq_true rfl) rfl dL_areFramesRight_129 ?_; clear hZ; intro H locs cells slots hX hZ
    refine lv_icmp_ge (tgt := 151) hx hb dL_areFramesRight_132 (by decide) (fun h48 => ?_) (fun h48 => ?_)
    · replace hf := wd_ite_p h48 hf
      exact v_L_areFramesRight_j151 n C hR w45 _ _ _ _ _ ⟨hZ.1, hZ.2.1, hZ.2.2.1, hZ.2.2.2.1, (fun _ hq => absurd hq List.not_mem_nil), hZ.2.2.2.2.2⟩ (lv_sub hl [] rfl) hf
    · replace hf := wd_ite_n h48 hf
      exact v_L_areFramesRight_j135 n C hR rec2 hrec2 (some a41) x1 x2 x5 w45 _ _ _ _ _ ⟨hZ.1, hZ.2.1, hZ.2.2.1, hZ.2.2.2.1, (List.forall_mem_cons.mpr ⟨⟨Nat.succ_ne_zero _, (fun q hq => by cases hq; exact (hZ.k 0 rfl rfl))⟩, (List.forall_mem_cons.mpr ⟨⟨Nat.succ_ne_zero _, (fun q hq => hZ.k 1 rfl hq)⟩, (fun _ hq => absurd hq List.not_mem_nil)⟩)⟩), hZ.2.2.2.2.2⟩ (lv_sub hl [0, 1, 2, 3] rfl) hf

set_option maxHeartbeats 4000000 in
set_option maxRecDepth 100000 in
theorem v_L_areFramesRight_j92 {p : Program} {l : Launch} {e : Env} {R : Room} {s : State} {m : MethodId} {args : Array Value} {below : List Frame} {meth : Method} {c : Code} {E : wd_E} {w0 : Wd} {r' : Int32} {w' : Wd} (n : Nat) (C : wd_X p s m args meth c cL_areFramesRight RL 6 (some .boolean) "areFramesRight" E) (hR : 3 ≤ R.frames ∧ 65 ≤ R.locals) (rec2 : Option Nat → Option Nat → Int32 → Wd → Option (Int32 × Wd)) (hrec2 : ∀ (x0_ : Option Nat) (x1_ : Option Nat) (x2_ : Int32) (w_ : Wd) (H : Heap) (locs : List Loc) (cells slots : Nat) (ls : Array Slot), wd_Z E w0 R s w_ H locs cells slots [(x0_, 12), (x1_, 26)] → lv_has ls 6 [(0, va_rf x0_), (1, va_rf x1_), (2, .int x2_)] → rec2 x0_ x1_ x2_ w_ = some (r', w') → W p l e R s m args below meth c H locs cells slots (wd_fin E w0 (some (.int r')) w' True R args s below) (F0 m 2 ls [])) (y0 : Int32) (y1 : Int32) (x0 : Option Nat) (x1 : Option Nat) (x2 : Int32) (x3 : Int32) (x5 : Int32) (w : Wd) (H : Heap) (locs : List Loc) (cells slots : Nat) (ls : Array Slot) (hZ : wd_Z E w0 R s w H locs cells slots [(x0, 12), (x1, 26)]) (hl : lv_has ls 6 [(0, va_rf x0), (1, va_rf x1), (2, .int x2), (3, .int x3), (5, .int x5)]) (hf : f_L_areFramesRight_j92 n rec2 y0 y1 x0 x1 x2 x3 x5 w = some (r', w')) : W p l e R s m args below meth c H locs cells slots (wd_fin E w0 (some (.int r')) w' True R args s below) (F0 m 92 ls [.int y0, .int y1]) := by
  obtain ⟨hx, hb, hr, hml, hts, hown, hlocks, hmn, hK⟩ := id C
  unfold f_L_areFramesRight_j92 at hf
  refine lv_icmp_eq (tgt := 97) hx hb dL_areFramesRight_92 (by decide) (fun h30 => ?_) (fun h30 => ?_)
  · replace hf := wd_ite_p h30 hf
    refine lv_iload hx hb dL_areFramesRight_97 (lv_at hl 4 rfl) ?_
    refine lv_iconst (v := 2) hx hb dL_areFramesRight_99 (by decide) ?_
    refine lv_icmp_ne (tgt := 117) hx hb dL_areFramesRight_100 (by decide) (fun h31 => ?_) (fun h31 => ?_)
    · replace hf := wd_ite_n h31 hf
      exact v_L_areFramesRight_j117 n C hR rec2 hrec2 x0 x1 x2 x5 w _ _ _ _ _ ⟨hZ.1, hZ.2.1, hZ.2.2.1, hZ.2.2.2.1, (List.forall_mem_cons.mpr ⟨⟨Nat.succ_ne_zero _, (fun q hq => hZ.k 0 rfl hq)⟩, (List.forall_mem_cons.mpr ⟨⟨Nat.succ_ne_zero _, (fun q hq => hZ.k 1 rfl hq)⟩, (fun _ hq => absurd hq List.not_mem_nil)⟩)⟩), hZ.2.2.2.2.2⟩ (lv_sub hl [0, 1, 2, 4] rfl) hf
    · replace hf := wd_ite_p h31 hf
      refine z_aload_n (i := 0) hx hb dL_areFramesRight_103 rfl (lv_at hl 0 rfl) ?_
      refine lv_iload_n (i := 2) hx hb dL_areFramesRight_104 rfl (lv_at hl 2 rfl) ?_
      refine lv_iconst (v := 4) hx hb dL_areFramesRight_105 (by decide) ?_
      have hf9 := Option.bind_eq_some_iff.mp hf; clear hf; obtain ⟨a49, ha49, hf⟩ := hf9
      subst ha49
      replace hl : lv_has ls 6 [(0, .ref a49), (1, va_rf x1), (2, .int x2), (3, .int x3), (5, .int x5)] := hl
      replace hZ : wd_Z E w0 R s w H locs cells slots [(some a49, 12), (x1, 26)] := hZ
      have hf9 := wd_b2_e hf; clear hf; obtain ⟨r52, w50, hc51, hf⟩ := hf9
      refine z_callV (ci := 11) (As := [.int x2, .int (4 : Int32)]) (rest := []) (c_X11_frame l E n w a49 x2 (4 : Int32) r52 w50 (hZ.k 0 rfl rfl) hc51) mo_X11_frame rfl (by decide) rfl tw_1029 tw_1030 tw_1028 hx hb hml hts hown hK ⟨Nat.le_trans (by decide) hR.1, Nat.le_trans (by decide) hR.2⟩ hZ (hZ.k 0 rfl rfl) rfl hl.1 rfl (Nat.le_of_ble_eq_true rfl) rfl dL_areFramesRight_106 ?_; clear hZ; intro H locs cells slots hX hZ
      refine z_aload_n (i := 1) hx hb dL_areFramesRight_109 rfl (lv_at hl 1 rfl) ?_
      refine lv_iload_n (i := 3) hx hb dL_areFramesRight_110 rfl (lv_at hl 3 rfl) ?_
      have hf9 := Option.bind_eq_some_iff.mp hf; clear hf; obtain ⟨a53, ha53, hf⟩ := hf9
      subst ha53
      replace hl : lv_has ls 6 [(0, .ref a49), (1, .ref a53), (2, .int x2), (3, .int x3), (5, .int x5)] := hl
      replace hZ : wd_Z E w0 R s w50 H locs cells slots [(some a49, 12), (some a53, 26)] := hZ
      have hf9 := wd_gd_e hf; clear hf; obtain ⟨h54, hf⟩ := hf9
      refine z_aald (k := 26) (by decide) (by decide) (tk := 20) rfl hx hb hK hZ (hZ.k 1 rfl rfl) h54 dL_areFramesRight_111 ?_; clear hZ; intro hZ
      refine lv_iconst (v := 1) hx hb dL_areFramesRight_112 (by decide) ?_
      have hf9 := Option.bind_eq_some_iff.mp hf; clear hf; obtain ⟨a55, ha55, hf⟩ := hf9
      replace hZ := hZ.add (r := some a55) (k := 21) (Nat.succ_ne_zero _) (fun q hq => by cases hq; exact hZ.k 0 rfl ha55)
      rw [ha55]
      have hf9 := wd_gd_e hf; clear hf; obtain ⟨h56, hf⟩ := hf9
      refine z_iald hx hb hK hZ (hZ.k 0 rfl rfl) h56 dL_areFramesRight_113 ?_
      refine lv_icmp_ne (tgt := 151) hx hb dL_areFramesRight_114 (by decide) (fun h57 => ?_) (fun h57 => ?_)
      · replace hf := wd_ite_n h57 hf
        exact v_L_areFramesRight_j151 n C hR w50 _ _ _ _ _ ⟨hZ.1, hZ.2.1, hZ.2.2.1, hZ.2.2.2.1, (fun _ hq => absurd hq List.not_mem_nil), hZ.2.2.2.2.2⟩ (lv_sub hl [] rfl) hf
      · replace hf := wd_ite_p h57 hf
        exact v_L_areFramesRight_j117 n C hR rec2 hrec2 (some a49) (some a53) x2 x5 w50 _ _ _ _ _ ⟨hZ.1, hZ.2.1, hZ.2.2.1, hZ.2.2.2.1, (List.forall_mem_cons.mpr ⟨⟨Nat.succ_ne_zero _, (fun q hq => by cases hq; exact (hZ.k 2 rfl rfl))⟩, (List.forall_mem_cons.mpr ⟨⟨Nat.succ_ne_zero _, (fun q hq => by cases hq; exact (hZ.k 3 rfl rfl))⟩, (fun _ hq => absurd hq List.not_mem_nil)⟩)⟩), hZ.2.2.2.2.2⟩ (lv_sub hl [0, 1, 2, 4] rfl) hf
  · replace hf := wd_ite_n h30 hf
    exact v_L_areFramesRight_j95 n C hR w _ _ _ _ _ ⟨hZ.1, hZ.2.1, hZ.2.2.1, hZ.2.2.2.1, (fun _ hq => absurd hq List.not_mem_nil), hZ.2.2.2.2.2⟩ (lv_sub hl [] rfl) hf

set_option maxHeartbeats 4000000 in
set_option maxRecDepth 100000 in
theorem v_L_areFramesRight_j81 {p : Program} {l : Launch} {e : Env} {R : Room} {s : State} {m : MethodId} {args : Array Value} {below : List Frame} {meth : Method} {c : Code} {E : wd_E} {w0 : Wd} {r' : Int32} {w' : Wd} (n : Nat) (C : wd_X p s m args meth c cL_areFramesRight RL 6 (some .boolean) "areFramesRight" E) (hR : 3 ≤ R.frames ∧ 65 ≤ R.locals) (rec2 : Option Nat → Option Nat → Int32 → Wd → Option (Int32 × Wd)) (hrec2 : ∀ (x0_ : Option Nat) (x1_ : Option Nat) (x2_ : Int32) (w_ : Wd) (H : Heap) (locs : List Loc) (cells slots : Nat) (ls : Array Slot), wd_Z E w0 R s w_ H locs cells slots [(x0_, 12), (x1_, 26)] → lv_has ls 6 [(0, va_rf x0_), (1, va_rf x1_), (2, .int x2_)] → rec2 x0_ x1_ x2_ w_ = some (r', w') → W p l e R s m args below meth c H locs cells slots (wd_fin E w0 (some (.int r')) w' True R args s below) (F0 m 2 ls [])) (y0 : Int32) (x0 : Option Nat) (x1 : Option Nat) (x2 : Int32) (x3 : Int32) (x5 : Int32) (w : Wd) (H : Heap) (locs : List Loc) (cells slots : Nat) (ls : Array Slot) (hZ : wd_Z E w0 R s w H locs cells slots [(x0, 12), (x1, 26)]) (hl : lv_has ls 6 [(0, va_rf x0), (1, va_rf x1), (2, .int x2), (3, .int x3), (5, .int x5)]) (hf : f_L_areFramesRight_j81 n rec2 y0 x0 x1 x2 x3 x5 w = some (r', w')) : W p l e R s m args below meth c H locs cells slots (wd_fin E w0 (some (.int r')) w' True R args s below) (F0 m 81 ls [.int y0]) := by
  obtain ⟨hx, hb, hr, hml, hts, hown, hlocks, hmn, hK⟩ := id C
  unfold f_L_areFramesRight_j81 at hf
  refine lv_iload hx hb dL_areFramesRight_81 (lv_at hl 4 rfl) ?_
  refine lv_iconst (v := 1) hx hb dL_areFramesRight_83 (by decide) ?_
  refine lv_icmp_ne (tgt := 91) hx hb dL_areFramesRight_84 (by decide) (fun h29 => ?_) (fun h29 => ?_)
  · replace hf := wd_ite_n h29 hf
    refine lv_iconst (v := 0) hx hb dL_areFramesRight_91 (by decide) ?_
    exact v_L_areFramesRight_j92 n C hR rec2 hrec2 (0 : Int32) y0 x0 x1 x2 x3 x5 w _ _ _ _ _ ⟨hZ.1, hZ.2.1, hZ.2.2.1, hZ.2.2.2.1, (List.forall_mem_cons.mpr ⟨⟨Nat.succ_ne_zero _, (fun q hq => hZ.k 0 rfl hq)⟩, (List.forall_mem_cons.mpr ⟨⟨Nat.succ_ne_zero _, (fun q hq => hZ.k 1 rfl hq)⟩, (fun _ hq => absurd hq List.not_mem_nil)⟩)⟩), hZ.2.2.2.2.2⟩ (lv_sub hl [0, 1, 2, 3, 4] rfl) hf
  · replace hf := wd_ite_p h29 hf
    refine lv_iconst (v := 1) hx hb dL_areFramesRight_87 (by decide) ?_
    refine lv_goto (tgt := 92) hx hb dL_areFramesRight_88 (by decide) ?_
    exact v_L_areFramesRight_j92 n C hR rec2 hrec2 (1 : Int32) y0 x0 x1 x2 x3 x5 w _ _ _ _ _ ⟨hZ.1, hZ.2.1, hZ.2.2.1, hZ.2.2.2.1, (List.forall_mem_cons.mpr ⟨⟨Nat.succ_ne_zero _, (fun q hq => hZ.k 0 rfl hq)⟩, (List.forall_mem_cons.mpr ⟨⟨Nat.succ_ne_zero _, (fun q hq => hZ.k 1 rfl hq)⟩, (fun _ hq => absurd hq List.not_mem_nil)⟩)⟩), hZ.2.2.2.2.2⟩ (lv_sub hl [0, 1, 2, 3, 4] rfl) hf

set_option maxHeartbeats 4000000 in
set_option maxRecDepth 100000 in
theorem v_L_areFramesRight_j70 {p : Program} {l : Launch} {e : Env} {R : Room} {s : State} {m : MethodId} {args : Array Value} {below : List Frame} {meth : Method} {c : Code} {E : wd_E} {w0 : Wd} {r' : Int32} {w' : Wd} (n : Nat) (C : wd_X p s m args meth c cL_areFramesRight RL 6 (some .boolean) "areFramesRight" E) (hR : 3 ≤ R.frames ∧ 65 ≤ R.locals) (rec2 : Option Nat → Option Nat → Int32 → Wd → Option (Int32 × Wd)) (hrec2 : ∀ (x0_ : Option Nat) (x1_ : Option Nat) (x2_ : Int32) (w_ : Wd) (H : Heap) (locs : List Loc) (cells slots : Nat) (ls : Array Slot), wd_Z E w0 R s w_ H locs cells slots [(x0_, 12), (x1_, 26)] → lv_has ls 6 [(0, va_rf x0_), (1, va_rf x1_), (2, .int x2_)] → rec2 x0_ x1_ x2_ w_ = some (r', w') → W p l e R s m args below meth c H locs cells slots (wd_fin E w0 (some (.int r')) w' True R args s below) (F0 m 2 ls [])) (x0 : Option Nat) (x1 : Option Nat) (x2 : Int32) (x3 : Int32) (x4 : Int32) (x5 : Int32) (w : Wd) (H : Heap) (locs : List Loc) (cells slots : Nat) (ls : Array Slot) (hZ : wd_Z E w0 R s w H locs cells slots [(x0, 12), (x1, 26)]) (hl : lv_has ls 6 [(0, va_rf x0), (1, va_rf x1), (2, .int x2), (3, .int x3), (4, .int x4), (5, .int x5)]) (hf : f_L_areFramesRight_j70 n rec2 x0 x1 x2 x3 x4 x5 w = some (r', w')) : W p l e R s m args below meth c H locs cells slots (wd_fin E w0 (some (.int r')) w' True R args s below) (F0 m 70 ls []) := by
  obtain ⟨hx, hb, hr, hml, hts, hown, hlocks, hmn, hK⟩ := id C
  unfold f_L_areFramesRight_j70 at hf
  refine lv_iload hx hb dL_areFramesRight_70 (lv_at hl 4 rfl) ?_
  refine lv_iconst (v := -1) hx hb dL_areFramesRight_72 (by decide) ?_
  refine lv_icmp_ne (tgt := 80) hx hb dL_areFramesRight_73 (by decide) (fun h28 => ?_) (fun h28 => ?_)
  · replace hf := wd_ite_n h28 hf
    refine lv_iconst (v := 0) hx hb dL_areFramesRight_80 (by decide) ?_
    exact v_L_areFramesRight_j81 n C hR rec2 hrec2 (0 : Int32) x0 x1 x2 x3 x5 w _ _ _ _ _ ⟨hZ.1, hZ.2.1, hZ.2.2.1, hZ.2.2.2.1, (List.forall_mem_cons.mpr ⟨⟨Nat.succ_ne_zero _, (fun q hq => hZ.k 0 rfl hq)⟩, (List.forall_mem_cons.mpr ⟨⟨Nat.succ_ne_zero _, (fun q hq => hZ.k 1 rfl hq)⟩, (fun _ hq => absurd hq List.not_mem_nil)⟩)⟩), hZ.2.2.2.2.2⟩ (lv_sub hl [0, 1, 2, 3, 5] rfl) hf
  · replace hf := wd_ite_p h28 hf
    refine lv_iconst (v := 1) hx hb dL_areFramesRight_76 (by decide) ?_
    refine lv_goto (tgt := 81) hx hb dL_areFramesRight_77 (by decide) ?_
    exact v_L_areFramesRight_j81 n C hR rec2 hrec2 (1 : Int32) x0 x1 x2 x3 x5 w _ _ _ _ _ ⟨hZ.1, hZ.2.1, hZ.2.2.1, hZ.2.2.2.1, (List.forall_mem_cons.mpr ⟨⟨Nat.succ_ne_zero _, (fun q hq => hZ.k 0 rfl hq)⟩, (List.forall_mem_cons.mpr ⟨⟨Nat.succ_ne_zero _, (fun q hq => hZ.k 1 rfl hq)⟩, (fun _ hq => absurd hq List.not_mem_nil)⟩)⟩), hZ.2.2.2.2.2⟩ (lv_sub hl [0, 1, 2, 3, 5] rfl) hf

set_option maxHeartbeats 4000000 in
set_option maxRecDepth 100000 in
theorem v_L_areFramesRight_b2 {p : Program} {l : Launch} {e : Env} {R : Room} {s : State} {m : MethodId} {args : Array Value} {below : List Frame} {meth : Method} {c : Code} {E : wd_E} {w0 : Wd} {r' : Int32} {w' : Wd} (n : Nat) (C : wd_X p s m args meth c cL_areFramesRight RL 6 (some .boolean) "areFramesRight" E) (hR : 3 ≤ R.frames ∧ 65 ≤ R.locals) (rec2 : Option Nat → Option Nat → Int32 → Wd → Option (Int32 × Wd)) (hrec2 : ∀ (x0_ : Option Nat) (x1_ : Option Nat) (x2_ : Int32) (w_ : Wd) (H : Heap) (locs : List Loc) (cells slots : Nat) (ls : Array Slot), wd_Z E w0 R s w_ H locs cells slots [(x0_, 12), (x1_, 26)] → lv_has ls 6 [(0, va_rf x0_), (1, va_rf x1_), (2, .int x2_)] → rec2 x0_ x1_ x2_ w_ = some (r', w') → W p l e R s m args below meth c H locs cells slots (wd_fin E w0 (some (.int r')) w' True R args s below) (F0 m 2 ls [])) (x0 : Option Nat) (x1 : Option Nat) (x2 : Int32) (w : Wd) (H : Heap) (locs : List Loc) (cells slots : Nat) (ls : Array Slot) (hZ : wd_Z E w0 R s w H locs cells slots [(x0, 12), (x1, 26)]) (hl : lv_has ls 6 [(0, va_rf x0), (1, va_rf x1), (2, .int x2)]) (hf : f_L_areFramesRight_l2 n rec2 x0 x1 x2 w = some (r', w')) : W p l e R s m args below meth c H locs cells slots (wd_fin E w0 (some (.int r')) w' True R args s below) (F0 m 2 ls []) := by
  obtain ⟨hx, hb, hr, hml, hts, hown, hlocks, hmn, hK⟩ := id C
  unfold f_L_areFramesRight_l2 at hf
  refine lv_iload_n (i := 2) hx hb dL_areFramesRight_2 rfl (lv_at hl 2 rfl) ?_
  refine z_aload_n (i := 0) hx hb dL_areFramesRight_3 rfl (lv_at hl 0 rfl) ?_
  have hf9 := Option.bind_eq_some_iff.mp hf; clear hf; obtain ⟨a1, ha1, hf⟩ := hf9
  subst ha1
  replace hl : lv_has ls 6 [(0, .ref a1), (1, va_rf x1), (2, .int x2)] := hl
  replace hZ : wd_Z E w0 R s w H locs cells slots [(some a1, 12), (x1, 26)] := hZ
  have hf9 := wd_b2_e hf; clear hf; obtain ⟨r4, w2, hc3, hf⟩ := hf9
  refine z_callV (ci := 11) (As := []) (rest := [.int x2]) (c_X11_frames l E n w a1 r4 w2 (hZ.k 0 rfl rfl) hc3) mo_X11_frames rfl (by decide) rfl tw_518 tw_519 tw_517 hx hb hml hts hown hK ⟨Nat.le_trans (by decide) hR.1, Nat.le_trans (by decide) hR.2⟩ hZ (hZ.k 0 rfl rfl) rfl hl.1 rfl (Nat.le_of_ble_eq_true rfl) rfl dL_areFramesRight_4 ?_; clear hZ; intro H locs cells slots hX hZ
  refine lv_icmp_ge (tgt := 159) hx hb dL_areFramesRight_7 (by decide) (fun h5 => ?_) (fun h5 => ?_)
  · replace hf := wd_ite_p h5 hf
    refine lv_iconst (v := 1) hx hb dL_areFramesRight_159 (by decide) ?_
    obtain ⟨rfl, rfl⟩ := Prod.mk.inj (Option.some.inj hf)
    exact z_zret (by decide) hx hb hr hlocks hZ trivial dL_areFramesRight_160
  · replace hf := wd_ite_n h5 hf
    refine lv_aload_n (i := 0) hx hb dL_areFramesRight_10 rfl (lv_at hl 0 rfl) ?_
    refine lv_iload_n (i := 2) hx hb dL_areFramesRight_11 rfl (lv_at hl 2 rfl) ?_
    refine lv_iconst (v := 1) hx hb dL_areFramesRight_12 (by decide) ?_
    have hf9 := wd_b2_e hf; clear hf; obtain ⟨r8, w6, hc7, hf⟩ := hf9
    refine z_callV (ci := 11) (As := [.int x2, .int (1 : Int32)]) (rest := []) (c_X11_frame l E n w2 a1 x2 (1 : Int32) r8 w6 (hZ.k 0 rfl rfl) hc7) mo_X11_frame rfl (by decide) rfl tw_1029 tw_1030 tw_1028 hx hb hml hts hown hK ⟨Nat.le_trans (by decide) hR.1, Nat.le_trans (by decide) hR.2⟩ hZ (hZ.k 0 rfl rfl) rfl hl.1 rfl (Nat.le_of_ble_eq_true rfl) rfl dL_areFramesRight_13 ?_; clear hZ; intro H locs cells slots hX hZ
    refine lv_istore_n (i := 3) (lv' := [(3, .int r8), (0, .ref a1), (1, va_rf x1), (2, .int x2)]) hx hb dL_areFramesRight_16 rfl hl (by decide) rfl ?_; clear hl; intro ls hl
    refine lv_aload_n (i := 0) hx hb dL_areFramesRight_17 rfl (lv_at hl 1 rfl) ?_
    refine lv_iload_n (i := 2) hx hb dL_areFramesRight_18 rfl (lv_at hl 3 rfl) ?_
    refine lv_iconst (v := 2) hx hb dL_areFramesRight_19 (by decide) ?_
    have hf9 := wd_b2_e hf; clear hf; obtain ⟨r11, w9, hc10, hf⟩ := hf9
    refine z_callV (ci := 11) (As := [.int x2, .int (2 : Int32)]) (rest := []) (c_X11_frame l E n w6 a1 x2 (2 : Int32) r11 w9 (hZ.k 0 rfl rfl) hc10) mo_X11_frame rfl (by decide) rfl tw_1029 tw_1030 tw_1028 hx hb hml hts hown hK ⟨Nat.le_trans (by decide) hR.1, Nat.le_trans (by decide) hR.2⟩ hZ (hZ.k 0 rfl rfl) rfl hl.1 rfl (Nat.le_of_ble_eq_true rfl) rfl dL_areFramesRight_20 ?_; clear hZ; intro H locs cells slots hX hZ
    refine lv_istore (i := 4) (lv' := [(4, .int r11), (3, .int r8), (0, .ref a1), (1, va_rf x1), (2, .int x2)]) hx hb dL_areFramesRight_23 hl (by decide) rfl ?_; clear hl; intro ls hl
    refine lv_aload_n (i := 0) hx hb dL_areFramesRight_25 rfl (lv_at hl 2 rfl) ?_
    refine lv_iload_n (i := 2) hx hb dL_areFramesRight_26 rfl (lv_at hl 4 rfl) ?_
    refine lv_iconst (v := 3) hx hb dL_areFramesRight_27 (by decide) ?_
    have hf9 := wd_b2_e hf; clear hf; obtain ⟨r14, w12, hc13, hf⟩ := hf9
    refine z_callV (ci := 11) (As := [.int x2, .int (3 : Int32)]) (rest := []) (c_X11_frame l E n w9 a1 x2 (3 : Int32) r14 w12 (hZ.k 0 rfl rfl) hc13) mo_X11_frame rfl (by decide) rfl tw_1029 tw_1030 tw_1028 hx hb hml hts hown hK ⟨Nat.le_trans (by decide) hR.1, Nat.le_trans (by decide) hR.2⟩ hZ (hZ.k 0 rfl rfl) rfl hl.1 rfl (Nat.le_of_ble_eq_true rfl) rfl dL_areFramesRight_28 ?_; clear hZ; intro H locs cells slots hX hZ
    refine lv_istore (i := 5) (lv' := [(5, .int r14), (4, .int r11), (3, .int r8), (0, .ref a1), (1, va_rf x1), (2, .int x2)]) hx hb dL_areFramesRight_31 hl (by decide) rfl ?_; clear hl; intro ls hl
    refine z_aload_n (i := 1) hx hb dL_areFramesRight_33 rfl (lv_at hl 4 rfl) ?_
    refine lv_iload_n (i := 3) hx hb dL_areFramesRight_34 rfl (lv_at hl 2 rfl) ?_
    have hf9 := Option.bind_eq_some_iff.mp hf; clear hf; obtain ⟨a15, ha15, hf⟩ := hf9
    subst ha15
    replace hl : lv_has ls 6 [(5, .int r14), (4, .int r11), (3, .int r8), (0, .ref a1), (1, .ref a15), (2, .int x2)] := hl
    replace hZ : wd_Z E w0 R s w12 H locs cells slots [(some a1, 12), (some a15, 26)] := hZ
    have hf9 := wd_gd_e hf; clear hf; obtain ⟨h16, hf⟩ := hf9
    refine z_aald (k := 26) (by decide) (by decide) (tk := 20) rfl hx hb hK hZ (hZ.k 1 rfl rfl) h16 dL_areFramesRight_35 ?_; clear hZ; intro hZ
    refine lv_iconst (v := 1) hx hb dL_areFramesRight_36 (by decide) ?_
    have hf9 := Option.bind_eq_some_iff.mp hf; clear hf; obtain ⟨a17, ha17, hf⟩ := hf9
    replace hZ := hZ.add (r := some a17) (k := 21) (Nat.succ_ne_zero _) (fun q hq => by cases hq; exact hZ.k 0 rfl ha17)
    rw [ha17]
    have hf9 := wd_gd_e hf; clear hf; obtain ⟨h18, hf⟩ := hf9
    refine z_iald hx hb hK hZ (hZ.k 0 rfl rfl) h18 dL_areFramesRight_37 ?_
    refine lv_if_lt (tgt := 95) hx hb dL_areFramesRight_38 (by decide) (fun h19 => ?_) (fun h19 => ?_)
    · replace hf := wd_ite_p h19 hf
      exact v_L_areFramesRight_j95 n C hR w12 _ _ _ _ _ ⟨hZ.1, hZ.2.1, hZ.2.2.1, hZ.2.2.2.1, (fun _ hq => absurd hq List.not_mem_nil), hZ.2.2.2.2.2⟩ (lv_sub hl [] rfl) hf
    · replace hf := wd_ite_n h19 hf
      refine lv_aload_n (i := 1) hx hb dL_areFramesRight_41 rfl (lv_at hl 4 rfl) ?_
      refine lv_iload_n (i := 3) hx hb dL_areFramesRight_42 rfl (lv_at hl 2 rfl) ?_
      have hf9 := wd_gd_e hf; clear hf; obtain ⟨h20, hf⟩ := hf9
      refine z_aald (k := 26) (by decide) (by decide) (tk := 20) rfl hx hb hK hZ (hZ.k 3 rfl rfl) h20 dL_areFramesRight_43 ?_; clear hZ; intro hZ
      refine lv_iconst (v := 0) hx hb dL_areFramesRight_44 (by decide) ?_
      have hf9 := Option.bind_eq_some_iff.mp hf; clear hf; obtain ⟨a21, ha21, hf⟩ := hf9
      replace hZ := hZ.add (r := some a21) (k := 21) (Nat.succ_ne_zero _) (fun q hq => by cases hq; exact hZ.k 0 rfl ha21)
      rw [ha21]
      have hf9 := wd_gd_e hf; clear hf; obtain ⟨h22, hf⟩ := hf9
      refine z_iald hx hb hK hZ (hZ.k 0 rfl rfl) h22 dL_areFramesRight_45 ?_
      refine lv_aload_n (i := 0) hx hb dL_areFramesRight_46 rfl (lv_at hl 3 rfl) ?_
      refine lv_iload_n (i := 2) hx hb dL_areFramesRight_47 rfl (lv_at hl 5 rfl) ?_
      refine lv_iconst (v := 0) hx hb dL_areFramesRight_48 (by decide) ?_
      have hf9 := wd_b2_e hf; clear hf; obtain ⟨r25, w23, hc24, hf⟩ := hf9
      refine z_callV (ci := 11) (As := [.int x2, .int (0 : Int32)]) (rest := [.int (wd_A w12 a21 (0 : Int32).toNatClampNeg)]) (c_X11_frame l E n w12 a1 x2 (0 : Int32) r25 w23 (hZ.k 4 rfl rfl) hc24) mo_X11_frame rfl (by decide) rfl tw_1029 tw_1030 tw_1028 hx hb hml hts hown hK ⟨Nat.le_trans (by decide) hR.1, Nat.le_trans (by decide) hR.2⟩ hZ (hZ.k 4 rfl rfl) rfl hl.1 rfl (Nat.le_of_ble_eq_true rfl) rfl dL_areFramesRight_49 ?_; clear hZ; intro H locs cells slots hX hZ
      refine lv_icmp_ne (tgt := 95) hx hb dL_areFramesRight_52 (by decide) (fun h26 => ?_) (fun h26 => ?_)
      · replace hf := wd_ite_n h26 hf
        exact v_L_areFramesRight_j95 n C hR w23 _ _ _ _ _ ⟨hZ.1, hZ.2.1, hZ.2.2.1, hZ.2.2.2.1, (fun _ hq => absurd hq List.not_mem_nil), hZ.2.2.2.2.2⟩ (lv_sub hl [] rfl) hf
      · replace hf := wd_ite_p h26 hf
        refine lv_iload hx hb dL_areFramesRight_55 (lv_at hl 1 rfl) ?_
        refine lv_iconst (v := -1) hx hb dL_areFramesRight_57 (by decide) ?_
        refine lv_icmp_eq (tgt := 70) hx hb dL_areFramesRight_58 (by decide) (fun h27 => ?_) (fun h27 => ?_)
        · replace hf := wd_ite_p h27 hf
          exact v_L_areFramesRight_j70 n C hR rec2 hrec2 (some a1) (some a15) x2 r8 r11 r14 w23 _ _ _ _ _ ⟨hZ.1, hZ.2.1, hZ.2.2.1, hZ.2.2.2.1, (List.forall_mem_cons.mpr ⟨⟨Nat.succ_ne_zero _, (fun q hq => by cases hq; exact (hZ.k 4 rfl rfl))⟩, (List.forall_mem_cons.mpr ⟨⟨Nat.succ_ne_zero _, (fun q hq => by cases hq; exact (hZ.k 5 rfl rfl))⟩, (fun _ hq => absurd hq List.not_mem_nil)⟩)⟩), hZ.2.2.2.2.2⟩ (lv_sub hl [3, 4, 5, 2, 1, 0] rfl) hf
        · replace hf := wd_ite_n h27 hf
          refine lv_aload_n (i := 1) hx hb dL_areFramesRight_61 rfl (lv_at hl 4 rfl) ?_
          refine lv_iload hx hb dL_areFramesRight_62 (lv_at hl 1 rfl) ?_
          have hf9 := wd_gd_e hf; clear hf; obtain ⟨h58, hf⟩ := hf9
          refine z_aald (k := 26) (by decide) (by decide) (tk := 20) rfl hx hb hK hZ (hZ.k 5 rfl rfl) h58 dL_areFramesRight_64 ?_; clear hZ; intro hZ
          refine lv_iconst (v := 1) hx hb dL_areFramesRight_65 (by decide) ?_
          have hf9 := Option.bind_eq_some_iff.mp hf; clear hf; obtain ⟨a59, ha59, hf⟩ := hf9
          replace hZ := hZ.add (r := some a59) (k := 21) (Nat.succ_ne_zero _) (fun q hq => by cases hq; exact hZ.k 0 rfl ha59)
          rw [ha59]
          have hf9 := wd_gd_e hf; clear hf; obtain ⟨h60, hf⟩ := hf9
          refine z_iald hx hb hK hZ (hZ.k 0 rfl rfl) h60 dL_areFramesRight_66 ?_
          refine lv_if_lt (tgt := 95) hx hb dL_areFramesRight_67 (by decide) (fun h61 => ?_) (fun h61 => ?_)
          · replace hf := wd_ite_p h61 hf
            exact v_L_areFramesRight_j95 n C hR w23 _ _ _ _ _ ⟨hZ.1, hZ.2.1, hZ.2.2.1, hZ.2.2.2.1, (fun _ hq => absurd hq List.not_mem_nil), hZ.2.2.2.2.2⟩ (lv_sub hl [] rfl) hf
          · replace hf := wd_ite_n h61 hf
            exact v_L_areFramesRight_j70 n C hR rec2 hrec2 (some a1) (some a15) x2 r8 r11 r14 w23 _ _ _ _ _ ⟨hZ.1, hZ.2.1, hZ.2.2.1, hZ.2.2.2.1, (List.forall_mem_cons.mpr ⟨⟨Nat.succ_ne_zero _, (fun q hq => by cases hq; exact (hZ.k 6 rfl rfl))⟩, (List.forall_mem_cons.mpr ⟨⟨Nat.succ_ne_zero _, (fun q hq => by cases hq; exact (hZ.k 7 rfl rfl))⟩, (fun _ hq => absurd hq List.not_mem_nil)⟩)⟩), hZ.2.2.2.2.2⟩ (lv_sub hl [3, 4, 5, 2, 1, 0] rfl) hf

theorem v_L_areFramesRight_l2 {p : Program} {l : Launch} {e : Env} {R : Room} {s : State} {m : MethodId} {args : Array Value} {below : List Frame} {meth : Method} {c : Code} {E : wd_E} {w0 : Wd} {r' : Int32} {w' : Wd} (n : Nat) (C : wd_X p s m args meth c cL_areFramesRight RL 6 (some .boolean) "areFramesRight" E) (hR : 3 ≤ R.frames ∧ 65 ≤ R.locals) : ∀ (k : Nat) (x0 : Option Nat) (x1 : Option Nat) (x2 : Int32) (w : Wd) (H : Heap) (locs : List Loc) (cells slots : Nat) (ls : Array Slot), wd_Z E w0 R s w H locs cells slots [(x0, 12), (x1, 26)] → lv_has ls 6 [(0, va_rf x0), (1, va_rf x1), (2, .int x2)] → wd_lp4 (f_L_areFramesRight_l2 n) k x0 x1 x2 w = some (r', w') → W p l e R s m args below meth c H locs cells slots (wd_fin E w0 (some (.int r')) w' True R args s below) (F0 m 2 ls []) := by
  intro k
  induction k with
  | zero => intro _ _ _ _ _ _ _ _ _ _ _ hf; cases hf
  | succ k ih =>
    intro x0 x1 x2 w H locs cells slots ls hZ hl hf
    exact v_L_areFramesRight_b2 n C hR (wd_lp4 (f_L_areFramesRight_l2 n) k) ih x0 x1 x2 w H locs cells slots ls hZ hl hf

set_option maxHeartbeats 4000000 in
set_option maxRecDepth 100000 in
theorem c_L_areFramesRight (l : Launch) (E : wd_E) (n : Nat) (w : Wd) (p0 : Option Nat) (p1 : Option Nat) (r' : Int32) (w' : Wd) (k_p0 : ∀ q, p0 = some q → wd_K w q = 12) (k_p1 : ∀ q, p1 = some q → wd_K w q = 26) (hf : f_L_areFramesRight n w p0 p1 = some (r', w')) : wd_C l E yL_areFramesRight cL_areFramesRight 6 (some .boolean) 3 65 [va_rf p0, va_rf p1] w (some (.int r')) w' True := by
  refine wd_ofW (own := RL) (nm := "areFramesRight") (ks := [(p0, 12), (p1, 26)]) (lv := [(0, va_rf p0), (1, va_rf p1)]) (by decide) rfl rfl (by simp [lg_sl, va_rf_cat, va_cat_r, va_cat_i, va_cat_l, va_cat_d]) (by simp [lv_args, va_rf_cat, va_cat_r, va_cat_i, va_cat_l, va_cat_d]) (List.forall_mem_cons.mpr ⟨⟨Nat.succ_ne_zero _, k_p0⟩, (List.forall_mem_cons.mpr ⟨⟨Nat.succ_ne_zero _, k_p1⟩, (fun _ hq => absurd hq List.not_mem_nil)⟩)⟩) ?_
  intro p e s m args below meth c R H locs cells slots ls C hR hZ hl
  obtain ⟨hx, hb, hr, hml, hts, hown, hlocks, hmn, hK⟩ := id C
  unfold f_L_areFramesRight at hf
  refine lv_iconst (v := 0) hx hb dL_areFramesRight_0 (by decide) ?_
  refine lv_istore_n (i := 2) (lv' := [(2, .int (0 : Int32)), (0, va_rf p0), (1, va_rf p1)]) hx hb dL_areFramesRight_1 rfl hl (by decide) (by simp [va_rf_cat, va_cat_r, va_cat_i, va_cat_l, va_cat_d]) ?_; clear hl; intro ls hl
  exact v_L_areFramesRight_l2 n C hR n p0 p1 (0 : Int32) w _ _ _ _ _ ⟨hZ.1, hZ.2.1, hZ.2.2.1, hZ.2.2.2.1, (List.forall_mem_cons.mpr ⟨⟨Nat.succ_ne_zero _, (fun q hq => hZ.k 0 rfl hq)⟩, (List.forall_mem_cons.mpr ⟨⟨Nat.succ_ne_zero _, (fun q hq => hZ.k 1 rfl hq)⟩, (fun _ hq => absurd hq List.not_mem_nil)⟩)⟩), hZ.2.2.2.2.2⟩ (lv_sub hl [1, 2, 0] rfl) hf

