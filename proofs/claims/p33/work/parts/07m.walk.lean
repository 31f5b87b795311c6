/-! ===== meanings and contracts, laid by wip/p33/gen ===== -/
def f_L_areTriedRight_j194 (n : Nat) (w : Wd) : Option (Int32 × Wd) :=
  some ((0 : Int32), w)
def f_L_areTriedRight_j166 (n : Nat) (rec92 : Option Nat → Option Nat → Int32 → Int32 → Int32 → Int32 → Wd → Option (Int32 × Wd)) (x0 : Option Nat) (x2 : Option Nat) (x3 : Int32) (x5 : Int32) (x7 : Int32) (x8 : Int32) (w : Wd) : Option (Int32 × Wd) :=
  wd_let (x8 + 1) fun v33 =>
  rec92 x0 x2 x3 x5 x7 v33 w
def f_L_areTriedRight_j164 (n : Nat) (w : Wd) : Option (Int32 × Wd) :=
  some ((0 : Int32), w)
def f_L_areTriedRight_l92 (n : Nat) (rec92 : Option Nat → Option Nat → Int32 → Int32 → Int32 → Int32 → Wd → Option (Int32 × Wd)) (x0 : Option Nat) (x2 : Option Nat) (x3 : Int32) (x5 : Int32) (x7 : Int32) (x8 : Int32) (w : Wd) : Option (Int32 × Wd) :=
  if (((4 : Int32) * x3) + (4 : Int32)) ≤ x8 then
    if x7 < (-1 : Int32) then
      f_L_areTriedRight_j194 n w
    else
      if (12 : Int32) < x5 then
        f_L_areTriedRight_j194 n w
      else
        if x5 = 0 then
          f_L_areTriedRight_j194 n w
        else
          some ((1 : Int32), w)
  else
    Option.bind x2 fun a28 =>
    wd_gd (x8 < 0 ∨ wd_N w a28 ≤ x8.toNatClampNeg) <|
    Option.bind (wd_Q w a28 x8.toNatClampNeg) fun a30 =>
    wd_gd ((1 : Int32) < 0 ∨ wd_N w a30 ≤ (1 : Int32).toNatClampNeg) <|
    if (wd_A w a30 (1 : Int32).toNatClampNeg) < 0 then
      f_L_areTriedRight_j166 n rec92 x0 (some a28) x3 x5 x7 x8 w
    else
      wd_gd (x8 < 0 ∨ wd_N w a28 ≤ x8.toNatClampNeg) <|
      Option.bind (wd_Q w a28 x8.toNatClampNeg) fun a36 =>
      wd_gd ((1 : Int32) < 0 ∨ wd_N w a36 ≤ (1 : Int32).toNatClampNeg) <|
      Option.bind x0 fun a38 =>
      wd_b2 (f_X11_hops n w a38 x3 (wd_A w a36 (1 : Int32).toNatClampNeg)) fun r41 w39 =>
      if r41 = (1 : Int32) then
        wd_gd (x8 < 0 ∨ wd_N w39 a28 ≤ x8.toNatClampNeg) <|
        Option.bind (wd_Q w39 a28 x8.toNatClampNeg) fun a44 =>
        wd_gd ((1 : Int32) < 0 ∨ wd_N w39 a44 ≤ (1 : Int32).toNatClampNeg) <|
        wd_b2 (f_X11_widest n w39 a38 x3 (wd_A w39 a44 (1 : Int32).toNatClampNeg)) fun r48 w46 =>
        if r48 = (196 : Int32) then
          wd_gd (x8 < 0 ∨ wd_N w46 a28 ≤ x8.toNatClampNeg) <|
          Option.bind (wd_Q w46 a28 x8.toNatClampNeg) fun a51 =>
          wd_gd ((1 : Int32) < 0 ∨ wd_N w46 a51 ≤ (1 : Int32).toNatClampNeg) <|
          wd_b2 (f_X11_whoTells n w46 a38 x3 (wd_A w46 a51 (1 : Int32).toNatClampNeg) (1 : Int32)) fun r55 w53 =>
          wd_gd (x8 < 0 ∨ wd_N w53 a28 ≤ x8.toNatClampNeg) <|
          Option.bind (wd_Q w53 a28 x8.toNatClampNeg) fun a57 =>
          wd_gd ((1 : Int32) < 0 ∨ wd_N w53 a57 ≤ (1 : Int32).toNatClampNeg) <|
          if r55 = (wd_A w53 a57 (1 : Int32).toNatClampNeg) then
            f_L_areTriedRight_j166 n rec92 (some a38) (some a28) x3 x5 x7 x8 w53
          else
            f_L_areTriedRight_j164 n w53
        else
          f_L_areTriedRight_j164 n w46
      else
        f_L_areTriedRight_j164 n w39
def f_L_areTriedRight_j87 (n : Nat) (x0 : Option Nat) (x2 : Option Nat) (x3 : Int32) (x5 : Int32) (x7 : Int32) (w : Wd) : Option (Int32 × Wd) :=
  wd_let ((4 : Int32) * x3) fun v22 =>
  wd_lp7 (f_L_areTriedRight_l92 n) n x0 x2 x3 x5 x7 v22 w
def f_L_areTriedRight_j85 (n : Nat) (w : Wd) : Option (Int32 × Wd) :=
  some ((0 : Int32), w)
def f_L_areTriedRight_j64 (n : Nat) (x0 : Option Nat) (x2 : Option Nat) (x3 : Int32) (x5 : Int32) (x6 : Int32) (x7 : Int32) (w : Wd) : Option (Int32 × Wd) :=
  if x6 = (-1 : Int32) then
    f_L_areTriedRight_j87 n x0 x2 x3 x5 x7 w
  else
    if x6 < (8 : Int32) then
      f_L_areTriedRight_j85 n w
    else
      if x6 ≤ (196 : Int32) then
        f_L_areTriedRight_j87 n x0 x2 x3 x5 x7 w
      else
        f_L_areTriedRight_j85 n w
def f_L_areTriedRight (n : Nat) (w : Wd) (p0 : Option Nat) (p1 : Int32) (p2 : Option Nat) : Option (Int32 × Wd) :=
  Option.bind p0 fun a1 =>
  wd_b2 (f_X11_machines n w a1) fun r4 w2 =>
  wd_b2 (f_L_below n w2 p1 r4) fun r7 w5 =>
  wd_b2 (f_L_addressOf n w5 p2 (p1 >>> ((4 : Int32) &&& 31))) fun r10 w8 =>
  wd_b2 (f_X11_hops n w8 a1 r7 r10) fun r13 w11 =>
  wd_b2 (f_X11_widest n w11 a1 r7 r10) fun r16 w14 =>
  wd_b2 (f_X11_whoTells n w14 a1 r7 r10 (12 : Int32)) fun r19 w17 =>
  if r13 ≤ 0 then
    f_L_areTriedRight_j64 n (some a1) p2 r7 r13 r16 r19 w17
  else
    wd_b2 (f_X11_whoTells n w17 a1 r7 r10 r13) fun r64 w62 =>
    if r64 < 0 then
      f_L_areTriedRight_j85 n w62
    else
      f_L_areTriedRight_j64 n (some a1) p2 r7 r13 r16 r19 w62
set_option maxHeartbeats 4000000 in
set_option maxRecDepth 100000 in
theorem v_L_areTriedRight_j194 {p : Program} {l : Launch} {e : Env} {R : Room} {s : State} {m : MethodId} {args : Array Value} {below : List Frame} {meth : Method} {c : Code} {E : wd_E} {w0 : Wd} {r' : Int32} {w' : Wd} (n : Nat) (C : wd_X p s m args meth c cL_areTriedRight RL 9 (some .boolean) "areTriedRight" E) (hR : 9 ≤ R.frames ∧ 229 ≤ R.locals) (w : Wd) (H : Heap) (locs : List Loc) (cells slots : Nat) (ls : Array Slot) (hZ : wd_Z E w0 R s w H locs cells slots []) (hl : lv_has ls 9 []) (hf : f_L_areTriedRight_j194 n w = some (r', w')) : W p l e R s m args below meth c H locs cells slots (wd_fin E w0 (some (.int r')) w' True R args s below) (F0 m 194 ls []) := by
  obtain ⟨hx, hb, hr, hml, hts, hown, hlocks, hmn, hK⟩ := id C
  unfold f_L_areTriedRight_j194 at hf
  refine lv_iconst (v := 0) hx hb dL_areTriedRight_194 (by decide) ?_
  obtain ⟨rfl, rfl⟩ := Prod.mk.inj (Option.some.inj hf)
  exact z_zret (by decide) hx hb hr hlocks hZ trivial dL_areTriedRight_195

set_option maxHeartbeats 4000000 in
set_option maxRecDepth 100000 in
theorem v_L_areTriedRight_j166 {p : Program} {l : Launch} {e : Env} {R : Room} {s : State} {m : MethodId} {args : Array Value} {below : List Frame} {meth : Method} {c : Code} {E : wd_E} {w0 : Wd} {r' : Int32} {w' : Wd} (n : Nat) (C : wd_X p s m args meth c cL_areTriedRight RL 9 (some .boolean) "areTriedRight" E) (hR : 9 ≤ R.frames ∧ 229 ≤ R.locals) (rec92 : Option Nat → Option Nat → Int32 → Int32 → Int32 → Int32 → Wd → Option (Int32 × Wd)) (hrec92 : ∀ (x0_ : Option Nat) (x2_ : Option Nat) (x3_ : Int32) (x5_ : Int32) (x7_ : Int32) (x8_ : Int32) (w_ : Wd) (H : Heap) (locs : List Loc) (cells slots : Nat) (ls : Array Slot), wd_Z E w0 R s w_ H locs cells slots [(x0_, 12), (x2_, 26)] → lv_has ls 9 [(0, va_rf x0_), (2, va_rf x2_), (3, .int x3_), (5, .int x5_), (7, .int x7_), (8, .int x8_)] → rec92 x0_ x2_ x3_ x5_ x7_ x8_ w_ = some (r', w') → W p l e R s m args below meth c H locs cells slots (wd_fin E w0 (some (.int r')) w' True R args s below) (F0 m 92 ls [])) (x0 : Option Nat) (x2 : Option Nat) (x3 : Int32) (x5 : Int32) (x7 : Int32) (x8 : Int32) (w : Wd) (H : Heap) (locs : List Loc) (cells slots : Nat) (ls : Array Slot) (hZ : wd_Z E w0 R s w H locs cells slots [(x0, 12), (x2, 26)]) (hl : lv_has ls 9 [(0, va_rf x0), (2, va_rf x2), (3, .int x3), (5, .int x5), (7, .int x7), (8, .int x8)]) (hf : f_L_areTriedRight_j166 n rec92 x0 x2 x3 x5 x7 x8 w = some (r', w')) : W p l e R s m args below meth c H locs cells slots (wd_fin E w0 (some (.int r')) w' True R args s below) (F0 m 166 ls []) := by
  obtain ⟨hx, hb, hr, hml, hts, hown, hlocks, hmn, hK⟩ := id C
  unfold f_L_areTriedRight_j166 at hf
  have hf9 := wd_let_e hf; clear hf; obtain ⟨v33, e34, hf⟩ := hf9
  refine lv_iinc (k := 5) (v := v33) (lv' := [(8, .int v33), (0, va_rf x0), (2, va_rf x2), (3, .int x3), (5, .int x5), (7, .int x7)]) hx hb dL_areTriedRight_166 hl rfl (by rw [← e34]; rfl) (by decide) rfl ?_; clear hl; intro ls hl
  refine lv_goto (tgt := 92) hx hb dL_areTriedRight_169 (by decide) ?_
  exact hrec92 x0 x2 x3 x5 x7 v33 w _ _ _ _ _ ⟨hZ.1, hZ.2.1, hZ.2.2.1, hZ.2.2.2.1, (List.forall_mem_cons.mpr ⟨⟨Nat.succ_ne_zero _, (fun q hq => hZ.k 0 rfl hq)⟩, (List.forall_mem_cons.mpr ⟨⟨Nat.succ_ne_zero _, (fun q hq => hZ.k 1 rfl hq)⟩, (fun _ hq => absurd hq List.not_mem_nil)⟩)⟩), hZ.2.2.2.2.2⟩ (lv_sub hl [1, 2, 3, 4, 5, 0] rfl) hf

set_option maxHeartbeats 4000000 in
set_option maxRecDepth 100000 in
theorem v_L_areTriedRight_j164 {p : Program} {l : Launch} {e : Env} {R : Room} {s : State} {m : MethodId} {args : Array Value} {below : List Frame} {meth : Method} {c : Code} {E : wd_E} {w0 : Wd} {r' : Int32} {w' : Wd} (n : Nat) (C : wd_X p s m args meth c cL_areTriedRight RL 9 (some .boolean) "areTriedRight" E) (hR : 9 ≤ R.frames ∧ 229 ≤ R.locals) (w : Wd) (H : Heap) (locs : List Loc) (cells slots : Nat) (ls : Array Slot) (hZ : wd_Z E w0 R s w H locs cells slots []) (hl : lv_has ls 9 []) (hf : f_L_areTriedRight_j164 n w = some (r', w')) : W p l e R s m args below meth c H locs cells slots (wd_fin E w0 (some (.int r')) w' True R args s below) (F0 m 164 ls []) := by
  obtain ⟨hx, hb, hr, hml, hts, hown, hlocks, hmn, hK⟩ := id C
  unfold f_L_areTriedRight_j164 at hf
  refine lv_iconst (v := 0) hx hb dL_areTriedRight_164 (by decide) ?_
  obtain ⟨rfl, rfl⟩ := Prod.mk.inj (Option.some.inj hf)
  exact z_zret (by decide) hx hb hr hlocks hZ trivial dL_areTriedRight_165

set_option maxHeartbeats 4000000 in
set_option maxRecDepth 100000 in
theorem v_L_areTriedRight_b92 {p : Program} {l : Launch} {e : Env} {R : Room} {s : State} {m : MethodId} {args : Array Value} {below : List Frame} {meth : Method} {c : Code} {E : wd_E} {w0 : Wd} {r' : Int32} {w' : Wd} (n : Nat) (C : wd_X p s m args meth c cL_areTriedRight RL 9 (some .boolean) "areTriedRight" E) (hR : 9 ≤ R.frames ∧ 229 ≤ R.locals) (rec92 : Option Nat → Option Nat → Int32 → Int32 → Int32 → Int32 → Wd → Option (Int32 × Wd)) (hrec92 : ∀ (x0_ : Option Nat) (x2_ : Option Nat) (x3_ : Int32) (x5_ : Int32) (x7_ : Int32) (x8_ : Int32) (w_ : Wd) (H : Heap) (locs : List Loc) (cells slots : Nat) (ls : Array Slot), wd_Z E w0 R s w_ H locs cells slots [(x0_, 12), (x2_, 26)] → lv_has ls 9 [(0, va_rf x0_), (2, va_rf x2_), (3, .int x3_), (5, .int x5_), (7, .int x7_), (8, .int x8_)] → rec92 x0_ x2_ x3_ x5_ x7_ x8_ w_ = some (r', w') → W p l e R s m args below meth c H locs cells slots (wd_fin E w0 (some (.int r')) w' True R args s below) (F0 m 92 ls [])) (x0 : Option Nat) (x2 : Option Nat) (x3 : Int32) (x5 : Int32) (x7 : Int32) (x8 : Int32) (w : Wd) (H : Heap) (locs : List Loc) (cells slots : Nat) (ls : Array Slot) (hZ : wd_Z E w0 R s w H locs cells slots [(x0, 12), (x2, 26)]) (hl : lv_has ls 9 [(0, va_rf x0), (2, va_rf x2), (3, .int x3), (5, .int x5), (7, .int x7), (8, .int x8)]) (hf : f_L_areTriedRight_l92 n rec92 x0 x2 x3 x5 x7 x8 w = some (r', w')) : W p l e R s m args below meth c H locs cells slots (wd_fin E w0 (some (.int r')) w' True R args s below) (F0 m 92 ls []) := by
  obtain ⟨hx, hb, hr, hml, hts, hown, hlocks, hmn, hK⟩ := id C
  unfold f_L_areTriedRight_l92 at hf
  refine lv_iload hx hb dL_areTriedRight_92 (lv_at hl 5 rfl) ?_
  refine lv_iconst (v := 4) hx hb dL_areTriedRight_94 (by decide) ?_
  refine lv_iload_n (i := 3) hx hb dL_areTriedRight_95 rfl (lv_at hl 2 rfl) ?_
  refine lv_imul hx hb dL_areTriedRight_96 ?_
  refine lv_iconst (v := 4) hx hb dL_areTriedRight_97 (by decide) ?_
  refine lv_iadd hx hb dL_areTriedRight_98 ?_
  refine lv_icmp_ge (tgt := 172) hx hb dL_areTriedRight_99 (by decide) (fun h24 => ?_) (fun h24 => ?_)
  · replace hf := wd_ite_p h24 hf
    refine lv_iload hx hb dL_areTriedRight_172 (lv_at hl 4 rfl) ?_
    refine lv_iconst (v := -1) hx hb dL_areTriedRight_174 (by decide) ?_
    refine lv_icmp_lt (tgt := 194) hx hb dL_areTriedRight_175 (by decide) (fun h25 => ?_) (fun h25 => ?_)
    · replace hf := wd_ite_p h25 hf
      exact v_L_areTriedRight_j194 n C hR w _ _ _ _ _ ⟨hZ.1, hZ.2.1, hZ.2.2.1, hZ.2.2.2.1, (fun _ hq => absurd hq List.not_mem_nil), hZ.2.2.2.2.2⟩ (lv_sub hl [] rfl) hf
    · replace hf := wd_ite_n h25 hf
      refine lv_iload hx hb dL_areTriedRight_178 (lv_at hl 3 rfl) ?_
      refine lv_bipush (v := 12) hx hb dL_areTriedRight_180 (by decide) ?_
      refine lv_icmp_gt (tgt := 194) hx hb dL_areTriedRight_182 (by decide) (fun h26 => ?_) (fun h26 => ?_)
      · replace hf := wd_ite_p h26 hf
        exact v_L_areTriedRight_j194 n C hR w _ _ _ _ _ ⟨hZ.1, hZ.2.1, hZ.2.2.1, hZ.2.2.2.1, (fun _ hq => absurd hq List.not_mem_nil), hZ.2.2.2.2.2⟩ (lv_sub hl [] rfl) hf
      · replace hf := wd_ite_n h26 hf
        refine lv_iload hx hb dL_areTriedRight_185 (lv_at hl 3 rfl) ?_
        refine lv_if_eq (tgt := 194) hx hb dL_areTriedRight_187 (by decide) (fun h27 => ?_) (fun h27 => ?_)
        · replace hf := wd_ite_p h27 hf
          exact v_L_areTriedRight_j194 n C hR w _ _ _ _ _ ⟨hZ.1, hZ.2.1, hZ.2.2.1, hZ.2.2.2.1, (fun _ hq => absurd hq List.not_mem_nil), hZ.2.2.2.2.2⟩ (lv_sub hl [] rfl) hf
        · replace hf := wd_ite_n h27 hf
          refine lv_iconst (v := 1) hx hb dL_areTriedRight_190 (by decide) ?_
          refine lv_goto (tgt := 195) hx hb dL_areTriedRight_191 (by decide) ?_
          obtain ⟨rfl, rfl⟩ := Prod.mk.inj (Option.some.inj hf)
          exact z_zret (by decide) hx hb hr hlocks hZ trivial dL_areTriedRight_195
  · replace hf := wd_ite_n h24 hf
    refine z_aload_n (i := 2) hx hb dL_areTriedRight_102 rfl (lv_at hl 1 rfl) ?_
    refine lv_iload hx hb dL_areTriedRight_103 (lv_at hl 5 rfl) ?_
    have hf9 := Option.bind_eq_some_iff.mp hf; clear hf; obtain ⟨a28, ha28, hf⟩ := hf9
    subst ha28
    replace hl : lv_has ls 9 [(0, va_rf x0), (2, .ref a28), (3, .int x3), (5, .int x5), (7, .int x7), (8, .int x8)] := hl
    replace hZ : wd_Z E w0 R s w H locs cells slots [(x0, 12), (some a28, 26)] := hZ
    have hf9 := wd_gd_e hf; clear hf; obtain ⟨h29, hf⟩ := hf9
    refine z_aald (k := 26) (by decide) (by decide) (tk := 20) rfl hx hb hK hZ (hZ.k 1 rfl rfl) h29 dL_areTriedRight_105 ?_; clear hZ; intro hZ
    refine lv_iconst (v := 1) hx hb dL_areTriedRight_106 (by decide) ?_
    have hf9 := Option.bind_eq_some_iff.mp hf; clear hf; obtain ⟨a30, ha30, hf⟩ := hf9
    replace hZ := hZ.add (r := some a30) (k := 21) (Nat.succ_ne_zero _) (fun q hq => by cases hq; exact hZ.k 0 rfl ha30)
    rw [ha30]
    have hf9 := wd_gd_e hf; clear hf; obtain ⟨h31, hf⟩ := hf9
    refine z_iald hx hb hK hZ (hZ.k 0 rfl rfl) h31 dL_areTriedRight_107 ?_
    refine lv_if_lt (tgt := 166) hx hb dL_areTriedRight_108 (by decide) (fun h32 => ?_) (fun h32 => ?_)
    · replace hf := wd_ite_p h32 hf
      exact v_L_areTriedRight_j166 n C hR rec92 hrec92 x0 (some a28) x3 x5 x7 x8 w _ _ _ _ _ ⟨hZ.1, hZ.2.1, hZ.2.2.1, hZ.2.2.2.1, (List.forall_mem_cons.mpr ⟨⟨Nat.succ_ne_zero _, (fun q hq => hZ.k 2 rfl hq)⟩, (List.forall_mem_cons.mpr ⟨⟨Nat.succ_ne_zero _, (fun q hq => by cases hq; exact (hZ.k 3 rfl rfl))⟩, (fun _ hq => absurd hq List.not_mem_nil)⟩)⟩), hZ.2.2.2.2.2⟩ (lv_sub hl [0, 1, 2, 3, 4, 5] rfl) hf
    · replace hf := wd_ite_n h32 hf
      refine z_aload_n (i := 0) hx hb dL_areTriedRight_111 rfl (lv_at hl 0 rfl) ?_
      refine lv_iload_n (i := 3) hx hb dL_areTriedRight_112 rfl (lv_at hl 2 rfl) ?_
      refine lv_aload_n (i := 2) hx hb dL_areTriedRight_113 rfl (lv_at hl 1 rfl) ?_
      refine lv_iload hx hb dL_areTriedRight_114 (lv_at hl 5 rfl) ?_
      have hf9 := wd_gd_e hf; clear hf; obtain ⟨h35, hf⟩ := hf9
      refine z_aald (k := 26) (by decide) (by decide) (tk := 20) rfl hx hb hK hZ (hZ.k 3 rfl rfl) h35 dL_areTriedRight_116 ?_; clear hZ; intro hZ
      refine lv_iconst (v := 1) hx hb dL_areTriedRight_117 (by decide) ?_
      have hf9 := Option.bind_eq_some_iff.mp hf; clear hf; obtain ⟨a36, ha36, hf⟩ := hf9
      replace hZ := hZ.add (r := some a36) (k := 21) (Nat.succ_ne_zero _) (fun q hq => by cases hq; exact hZ.k 0 rfl ha36)
      rw [ha36]
      have hf9 := wd_gd_e hf; clear hf; obtain ⟨h37, hf⟩ := hf9
      refine z_iald hx hb hK hZ (hZ.k 0 rfl rfl) h37 dL_areTriedRight_118 ?_
      have hf9 := Option.bind_eq_some_iff.mp hf; clear hf; obtain ⟨a38, ha38, hf⟩ := hf9
      subst ha38
      replace hl : lv_has ls 9 [(0, .ref a38), (2, .ref a28), (3, .int x3), (5, .int x5), (7, .int x7), (8, .int x8)] := hl
      replace hZ : wd_Z E w0 R s w H locs cells slots [(some a36, 21), ((wd_Q w a28 x8.toNatClampNeg), 21), (some a30, 21), ((wd_Q w a28 x8.toNatClampNeg), 21), (some a38, 12), (some a28, 26)] := hZ
      have hf9 := wd_b2_e hf; clear hf; obtain ⟨r41, w39, hc40, hf⟩ := hf9
      refine z_callV (ci := 11) (As := [.int x3, .int (wd_A w a36 (1 : Int32).toNatClampNeg)]) (rest := []) (c_X11_hops l E n w a38 x3 (wd_A w a36 (1 : Int32).toNatClampNeg) r41 w39 (hZ.k 4 rfl rfl) hc40) mo_X11_hops rfl (by decide) rfl tw_1041 tw_1042 tw_1040 hx hb hml hts hown hK ⟨Nat.le_trans (by decide) hR.1, Nat.le_trans (by decide) hR.2⟩ hZ (hZ.k 4 rfl rfl) rfl hl.1 rfl (Nat.le_of_ble_eq_true rfl) rfl dL_areTriedRight_119 ?_; clear hZ; intro H locs cells slots hX hZ
      refine lv_iconst (v := 1) hx hb dL_areTriedRight_122 (by decide) ?_
      refine lv_icmp_ne (tgt := 164) hx hb dL_areTriedRight_123 (by decide) (fun h42 => ?_) (fun h42 => ?_)
      · replace hf := wd_ite_n h42 hf
        exact v_L_areTriedRight_j164 n C hR w39 _ _ _ _ _ ⟨hZ.1, hZ.2.1, hZ.2.2.1, hZ.2.2.2.1, (fun _ hq => absurd hq List.not_mem_nil), hZ.2.2.2.2.2⟩ (lv_sub hl [] rfl) hf
      · replace hf := wd_ite_p h42 hf
        refine lv_aload_n (i := 0) hx hb dL_areTriedRight_126 rfl (lv_at hl 0 rfl) ?_
        refine lv_iload_n (i := 3) hx hb dL_areTriedRight_127 rfl (lv_at hl 2 rfl) ?_
        refine lv_aload_n (i := 2) hx hb dL_areTriedRight_128 rfl (lv_at hl 1 rfl) ?_
        refine lv_iload hx hb dL_areTriedRight_129 (lv_at hl 5 rfl) ?_
        have hf9 := wd_gd_e hf; clear hf; obtain ⟨h43, hf⟩ := hf9
        refine z_aald (k := 26) (by decide) (by decide) (tk := 20) rfl hx hb hK hZ (hZ.k 5 rfl rfl) h43 dL_areTriedRight_131 ?_; clear hZ; intro hZ
        refine lv_iconst (v := 1) hx hb dL_areTriedRight_132 (by decide) ?_
        have hf9 := Option.bind_eq_some_iff.mp hf; clear hf; obtain ⟨a44, ha44, hf⟩ := hf9
        replace hZ := hZ.add (r := some a44) (k := 21) (Nat.succ_ne_zero _) (fun q hq => by cases hq; exact hZ.k 0 rfl ha44)
        rw [ha44]
        have hf9 := wd_gd_e hf; clear hf; obtain ⟨h45, hf⟩ := hf9
        refine z_iald hx hb hK hZ (hZ.k 0 rfl rfl) h45 dL_areTriedRight_133 ?_
        have hf9 := wd_b2_e hf; clear hf; obtain ⟨r48, w46, hc47, hf⟩ := hf9
        refine z_callV (ci := 11) (As := [.int x3, .int (wd_A w39 a44 (1 : Int32).toNatClampNeg)]) (rest := []) (c_X11_widest l E n w39 a38 x3 (wd_A w39 a44 (1 : Int32).toNatClampNeg) r48 w46 (hZ.k 6 rfl rfl) hc47) mo_X11_widest rfl (by decide) rfl tw_1089 tw_1090 tw_1088 hx hb hml hts hown hK ⟨Nat.le_trans (by decide) hR.1, Nat.le_trans (by decide) hR.2⟩ hZ (hZ.k 6 rfl rfl) rfl hl.1 rfl (Nat.le_of_ble_eq_true rfl) rfl dL_areTriedRight_134 ?_; clear hZ; intro H locs cells slots hX hZ
        refine lv_sipush (v := 196) hx hb dL_areTriedRight_137 (by decide) ?_
        refine lv_icmp_ne (tgt := 164) hx hb dL_areTriedRight_140 (by decide) (fun h49 => ?_) (fun h49 => ?_)
        · replace hf := wd_ite_n h49 hf
          exact v_L_areTriedRight_j164 n C hR w46 _ _ _ _ _ ⟨hZ.1, hZ.2.1, hZ.2.2.1, hZ.2.2.2.1, (fun _ hq => absurd hq List.not_mem_nil), hZ.2.2.2.2.2⟩ (lv_sub hl [] rfl) hf
        · replace hf := wd_ite_p h49 hf
          refine lv_aload_n (i := 0) hx hb dL_areTriedRight_143 rfl (lv_at hl 0 rfl) ?_
          refine lv_iload_n (i := 3) hx hb dL_areTriedRight_144 rfl (lv_at hl 2 rfl) ?_
          refine lv_aload_n (i := 2) hx hb dL_areTriedRight_145 rfl (lv_at hl 1 rfl) ?_
          refine lv_iload hx hb dL_areTriedRight_146 (lv_at hl 5 rfl) ?_
          have hf9 := wd_gd_e hf; clear hf; obtain ⟨h50, hf⟩ := hf9
          refine z_aald (k := 26) (by decide) (by decide) (tk := 20) rfl hx hb hK hZ (hZ.k 7 rfl rfl) h50 dL_areTriedRight_148 ?_; clear hZ; intro hZ
          refine lv_iconst (v := 1) hx hb dL_areTriedRight_149 (by decide) ?_
          have hf9 := Option.bind_eq_some_iff.mp hf; clear hf; obtain ⟨a51, ha51, hf⟩ := hf9
          replace hZ := hZ.add (r := some a51) (k := 21) (Nat.succ_ne_zero _) (fun q hq => by cases hq; exact hZ.k 0 rfl ha51)
          rw [ha51]
          have hf9 := wd_gd_e hf; clear hf; obtain ⟨h52, hf⟩ := hf9
          refine z_iald hx hb hK hZ (hZ.k 0 rfl rfl) h52 dL_areTriedRight_150 ?_
          refine lv_iconst (v := 1) hx hb dL_areTriedRight_151 (by decide) ?_
          have hf9 := wd_b2_e hf; clear hf; obtain ⟨r55, w53, hc54, hf⟩ := hf9
          refine z_callV (ci := 11) (As := [.int x3, .int (wd_A w46 a51 (1 : Int32).toNatClampNeg), .int (1 : Int32)]) (rest := []) (c_X11_whoTells l E n w46 a38 x3 (wd_A w46 a51 (1 : Int32).toNatClampNeg) (1 : Int32) r55 w53 (hZ.k 8 rfl rfl) hc54) mo_X11_whoTells rfl (by decide) rfl tw_1093 tw_1094 tw_1092 hx hb hml hts hown hK ⟨Nat.le_trans (by decide) hR.1, Nat.le_trans (by decide) hR.2⟩ hZ (hZ.k 8 rfl rfl) rfl hl.1 rfl (Nat.le_of_ble_eq_true rfl) rfl dL_areTriedRight_152 ?_; clear hZ; intro H locs cells slots hX hZ
          refine lv_aload_n (i := 2) hx hb dL_areTriedRight_155 rfl (lv_at hl 1 rfl) ?_
          refine lv_iload hx hb dL_areTriedRight_156 (lv_at hl 5 rfl) ?_
          have hf9 := wd_gd_e hf; clear hf; obtain ⟨h56, hf⟩ := hf9
          refine z_aald (k := 26) (by decide) (by decide) (tk := 20) rfl hx hb hK hZ (hZ.k 9 rfl rfl) h56 dL_areTriedRight_158 ?_; clear hZ; intro hZ
          refine lv_iconst (v := 1) hx hb dL_areTriedRight_159 (by decide) ?_
          have hf9 := Option.bind_eq_some_iff.mp hf; clear hf; obtain ⟨a57, ha57, hf⟩ := hf9
          replace hZ := hZ.add (r := some a57) (k := 21) (Nat.succ_ne_zero _) (fun q hq => by cases hq; exact hZ.k 0 rfl ha57)
          rw [ha57]
          have hf9 := wd_gd_e hf; clear hf; obtain ⟨h58, hf⟩ := hf9
          refine z_iald hx hb hK hZ (hZ.k 0 rfl rfl) h58 dL_areTriedRight_160 ?_
          refine lv_icmp_eq (tgt := 166) hx hb dL_areTriedRight_161 (by decide) (fun h59 => ?_) (fun h59 => ?_)
          · replace hf := wd_ite_p h59 hf
            exact v_L_areTriedRight_j166 n C hR rec92 hrec92 (some a38) (some a28) x3 x5 x7 x8 w53 _ _ _ _ _ ⟨hZ.1, hZ.2.1, hZ.2.2.1, hZ.2.2.2.1, (List.forall_mem_cons.mpr ⟨⟨Nat.succ_ne_zero _, (fun q hq => by cases hq; exact (hZ.k 10 rfl rfl))⟩, (List.forall_mem_cons.mpr ⟨⟨Nat.succ_ne_zero _, (fun q hq => by cases hq; exact (hZ.k 11 rfl rfl))⟩, (fun _ hq => absurd hq List.not_mem_nil)⟩)⟩), hZ.2.2.2.2.2⟩ (lv_sub hl [0, 1, 2, 3, 4, 5] rfl) hf
          · replace hf := wd_ite_n h59 hf
            exact v_L_areTriedRight_j164 n C hR w53 _ _ _ _ _ ⟨hZ.1, hZ.2.1, hZ.2.2.1, hZ.2.2.2.1, (fun _ hq => absurd hq List.not_mem_nil), hZ.2.2.2.2.2⟩ (lv_sub hl [] rfl) hf

theorem v_L_areTriedRight_l92 {p : Program} {l : Launch} {e : Env} {R : Room} {s : State} {m : MethodId} {args : Array Value} {below : List Frame} {meth : Method} {c : Code} {E : wd_E} {w0 : Wd} {r' : Int32} {w' : Wd} (n : Nat) (C : wd_X p s m args meth c cL_areTriedRight RL 9 (some .boolean) "areTriedRight" E) (hR : 9 ≤ R.frames ∧ 229 ≤ R.locals) : ∀ (k : Nat) (x0 : Option Nat) (x2 : Option Nat) (x3 : Int32) (x5 : Int32) (x7 : Int32) (x8 : Int32) (w : Wd) (H : Heap) (locs : List Loc) (cells slots : Nat) (ls : Array Slot), wd_Z E w0 R s w H locs cells slots [(x0, 12), (x2, 26)] → lv_has ls 9 [(0, va_rf x0), (2, va_rf x2), (3, .int x3), (5, .int x5), (7, .int x7), (8, .int x8)] → wd_lp7 (f_L_areTriedRight_l92 n) k x0 x2 x3 x5 x7 x8 w = some (r', w') → W p l e R s m args below meth c H locs cells slots (wd_fin E w0 (some (.int r')) w' True R args s below) (F0 m 92 ls []) := by
  intro k
  induction k with
  | zero => intro _ _ _ _ _ _ _ _ _ _ _ _ _ _ hf; cases hf
  | succ k ih =>
    intro x0 x2 x3 x5 x7 x8 w H locs cells slots ls hZ hl hf
    exact v_L_areTriedRight_b92 n C hR (wd_lp7 (f_L_areTriedRight_l92 n) k) ih x0 x2 x3 x5 x7 x8 w H locs cells slots ls hZ hl hf

set_option maxHeartbeats 4000000 in
set_option maxRecDepth 100000 in
theorem v_L_areTriedRight_j87 {p : Program} {l : Launch} {e : Env} {R : Room} {s : State} {m : MethodId} {args : Array Value} {below : List Frame} {meth : Method} {c : Code} {E : wd_E} {w0 : Wd} {r' : Int32} {w' : Wd} (n : Nat) (C : wd_X p s m args meth c cL_areTriedRight RL 9 (some .boolean) "areTriedRight" E) (hR : 9 ≤ R.frames ∧ 229 ≤ R.locals) (x0 : Option Nat) (x2 : Option Nat) (x3 : Int32) (x5 : Int32) (x7 : Int32) (w : Wd) (H : Heap) (locs : List Loc) (cells slots : Nat) (ls : Array Slot) (hZ : wd_Z E w0 R s w H locs cells slots [(x0, 12), (x2, 26)]) (hl : lv_has ls 9 [(0, va_rf x0), (2, va_rf x2), (3, .int x3), (5, .int x5), (7, .int x7)]) (hf : f_L_areTriedRight_j87 n x0 x2 x3 x5 x7 w = some (r', w')) : W p l e R s m args below meth c H locs cells slots (wd_fin E w0 (some (.int r')) w' True R args s below) (F0 m 87 ls []) := by
  obtain ⟨hx, hb, hr, hml, hts, hown, hlocks, hmn, hK⟩ := id C
  unfold f_L_areTriedRight_j87 at hf
  refine lv_iconst (v := 4) hx hb dL_areTriedRight_87 (by decide) ?_
  refine lv_iload_n (i := 3) hx hb dL_areTriedRight_88 rfl (lv_at hl 2 rfl) ?_
  refine lv_imul hx hb dL_areTriedRight_89 ?_
  have hf9 := wd_let_e hf; clear hf; obtain ⟨v22, e23, hf⟩ := hf9
  rw [e23]
  refine lv_istore (i := 8) (lv' := [(8, .int v22), (0, va_rf x0), (2, va_rf x2), (3, .int x3), (5, .int x5), (7, .int x7)]) hx hb dL_areTriedRight_90 hl (by decide) rfl ?_; clear hl; intro ls hl
  exact v_L_areTriedRight_l92 n C hR n x0 x2 x3 x5 x7 v22 w _ _ _ _ _ ⟨hZ.1, hZ.2.1, hZ.2.2.1, hZ.2.2.2.1, (List.forall_mem_cons.mpr ⟨⟨Nat.succ_ne_zero _, (fun q hq => hZ.k 0 rfl hq)⟩, (List.forall_mem_cons.mpr ⟨⟨Nat.succ_ne_zero _, (fun q hq => hZ.k 1 rfl hq)⟩, (fun _ hq => absurd hq List.not_mem_nil)⟩)⟩), hZ.2.2.2.2.2⟩ (lv_sub hl [1, 2, 3, 4, 5, 0] rfl) hf

set_option maxHeartbeats 4000000 in
set_option maxRecDepth 100000 in
theorem v_L_areTriedRight_j85 {p : Program} {l : Launch} {e : Env} {R : Room} {s : State} {m : MethodId} {args : Array Value} {below : List Frame} {meth : Method} {c : Code} {E : wd_E} {w0 : Wd} {r' : Int32} {w' : Wd} (n : Nat) (C : wd_X p s m args meth c cL_areTriedRight RL 9 (some .boolean) "areTriedRight" E) (hR : 9 ≤ R.frames ∧ 229 ≤ R.locals) (w : Wd) (H : Heap) (locs : List Loc) (cells slots : Nat) (ls : Array Slot) (hZ : wd_Z E w0 R s w H locs cells slots []) (hl : lv_has ls 9 []) (hf : f_L_areTriedRight_j85 n w = some (r', w')) : W p l e R s m args below meth c H locs cells slots (wd_fin E w0 (some (.int r')) w' True R args s below) (F0 m 85 ls []) := by
  obtain ⟨hx, hb, hr, hml, hts, hown, hlocks, hmn, hK⟩ := id C
  unfold f_L_areTriedRight_j85 at hf
  refine lv_iconst (v := 0) hx hb dL_areTriedRight_85 (by decide) ?_
  obtain ⟨rfl, rfl⟩ := Prod.mk.inj (Option.some.inj hf)
  exact z_zret (by decide) hx hb hr hlocks hZ trivial dL_areTriedRight_86

set_option maxHeartbeats 4000000 in
set_option maxRecDepth 100000 in
theorem v_L_areTriedRight_j64 {p : Program} {l : Launch} {e : Env} {R : Room} {s : State} {m : MethodId} {args : Array Value} {below : List Frame} {meth : Method} {c : Code} {E : wd_E} {w0 : Wd} {r' : Int32} {w' : Wd} (n : Nat) (C : wd_X p s m args meth c cL_areTriedRight RL 9 (some .boolean) "areTriedRight" E) (hR : 9 ≤ R.frames ∧ 229 ≤ R.locals) (x0 : Option Nat) (x2 : Option Nat) (x3 : Int32) (x5 : Int32) (x6 : Int32) (x7 : Int32) (w : Wd) (H : Heap) (locs : List Loc) (cells slots : Nat) (ls : Array Slot) (hZ : wd_Z E w0 R s w H locs cells slots [(x0, 12), (x2, 26)]) (hl : lv_has ls 9 [(0, va_rf x0), (2, va_rf x2), (3, .int x3), (5, .int x5), (6, .int x6), (7, .int x7)]) (hf : f_L_areTriedRight_j64 n x0 x2 x3 x5 x6 x7 w = some (r', w')) : W p l e R s m args below meth c H locs cells slots (wd_fin E w0 (some (.int r')) w' True R args s below) (F0 m 64 ls []) := by
  obtain ⟨hx, hb, hr, hml, hts, hown, hlocks, hmn, hK⟩ := id C
  unfold f_L_areTriedRight_j64 at hf
  refine lv_iload hx hb dL_areTriedRight_64 (lv_at hl 4 rfl) ?_
  refine lv_iconst (v := -1) hx hb dL_areTriedRight_66 (by decide) ?_
  refine lv_icmp_eq (tgt := 87) hx hb dL_areTriedRight_67 (by decide) (fun h21 => ?_) (fun h21 => ?_)
  · replace hf := wd_ite_p h21 hf
    exact v_L_areTriedRight_j87 n C hR x0 x2 x3 x5 x7 w _ _ _ _ _ ⟨hZ.1, hZ.2.1, hZ.2.2.1, hZ.2.2.2.1, (List.forall_mem_cons.mpr ⟨⟨Nat.succ_ne_zero _, (fun q hq => hZ.k 0 rfl hq)⟩, (List.forall_mem_cons.mpr ⟨⟨Nat.succ_ne_zero _, (fun q hq => hZ.k 1 rfl hq)⟩, (fun _ hq => absurd hq List.not_mem_nil)⟩)⟩), hZ.2.2.2.2.2⟩ (lv_sub hl [0, 1, 2, 3, 5] rfl) hf
  · replace hf := wd_ite_n h21 hf
    refine lv_iload hx hb dL_areTriedRight_70 (lv_at hl 4 rfl) ?_
    refine lv_bipush (v := 8) hx hb dL_areTriedRight_72 (by decide) ?_
    refine lv_icmp_lt (tgt := 85) hx hb dL_areTriedRight_74 (by decide) (fun h60 => ?_) (fun h60 => ?_)
    · replace hf := wd_ite_p h60 hf
      exact v_L_areTriedRight_j85 n C hR w _ _ _ _ _ ⟨hZ.1, hZ.2.1, hZ.2.2.1, hZ.2.2.2.1, (fun _ hq => absurd hq List.not_mem_nil), hZ.2.2.2.2.2⟩ (lv_sub hl [] rfl) hf
    · replace hf := wd_ite_n h60 hf
      refine lv_iload hx hb dL_areTriedRight_77 (lv_at hl 4 rfl) ?_
      refine lv_sipush (v := 196) hx hb dL_areTriedRight_79 (by decide) ?_
      refine lv_icmp_le (tgt := 87) hx hb dL_areTriedRight_82 (by decide) (fun h61 => ?_) (fun h61 => ?_)
      · replace hf := wd_ite_p h61 hf
        exact v_L_areTriedRight_j87 n C hR x0 x2 x3 x5 x7 w _ _ _ _ _ ⟨hZ.1, hZ.2.1, hZ.2.2.1, hZ.2.2.2.1, (List.forall_mem_cons.mpr ⟨⟨Nat.succ_ne_zero _, (fun q hq => hZ.k 0 rfl hq)⟩, (List.forall_mem_cons.mpr ⟨⟨Nat.succ_ne_zero _, (fun q hq => hZ.k 1 rfl hq)⟩, (fun _ hq => absurd hq List.not_mem_nil)⟩)⟩), hZ.2.2.2.2.2⟩ (lv_sub hl [0, 1, 2, 3, 5] rfl) hf
      · replace hf := wd_ite_n h61 hf
        exact v_L_areTriedRight_j85 n C hR w _ _ _ _ _ ⟨hZ.1, hZ.2.1, hZ.2.2.1, hZ.2.2.2.1, (fun _ hq => absurd hq List.not_mem_nil), hZ.2.2.2.2.2⟩ (lv_sub hl [] rfl) hf

set_option maxHeartbeats 4000000 in
set_option maxRecDepth 100000 in
theorem c_L_areTriedRight (l : Launch) (E : wd_E) (n : Nat) (w : Wd) (p0 : Option Nat) (p1 : Int32) (p2 : Option Nat) (r' : Int32) (w' : Wd) (k_p0 : ∀ q, p0 = some q → wd_K w q = 12) (k_p2 : ∀ q, p2 = some q → wd_K w q = 26) (hf : f_L_areTriedRight n w p0 p1 p2 = some (r', w')) : wd_C l E yL_areTriedRight cL_areTriedRight 9 (some .boolean) 9 229 [va_rf p0, .int p1, va_rf p2] w (some (.int r')) w' True := by
  refine wd_ofW (own := RL) (nm := "areTriedRight") (ks := [(p0, 12), (p2, 26)]) (lv := [(0, va_rf p0), (1, .int p1), (2, va_rf p2)]) (by decide) rfl rfl (by simp [lg_sl, va_rf_cat, va_cat_r, va_cat_i, va_cat_l, va_cat_d]) (by simp [lv_args, va_rf_cat, va_cat_r, va_cat_i, va_cat_l, va_cat_d]) (List.forall_mem_cons.mpr ⟨⟨Nat.succ_ne_zero _, k_p0⟩, (List.forall_mem_cons.mpr ⟨⟨Nat.succ_ne_zero _, k_p2⟩, (fun _ hq => absurd hq List.not_mem_nil)⟩)⟩) ?_
  intro p e s m args below meth c R H locs cells slots ls C hR hZ hl
  obtain ⟨hx, hb, hr, hml, hts, hown, hlocks, hmn, hK⟩ := id C
  unfold f_L_areTriedRight at hf
  refine lv_iload_n (i := 1) hx hb dL_areTriedRight_0 rfl (lv_at hl 1 rfl) ?_
  refine z_aload_n (i := 0) hx hb dL_areTriedRight_1 rfl (lv_at hl 0 rfl) ?_
  have hf9 := Option.bind_eq_some_iff.mp hf; clear hf; obtain ⟨a1, ha1, hf⟩ := hf9
  subst ha1
  replace hl : lv_has ls 9 [(0, .ref a1), (1, .int p1), (2, va_rf p2)] := hl
  replace hZ : wd_Z E w R s w H locs cells slots [(some a1, 12), (p2, 26)] := hZ
  have hf9 := wd_b2_e hf; clear hf; obtain ⟨r4, w2, hc3, hf⟩ := hf9
  refine z_callV (ci := 11) (As := []) (rest := [.int p1]) (c_X11_machines l E n w a1 r4 w2 (hZ.k 0 rfl rfl) hc3) mo_X11_machines rfl (by decide) rfl tw_510 tw_511 tw_509 hx hb hml hts hown hK ⟨Nat.le_trans (by decide) hR.1, Nat.le_trans (by decide) hR.2⟩ hZ (hZ.k 0 rfl rfl) rfl hl.1 rfl (Nat.le_of_ble_eq_true rfl) rfl dL_areTriedRight_2 ?_; clear hZ; intro H locs cells slots hX hZ
  have hf9 := wd_b2_e hf; clear hf; obtain ⟨r7, w5, hc6, hf⟩ := hf9
  refine z_callS (As := [.int p1, .int r4]) (rest := []) (c_L_below l E n w2 p1 r4 r7 w5  hc6) mo_L_below tw_496 tw_495 hx hb hml hts hown hK ⟨Nat.le_trans (by decide) hR.1, Nat.le_trans (by decide) hR.2⟩ hZ rfl hl.1 rfl (Nat.le_of_ble_eq_true rfl) rfl dL_areTriedRight_5 ?_; clear hZ; intro H locs cells slots hX hZ
  refine lv_istore_n (i := 3) (lv' := [(3, .int r7), (0, .ref a1), (1, .int p1), (2, va_rf p2)]) hx hb dL_areTriedRight_8 rfl hl (by decide) (by simp [va_rf_cat, va_cat_r, va_cat_i, va_cat_l, va_cat_d]) ?_; clear hl; intro ls hl
  refine z_aload_n (i := 2) hx hb dL_areTriedRight_9 rfl (lv_at hl 3 rfl) ?_
  refine lv_iload_n (i := 1) hx hb dL_areTriedRight_10 rfl (lv_at hl 2 rfl) ?_
  refine lv_iconst (v := 4) hx hb dL_areTriedRight_11 (by decide) ?_
  refine lv_ishr hx hb dL_areTriedRight_12 ?_
  have hf9 := wd_b2_e hf; clear hf; obtain ⟨r10, w8, hc9, hf⟩ := hf9
  refine z_callS (As := [va_rf p2, .int (p1 >>> ((4 : Int32) &&& 31))]) (rest := []) (c_L_addressOf l E n w5 p2 (p1 >>> ((4 : Int32) &&& 31)) r10 w8 (fun q hq => hZ.k 1 rfl hq) hc9) mo_L_addressOf tw_607 tw_606 hx hb hml hts hown hK ⟨Nat.le_trans (by decide) hR.1, Nat.le_trans (by decide) hR.2⟩ hZ rfl hl.1 rfl (Nat.le_of_ble_eq_true rfl) rfl dL_areTriedRight_13 ?_; clear hZ; intro H locs cells slots hX hZ
  refine lv_istore (i := 4) (lv' := [(4, .int r10), (3, .int r7), (0, .ref a1), (1, .int p1), (2, va_rf p2)]) hx hb dL_areTriedRight_16 hl (by decide) rfl ?_; clear hl; intro ls hl
  refine lv_aload_n (i := 0) hx hb dL_areTriedRight_18 rfl (lv_at hl 2 rfl) ?_
  refine lv_iload_n (i := 3) hx hb dL_areTriedRight_19 rfl (lv_at hl 1 rfl) ?_
  refine lv_iload hx hb dL_areTriedRight_20 (lv_at hl 0 rfl) ?_
  have hf9 := wd_b2_e hf; clear hf; obtain ⟨r13, w11, hc12, hf⟩ := hf9
  refine z_callV (ci := 11) (As := [.int r7, .int r10]) (rest := []) (c_X11_hops l E n w8 a1 r7 r10 r13 w11 (hZ.k 0 rfl rfl) hc12) mo_X11_hops rfl (by decide) rfl tw_1041 tw_1042 tw_1040 hx hb hml hts hown hK ⟨Nat.le_trans (by decide) hR.1, Nat.le_trans (by decide) hR.2⟩ hZ (hZ.k 0 rfl rfl) rfl hl.1 rfl (Nat.le_of_ble_eq_true rfl) rfl dL_areTriedRight_22 ?_; clear hZ; intro H locs cells slots hX hZ
  refine lv_istore (i := 5) (lv' := [(5, .int r13), (4, .int r10), (3, .int r7), (0, .ref a1), (1, .int p1), (2, va_rf p2)]) hx hb dL_areTriedRight_25 hl (by decide) rfl ?_; clear hl; intro ls hl
  refine lv_aload_n (i := 0) hx hb dL_areTriedRight_27 rfl (lv_at hl 3 rfl) ?_
  refine lv_iload_n (i := 3) hx hb dL_areTriedRight_28 rfl (lv_at hl 2 rfl) ?_
  refine lv_iload hx hb dL_areTriedRight_29 (lv_at hl 1 rfl) ?_
  have hf9 := wd_b2_e hf; clear hf; obtain ⟨r16, w14, hc15, hf⟩ := hf9
  refine z_callV (ci := 11) (As := [.int r7, .int r10]) (rest := []) (c_X11_widest l E n w11 a1 r7 r10 r16 w14 (hZ.k 0 rfl rfl) hc15) mo_X11_widest rfl (by decide) rfl tw_1089 tw_1090 tw_1088 hx hb hml hts hown hK ⟨Nat.le_trans (by decide) hR.1, Nat.le_trans (by decide) hR.2⟩ hZ (hZ.k 0 rfl rfl) rfl hl.1 rfl (Nat.le_of_ble_eq_true rfl) rfl dL_areTriedRight_31 ?_; clear hZ; intro H locs cells slots hX hZ
  refine lv_istore (i := 6) (lv' := [(6, .int r16), (5, .int r13), (4, .int r10), (3, .int r7), (0, .ref a1), (1, .int p1), (2, va_rf p2)]) hx hb dL_areTriedRight_34 hl (by decide) rfl ?_; clear hl; intro ls hl
  refine lv_aload_n (i := 0) hx hb dL_areTriedRight_36 rfl (lv_at hl 4 rfl) ?_
  refine lv_iload_n (i := 3) hx hb dL_areTriedRight_37 rfl (lv_at hl 3 rfl) ?_
  refine lv_iload hx hb dL_areTriedRight_38 (lv_at hl 2 rfl) ?_
  refine lv_bipush (v := 12) hx hb dL_areTriedRight_40 (by decide) ?_
  have hf9 := wd_b2_e hf; clear hf; obtain ⟨r19, w17, hc18, hf⟩ := hf9
  refine z_callV (ci := 11) (As := [.int r7, .int r10, .int (12 : Int32)]) (rest := []) (c_X11_whoTells l E n w14 a1 r7 r10 (12 : Int32) r19 w17 (hZ.k 0 rfl rfl) hc18) mo_X11_whoTells rfl (by decide) rfl tw_1093 tw_1094 tw_1092 hx hb hml hts hown hK ⟨Nat.le_trans (by decide) hR.1, Nat.le_trans (by decide) hR.2⟩ hZ (hZ.k 0 rfl rfl) rfl hl.1 rfl (Nat.le_of_ble_eq_true rfl) rfl dL_areTriedRight_42 ?_; clear hZ; intro H locs cells slots hX hZ
  refine lv_istore (i := 7) (lv' := [(7, .int r19), (6, .int r16), (5, .int r13), (4, .int r10), (3, .int r7), (0, .ref a1), (1, .int p1), (2, va_rf p2)]) hx hb dL_areTriedRight_45 hl (by decide) rfl ?_; clear hl; intro ls hl
  refine lv_iload hx hb dL_areTriedRight_47 (lv_at hl 2 rfl) ?_
  refine lv_if_le (tgt := 64) hx hb dL_areTriedRight_49 (by decide) (fun h20 => ?_) (fun h20 => ?_)
  · replace hf := wd_ite_p h20 hf
    exact v_L_areTriedRight_j64 n C hR (some a1) p2 r7 r13 r16 r19 w17 _ _ _ _ _ ⟨hZ.1, hZ.2.1, hZ.2.2.1, hZ.2.2.2.1, (List.forall_mem_cons.mpr ⟨⟨Nat.succ_ne_zero _, (fun q hq => by cases hq; exact (hZ.k 0 rfl rfl))⟩, (List.forall_mem_cons.mpr ⟨⟨Nat.succ_ne_zero _, (fun q hq => hZ.k 1 rfl hq)⟩, (fun _ hq => absurd hq List.not_mem_nil)⟩)⟩), hZ.2.2.2.2.2⟩ (lv_sub hl [5, 7, 4, 2, 1, 0] rfl) hf
  · replace hf := wd_ite_n h20 hf
    refine lv_aload_n (i := 0) hx hb dL_areTriedRight_52 rfl (lv_at hl 5 rfl) ?_
    refine lv_iload_n (i := 3) hx hb dL_areTriedRight_53 rfl (lv_at hl 4 rfl) ?_
    refine lv_iload hx hb dL_areTriedRight_54 (lv_at hl 3 rfl) ?_
    refine lv_iload hx hb dL_areTriedRight_56 (lv_at hl 2 rfl) ?_
    have hf9 := wd_b2_e hf; clear hf; obtain ⟨r64, w62, hc63, hf⟩ := hf9
    refine z_callV (ci := 11) (As := [.int r7, .int r10, .int r13]) (rest := []) (c_X11_whoTells l E n w17 a1 r7 r10 r13 r64 w62 (hZ.k 0 rfl rfl) hc63) mo_X11_whoTells rfl (by decide) rfl tw_1093 tw_1094 tw_1092 hx hb hml hts hown hK ⟨Nat.le_trans (by decide) hR.1, Nat.le_trans (by decide) hR.2⟩ hZ (hZ.k 0 rfl rfl) rfl hl.1 rfl (Nat.le_of_ble_eq_true rfl) rfl dL_areTriedRight_58 ?_; clear hZ; intro H locs cells slots hX hZ
    refine lv_if_lt (tgt := 85) hx hb dL_areTriedRight_61 (by decide) (fun h65 => ?_) (fun h65 => ?_)
    · replace hf := wd_ite_p h65 hf
      exact v_L_areTriedRight_j85 n C hR w62 _ _ _ _ _ ⟨hZ.1, hZ.2.1, hZ.2.2.1, hZ.2.2.2.1, (fun _ hq => absurd hq List.not_mem_nil), hZ.2.2.2.2.2⟩ (lv_sub hl [] rfl) hf
    · replace hf := wd_ite_n h65 hf
      exact v_L_areTriedRight_j64 n C hR (some a1) p2 r7 r13 r16 r19 w62 _ _ _ _ _ ⟨hZ.1, hZ.2.1, hZ.2.2.1, hZ.2.2.2.1, (List.forall_mem_cons.mpr ⟨⟨Nat.succ_ne_zero _, (fun q hq => by cases hq; exact (hZ.k 0 rfl rfl))⟩, (List.forall_mem_cons.mpr ⟨⟨Nat.succ_ne_zero _, (fun q hq => hZ.k 1 rfl hq)⟩, (fun _ hq => absurd hq List.not_mem_nil)⟩)⟩), hZ.2.2.2.2.2⟩ (lv_sub hl [5, 7, 4, 2, 1, 0] rfl) hf

def f_L_law_j205 (n : Nat) (w : Wd) : Option (Int32 × Wd) :=
  some ((0 : Int32), w)
def f_L_law_j207 (n : Nat) (rec111 : Option Nat → Nat → Nat → Int32 → Wd → Option (Int32 × Wd)) (x0 : Option Nat) (x1 : Nat) (x2 : Nat) (x3 : Int32) (w : Wd) : Option (Int32 × Wd) :=
  wd_let (x3 + 1) fun v64 =>
  rec111 x0 x1 x2 v64 w
def f_L_law_l111 (n : Nat) (rec111 : Option Nat → Nat → Nat → Int32 → Wd → Option (Int32 × Wd)) (x0 : Option Nat) (x1 : Nat) (x2 : Nat) (x3 : Int32) (w : Wd) : Option (Int32 × Wd) :=
  if (44 : Int32) ≤ x3 then
    some ((1 : Int32), w)
  else
    wd_b2 (f_L_cell n w x0 ((3 : Int32) + (x3 - x3 / (29 : Int32) * (29 : Int32)))) fun r36 w34 =>
    wd_b2 (f_L_act n w34 (some x1) (r36 >>> (((x3 / (29 : Int32)) * (9 : Int32)) &&& 31)) (some x2)) fun r39 w37 =>
    if r39 = 0 then
      some ((0 : Int32), w37)
    else
      if (x3 - x3 / (11 : Int32) * (11 : Int32)) = (10 : Int32) then
        wd_b2 (f_X11_digest n w37 x1) fun r44 w42 =>
        wd_b2 (f_L_areMachinesRight n w42 (some x1) (some x2)) fun r47 w45 =>
        if r47 = 0 then
          f_L_law_j205 n w45
        else
          wd_b2 (f_L_areFramesRight n w45 (some x1) (some x2)) fun r51 w49 =>
          if r51 = 0 then
            f_L_law_j205 n w49
          else
            wd_b2 (f_L_cell n w49 x0 (x3 - x3 / (29 : Int32) * (29 : Int32))) fun r55 w53 =>
            wd_b2 (f_L_areTriedRight n w53 (some x1) r55 (some x2)) fun r58 w56 =>
            if r58 = 0 then
              f_L_law_j205 n w56
            else
              wd_b2 (f_X11_digest n w56 x1) fun r62 w60 =>
              if (lg_cmp r62 r44) = 0 then
                f_L_law_j207 n rec111 x0 x1 x2 x3 w60
              else
                f_L_law_j205 n w60
      else
        f_L_law_j207 n rec111 x0 x1 x2 x3 w37
def f_L_law_j99 (n : Nat) (rec74 : Option Nat → Nat → Nat → Int32 → Wd → Option (Int32 × Wd)) (y0 : Int32) (y1 : Nat) (x0 : Option Nat) (x1 : Nat) (x2 : Nat) (x3 : Int32) (w : Wd) : Option (Int32 × Wd) :=
  wd_b2 (f_X11_addMachine n w y1 y0) fun o75 w73 =>
  wd_ox o75 (
    none)
    (fun r76 =>
    wd_let (x3 + 1) fun v78 =>
    rec74 x0 x1 x2 v78 w73)
def f_L_law_l74 (n : Nat) (rec74 : Option Nat → Nat → Nat → Int32 → Wd → Option (Int32 × Wd)) (x0 : Option Nat) (x1 : Nat) (x2 : Nat) (x3 : Int32) (w : Wd) : Option (Int32 × Wd) :=
  if (3 : Int32) ≤ x3 then
    wd_lp5 (f_L_law_l111 n) n x0 x1 x2 (0 : Int32) w
  else
    wd_b2 (f_L_cell n w x0 (2 : Int32)) fun r68 w66 =>
    wd_b2 (f_L_below n w66 (r68 >>> (x3 &&& 31)) (4 : Int32)) fun r71 w69 =>
    if r71 ≤ 0 then
      f_L_law_j99 n rec74 (0 : Int32) x1 x0 x1 x2 x3 w69
    else
      f_L_law_j99 n rec74 (1 : Int32) x1 x0 x1 x2 x3 w69
def f_L_law_l18 (n : Nat) (rec18 : Option Nat → Nat → Nat → Int32 → Wd → Option (Int32 × Wd)) (x0 : Option Nat) (x1 : Nat) (x2 : Nat) (x3 : Int32) (w : Wd) : Option (Int32 × Wd) :=
  if (32 : Int32) ≤ x3 then
    wd_b2 (f_L_cell n w x0 (0 : Int32)) fun r16 w14 =>
    wd_b2 (f_L_below n w14 r16 (40 : Int32)) fun r19 w17 =>
    wd_b2 (f_X11_addCable n w17 x1 ((12 : Int32) + r19)) fun r22 w20 =>
    wd_b2 (f_L_cell n w20 x0 (1 : Int32)) fun r25 w23 =>
    wd_b2 (f_L_below n w23 r25 (90 : Int32)) fun r28 w26 =>
    wd_b2 (f_X11_addCable n w26 x1 ((12 : Int32) + r28)) fun r31 w29 =>
    wd_lp5 (f_L_law_l74 n) n x0 x1 x2 (0 : Int32) w29
  else
    wd_gd (x3 < 0 ∨ wd_N w x2 ≤ x3.toNatClampNeg) <|
    Option.bind (wd_Q w x2 x3.toNatClampNeg) fun a81 =>
    wd_gd ((1 : Int32) < 0 ∨ wd_N w a81 ≤ (1 : Int32).toNatClampNeg) <|
    wd_let (wd_sA w a81 (1 : Int32).toNatClampNeg (-1 : Int32)) fun w83 =>
    wd_let (x3 + 1) fun v85 =>
    rec18 x0 x1 x2 v85 w83
def f_L_law (n : Nat) (w : Wd) (p0 : Option Nat) : Option (Int32 × Wd) :=
  wd_gd (wd_M w = 0 ∨ wd_S w < 3) <|
  wd_let (wd_H w) fun a2 =>
  wd_let (wd_nw w 12 0 3) fun w4 =>
  Option.bind (f_X11_init n w4 a2) fun w6 =>
  wd_gd (wd_M w6 < 1 + 32 ∨ wd_S w6 < 32 + 32 * 2) <|
  wd_let (wd_H w6) fun a9 =>
  wd_let (wd_mna w6 32 2) fun w11 =>
  wd_lp5 (f_L_law_l18 n) n p0 a2 a9 (0 : Int32) w11
set_option maxHeartbeats 4000000 in
set_option maxRecDepth 100000 in
theorem v_L_law_j205 {p : Program} {l : Launch} {e : Env} {R : Room} {s : State} {m : MethodId} {args : Array Value} {below : List Frame} {meth : Method} {c : Code} {E : wd_E} {w0 : Wd} {w' : Wd} {nm : String} (n : Nat) (C : wd_X p s m args meth c cL_law RL 6 (some .boolean) nm E) (hR : 10 ≤ R.frames ∧ 257 ≤ R.locals) (hst : l.stackTraces = false) (hover : (Cond.arrayOver (.array .int)).before args s = true) {Q : State → Prop} (hQ : ∀ (w : Wd) (H : Heap) (locs : List Loc) (cells slots : Nat) (ls : Array Slot) (pc : Nat), wd_Z E w0 R s w H locs cells slots [] → decode cL_law pc = .ok (.ireturn, 1) → W p l e R s m args below meth c H locs cells slots Q (F0 m pc ls [.int 1])) (w : Wd) (H : Heap) (locs : List Loc) (cells slots : Nat) (ls : Array Slot) (hZ : wd_Z E w0 R s w H locs cells slots []) (hl : lv_has ls 6 []) (hf : f_L_law_j205 n w = some ((1 : Int32), w')) : W p l e R s m args below meth c H locs cells slots Q (F0 m 205 ls []) := by
  obtain ⟨hx, hb, hr, hml, hts, hown, hlocks, hmn, hK⟩ := id C
  unfold f_L_law_j205 at hf
  refine lv_iconst (v := 0) hx hb dL_law_205 (by decide) ?_
  exact absurd (Prod.mk.inj (Option.some.inj hf)).1 (by decide)

set_option maxHeartbeats 4000000 in
set_option maxRecDepth 100000 in
theorem v_L_law_j207 {p : Program} {l : Launch} {e : Env} {R : Room} {s : State} {m : MethodId} {args : Array Value} {below : List Frame} {meth : Method} {c : Code} {E : wd_E} {w0 : Wd} {w' : Wd} {nm : String} (n : Nat) (C : wd_X p s m args meth c cL_law RL 6 (some .boolean) nm E) (hR : 10 ≤ R.frames ∧ 257 ≤ R.locals) (hst : l.stackTraces = false) (hover : (Cond.arrayOver (.array .int)).before args s = true) {Q : State → Prop} (hQ : ∀ (w : Wd) (H : Heap) (locs : List Loc) (cells slots : Nat) (ls : Array Slot) (pc : Nat), wd_Z E w0 R s w H locs cells slots [] → decode cL_law pc = .ok (.ireturn, 1) → W p l e R s m args below meth c H locs cells slots Q (F0 m pc ls [.int 1])) (rec111 : Option Nat → Nat → Nat → Int32 → Wd → Option (Int32 × Wd)) (hrec111 : ∀ (x0_ : Option Nat) (x1_ : Nat) (x2_ : Nat) (x3_ : Int32) (w_ : Wd) (H : Heap) (locs : List Loc) (cells slots : Nat) (ls : Array Slot), wd_Z E w0 R s w_ H locs cells slots [(x0_, 20), (some x1_, 12), (some x2_, 26)] → lv_has ls 6 [(0, va_rf x0_), (1, .ref x1_), (2, .ref x2_), (3, .int x3_)] → rec111 x0_ x1_ x2_ x3_ w_ = some ((1 : Int32), w') → W p l e R s m args below meth c H locs cells slots Q (F0 m 111 ls [])) (x0 : Option Nat) (x1 : Nat) (x2 : Nat) (x3 : Int32) (w : Wd) (H : Heap) (locs : List Loc) (cells slots : Nat) (ls : Array Slot) (hZ : wd_Z E w0 R s w H locs cells slots [(x0, 20), (some x1, 12), (some x2, 26)]) (hl : lv_has ls 6 [(0, va_rf x0), (1, .ref x1), (2, .ref x2), (3, .int x3)]) (hf : f_L_law_j207 n rec111 x0 x1 x2 x3 w = some ((1 : Int32), w')) : W p l e R s m args below meth c H locs cells slots Q (F0 m 207 ls []) := by
  obtain ⟨hx, hb, hr, hml, hts, hown, hlocks, hmn, hK⟩ := id C
  unfold f_L_law_j207 at hf
  have hf9 := wd_let_e hf; clear hf; obtain ⟨v64, e65, hf⟩ := hf9
  refine lv_iinc (k := 3) (v := v64) (lv' := [(3, .int v64), (0, va_rf x0), (1, .ref x1), (2, .ref x2)]) hx hb dL_law_207 hl rfl (by rw [← e65]; rfl) (by decide) rfl ?_; clear hl; intro ls hl
  refine lv_goto (tgt := 111) hx hb dL_law_210 (by decide) ?_
  exact hrec111 x0 x1 x2 v64 w _ _ _ _ _ ⟨hZ.1, hZ.2.1, hZ.2.2.1, hZ.2.2.2.1, (List.forall_mem_cons.mpr ⟨⟨Nat.succ_ne_zero _, (fun q hq => hZ.k 0 rfl hq)⟩, (List.forall_mem_cons.mpr ⟨⟨Nat.succ_ne_zero _, (fun q hq => by cases hq; exact (hZ.k 1 rfl rfl))⟩, (List.forall_mem_cons.mpr ⟨⟨Nat.succ_ne_zero _, (fun q hq => by cases hq; exact (hZ.k 2 rfl rfl))⟩, (fun _ hq => absurd hq List.not_mem_nil)⟩)⟩)⟩), hZ.2.2.2.2.2⟩ (lv_sub hl [1, 2, 3, 0] rfl) hf

set_option maxHeartbeats 4000000 in
set_option maxRecDepth 100000 in
theorem v_L_law_b111 {p : Program} {l : Launch} {e : Env} {R : Room} {s : State} {m : MethodId} {args : Array Value} {below : List Frame} {meth : Method} {c : Code} {E : wd_E} {w0 : Wd} {w' : Wd} {nm : String} (n : Nat) (C : wd_X p s m args meth c cL_law RL 6 (some .boolean) nm E) (hR : 10 ≤ R.frames ∧ 257 ≤ R.locals) (hst : l.stackTraces = false) (hover : (Cond.arrayOver (.array .int)).before args s = true) {Q : State → Prop} (hQ : ∀ (w : Wd) (H : Heap) (locs : List Loc) (cells slots : Nat) (ls : Array Slot) (pc : Nat), wd_Z E w0 R s w H locs cells slots [] → decode cL_law pc = .ok (.ireturn, 1) → W p l e R s m args below meth c H locs cells slots Q (F0 m pc ls [.int 1])) (rec111 : Option Nat → Nat → Nat → Int32 → Wd → Option (Int32 × Wd)) (hrec111 : ∀ (x0_ : Option Nat) (x1_ : Nat) (x2_ : Nat) (x3_ : Int32) (w_ : Wd) (H : Heap) (locs : List Loc) (cells slots : Nat) (ls : Array Slot), wd_Z E w0 R s w_ H locs cells slots [(x0_, 20), (some x1_, 12), (some x2_, 26)] → lv_has ls 6 [(0, va_rf x0_), (1, .ref x1_), (2, .ref x2_), (3, .int x3_)] → rec111 x0_ x1_ x2_ x3_ w_ = some ((1 : Int32), w') → W p l e R s m args below meth c H locs cells slots Q (F0 m 111 ls [])) (x0 : Option Nat) (x1 : Nat) (x2 : Nat) (x3 : Int32) (w : Wd) (H : Heap) (locs : List Loc) (cells slots : Nat) (ls : Array Slot) (hZ : wd_Z E w0 R s w H locs cells slots [(x0, 20), (some x1, 12), (some x2, 26)]) (hl : lv_has ls 6 [(0, va_rf x0), (1, .ref x1), (2, .ref x2), (3, .int x3)]) (hf : f_L_law_l111 n rec111 x0 x1 x2 x3 w = some ((1 : Int32), w')) : W p l e R s m args below meth c H locs cells slots Q (F0 m 111 ls []) := by
  obtain ⟨hx, hb, hr, hml, hts, hown, hlocks, hmn, hK⟩ := id C
  unfold f_L_law_l111 at hf
  refine lv_iload_n (i := 3) hx hb dL_law_111 rfl (lv_at hl 3 rfl) ?_
  refine lv_bipush (v := 44) hx hb dL_law_112 (by decide) ?_
  refine lv_icmp_ge (tgt := 213) hx hb dL_law_114 (by decide) (fun h33 => ?_) (fun h33 => ?_)
  · replace hf := wd_ite_p h33 hf
    refine lv_iconst (v := 1) hx hb dL_law_213 (by decide) ?_
    exact hQ _ _ _ _ _ _ _ (hZ.sub [] rfl) dL_law_214
  · replace hf := wd_ite_n h33 hf
    refine lv_aload_n (i := 1) hx hb dL_law_117 rfl (lv_at hl 1 rfl) ?_
    refine z_aload_n (i := 0) hx hb dL_law_118 rfl (lv_at hl 0 rfl) ?_
    refine lv_iconst (v := 3) hx hb dL_law_119 (by decide) ?_
    refine lv_iload_n (i := 3) hx hb dL_law_120 rfl (lv_at hl 3 rfl) ?_
    refine lv_bipush (v := 29) hx hb dL_law_121 (by decide) ?_
    refine lv_irem hx hb dL_law_123 (by decide) ?_
    refine lv_iadd hx hb dL_law_124 ?_
    have hf9 := wd_b2_e hf; clear hf; obtain ⟨r36, w34, hc35, hf⟩ := hf9
    refine z_callS (As := [va_rf x0, .int ((3 : Int32) + (x3 - x3 / (29 : Int32) * (29 : Int32)))]) (rest := [.ref x1]) (c_L_cell l E n w x0 ((3 : Int32) + (x3 - x3 / (29 : Int32) * (29 : Int32))) r36 w34 (fun q hq => hZ.k 0 rfl hq) hc35) mo_L_cell tw_500 tw_499 hx hb hml hts hown hK ⟨Nat.le_trans (by decide) hR.1, Nat.le_trans (by decide) hR.2⟩ hZ rfl hl.1 rfl (Nat.le_of_ble_eq_true rfl) rfl dL_law_125 ?_; clear hZ; intro H locs cells slots hX hZ
    refine lv_iload_n (i := 3) hx hb dL_law_128 rfl (lv_at hl 3 rfl) ?_
    refine lv_bipush (v := 29) hx hb dL_law_129 (by decide) ?_
    refine lv_idiv hx hb dL_law_131 (by decide) ?_
    refine lv_bipush (v := 9) hx hb dL_law_132 (by decide) ?_
    refine lv_imul hx hb dL_law_134 ?_
    refine lv_ishr hx hb dL_law_135 ?_
    refine lv_aload_n (i := 2) hx hb dL_law_136 rfl (lv_at hl 2 rfl) ?_
    have hf9 := wd_b2_e hf; clear hf; obtain ⟨r39, w37, hc38, hf⟩ := hf9
    refine z_callSW (n := 3) (As := [va_rf (some x1), .int (r36 >>> (((x3 / (29 : Int32)) * (9 : Int32)) &&& 31)), va_rf (some x2)]) (rest := []) (c_L_act l hst E n w34 (some x1) (r36 >>> (((x3 / (29 : Int32)) * (9 : Int32)) &&& 31)) (some x2) r39 w37 (fun q hq => by cases hq; exact (hZ.k 1 rfl rfl)) (fun q hq => by cases hq; exact (hZ.k 2 rfl rfl)) hc38) tw_505 tw_26 (by decide +kernel) tw_504 tw_503 hx hb hml hts hown hK ⟨Nat.le_trans (by decide) hR.1, Nat.le_trans (by decide) hR.2⟩ hZ rfl hl.1 rfl (Nat.le_of_ble_eq_true rfl) rfl dL_law_137 ?_; clear hZ; intro H locs cells slots hX hZ
    refine lv_if_ne (tgt := 145) hx hb dL_law_140 (by decide) (fun h40 => ?_) (fun h40 => ?_)
    · replace hf := wd_ite_n h40 hf
      refine lv_iload_n (i := 3) hx hb dL_law_145 rfl (lv_at hl 3 rfl) ?_
      refine lv_bipush (v := 11) hx hb dL_law_146 (by decide) ?_
      refine lv_irem hx hb dL_law_148 (by decide) ?_
      refine lv_bipush (v := 10) hx hb dL_law_149 (by decide) ?_
      refine lv_icmp_eq (tgt := 157) hx hb dL_law_151 (by decide) (fun h41 => ?_) (fun h41 => ?_)
      · replace hf := wd_ite_p h41 hf
        refine lv_aload_n (i := 1) hx hb dL_law_157 rfl (lv_at hl 1 rfl) ?_
        have hf9 := wd_b2_e hf; clear hf; obtain ⟨r44, w42, hc43, hf⟩ := hf9
        refine z_callV (ci := 11) (As := []) (rest := []) (c_X11_digest l E n w37 x1 r44 w42 (hZ.k 1 rfl rfl) hc43) mo_X11_digest rfl (by decide) rfl tw_421 tw_422 tw_420 hx hb hml hts hown hK ⟨Nat.le_trans (by decide) hR.1, Nat.le_trans (by decide) hR.2⟩ hZ (hZ.k 1 rfl rfl) rfl hl.1 rfl (Nat.le_of_ble_eq_true rfl) rfl dL_law_158 ?_; clear hZ; intro H locs cells slots hX hZ
        refine lv_lstore (i := 4) (lv' := [(4, .long r44), (0, va_rf x0), (1, .ref x1), (2, .ref x2), (3, .int x3)]) hx hb dL_law_161 hl (by decide) rfl ?_; clear hl; intro ls hl
        refine lv_aload_n (i := 1) hx hb dL_law_163 rfl (lv_at hl 2 rfl) ?_
        refine lv_aload_n (i := 2) hx hb dL_law_164 rfl (lv_at hl 3 rfl) ?_
        have hf9 := wd_b2_e hf; clear hf; obtain ⟨r47, w45, hc46, hf⟩ := hf9
        refine z_callS (As := [va_rf (some x1), va_rf (some x2)]) (rest := []) (c_L_areMachinesRight l E n w42 (some x1) (some x2) r47 w45 (fun q hq => by cases hq; exact (hZ.k 1 rfl rfl)) (fun q hq => by cases hq; exact (hZ.k 2 rfl rfl)) hc46) mo_L_areMachinesRight tw_983 tw_982 hx hb hml hts hown hK ⟨Nat.le_trans (by decide) hR.1, Nat.le_trans (by decide) hR.2⟩ hZ rfl hl.1 rfl (Nat.le_of_ble_eq_true rfl) rfl dL_law_165 ?_; clear hZ; intro H locs cells slots hX hZ
        refine lv_if_eq (tgt := 205) hx hb dL_law_168 (by decide) (fun h48 => ?_) (fun h48 => ?_)
        · replace hf := wd_ite_p h48 hf
          exact v_L_law_j205 n C hR hst hover hQ w45 _ _ _ _ _ ⟨hZ.1, hZ.2.1, hZ.2.2.1, hZ.2.2.2.1, (fun _ hq => absurd hq List.not_mem_nil), hZ.2.2.2.2.2⟩ (lv_sub hl [] rfl) hf
        · replace hf := wd_ite_n h48 hf
          refine lv_aload_n (i := 1) hx hb dL_law_171 rfl (lv_at hl 2 rfl) ?_
          refine lv_aload_n (i := 2) hx hb dL_law_172 rfl (lv_at hl 3 rfl) ?_
          have hf9 := wd_b2_e hf; clear hf; obtain ⟨r51, w49, hc50, hf⟩ := hf9
          refine z_callS (As := [va_rf (some x1), va_rf (some x2)]) (rest := []) (c_L_areFramesRight l E n w45 (some x1) (some x2) r51 w49 (fun q hq => by cases hq; exact (hZ.k 1 rfl rfl)) (fun q hq => by cases hq; exact (hZ.k 2 rfl rfl)) hc50) mo_L_areFramesRight tw_1026 tw_1025 hx hb hml hts hown hK ⟨Nat.le_trans (by decide) hR.1, Nat.le_trans (by decide) hR.2⟩ hZ rfl hl.1 rfl (Nat.le_of_ble_eq_true rfl) rfl dL_law_173 ?_; clear hZ; intro H locs cells slots hX hZ
          refine lv_if_eq (tgt := 205) hx hb dL_law_176 (by decide) (fun h52 => ?_) (fun h52 => ?_)
          · replace hf := wd_ite_p h52 hf
            exact v_L_law_j205 n C hR hst hover hQ w49 _ _ _ _ _ ⟨hZ.1, hZ.2.1, hZ.2.2.1, hZ.2.2.2.1, (fun _ hq => absurd hq List.not_mem_nil), hZ.2.2.2.2.2⟩ (lv_sub hl [] rfl) hf
          · replace hf := wd_ite_n h52 hf
            refine lv_aload_n (i := 1) hx hb dL_law_179 rfl (lv_at hl 2 rfl) ?_
            refine z_aload_n (i := 0) hx hb dL_law_180 rfl (lv_at hl 1 rfl) ?_
            refine lv_iload_n (i := 3) hx hb dL_law_181 rfl (lv_at hl 4 rfl) ?_
            refine lv_bipush (v := 29) hx hb dL_law_182 (by decide) ?_
            refine lv_irem hx hb dL_law_184 (by decide) ?_
            have hf9 := wd_b2_e hf; clear hf; obtain ⟨r55, w53, hc54, hf⟩ := hf9
            refine z_callS (As := [va_rf x0, .int (x3 - x3 / (29 : Int32) * (29 : Int32))]) (rest := [.ref x1]) (c_L_cell l E n w49 x0 (x3 - x3 / (29 : Int32) * (29 : Int32)) r55 w53 (fun q hq => hZ.k 0 rfl hq) hc54) mo_L_cell tw_500 tw_499 hx hb hml hts hown hK ⟨Nat.le_trans (by decide) hR.1, Nat.le_trans (by decide) hR.2⟩ hZ rfl hl.1 rfl (Nat.le_of_ble_eq_true rfl) rfl dL_law_185 ?_; clear hZ; intro H locs cells slots hX hZ
            refine lv_aload_n (i := 2) hx hb dL_law_188 rfl (lv_at hl 3 rfl) ?_
            have hf9 := wd_b2_e hf; clear hf; obtain ⟨r58, w56, hc57, hf⟩ := hf9
            refine z_callS (As := [va_rf (some x1), .int r55, va_rf (some x2)]) (rest := []) (c_L_areTriedRight l E n w53 (some x1) r55 (some x2) r58 w56 (fun q hq => by cases hq; exact (hZ.k 1 rfl rfl)) (fun q hq => by cases hq; exact (hZ.k 2 rfl rfl)) hc57) mo_L_areTriedRight tw_1038 tw_1037 hx hb hml hts hown hK ⟨Nat.le_trans (by decide) hR.1, Nat.le_trans (by decide) hR.2⟩ hZ rfl hl.1 rfl (Nat.le_of_ble_eq_true rfl) rfl dL_law_189 ?_; clear hZ; intro H locs cells slots hX hZ
            refine lv_if_eq (tgt := 205) hx hb dL_law_192 (by decide) (fun h59 => ?_) (fun h59 => ?_)
            · replace hf := wd_ite_p h59 hf
              exact v_L_law_j205 n C hR hst hover hQ w56 _ _ _ _ _ ⟨hZ.1, hZ.2.1, hZ.2.2.1, hZ.2.2.2.1, (fun _ hq => absurd hq List.not_mem_nil), hZ.2.2.2.2.2⟩ (lv_sub hl [] rfl) hf
            · replace hf := wd_ite_n h59 hf
              refine lv_aload_n (i := 1) hx hb dL_law_195 rfl (lv_at hl 2 rfl) ?_
              have hf9 := wd_b2_e hf; clear hf; obtain ⟨r62, w60, hc61, hf⟩ := hf9
              refine z_callV (ci := 11) (As := []) (rest := []) (c_X11_digest l E n w56 x1 r62 w60 (hZ.k 1 rfl rfl) hc61) mo_X11_digest rfl (by decide) rfl tw_421 tw_422 tw_420 hx hb hml hts hown hK ⟨Nat.le_trans (by decide) hR.1, Nat.le_trans (by decide) hR.2⟩ hZ (hZ.k 1 rfl rfl) rfl hl.1 rfl (Nat.le_of_ble_eq_true rfl) rfl dL_law_196 ?_; clear hZ; intro H locs cells slots hX hZ
              refine lv_lload hx hb dL_law_199 (lv_at hl 0 rfl) ?_
              refine W.lcmp hx hb dL_law_201 ?_
              refine lv_if_eq (tgt := 207) hx hb dL_law_202 (by decide) (fun h63 => ?_) (fun h63 => ?_)
              · replace hf := wd_ite_p h63 hf
                exact v_L_law_j207 n C hR hst hover hQ rec111 hrec111 x0 x1 x2 x3 w60 _ _ _ _ _ ⟨hZ.1, hZ.2.1, hZ.2.2.1, hZ.2.2.2.1, (List.forall_mem_cons.mpr ⟨⟨Nat.succ_ne_zero _, (fun q hq => hZ.k 0 rfl hq)⟩, (List.forall_mem_cons.mpr ⟨⟨Nat.succ_ne_zero _, (fun q hq => by cases hq; exact (hZ.k 1 rfl rfl))⟩, (List.forall_mem_cons.mpr ⟨⟨Nat.succ_ne_zero _, (fun q hq => by cases hq; exact (hZ.k 2 rfl rfl))⟩, (fun _ hq => absurd hq List.not_mem_nil)⟩)⟩)⟩), hZ.2.2.2.2.2⟩ (lv_sub hl [1, 2, 3, 4] rfl) hf
              · replace hf := wd_ite_n h63 hf
                exact v_L_law_j205 n C hR hst hover hQ w60 _ _ _ _ _ ⟨hZ.1, hZ.2.1, hZ.2.2.1, hZ.2.2.2.1, (fun _ hq => absurd hq List.not_mem_nil), hZ.2.2.2.2.2⟩ (lv_sub hl [] rfl) hf
      · replace hf := wd_ite_n h41 hf
        refine lv_goto (tgt := 207) hx hb dL_law_154 (by decide) ?_
        exact v_L_law_j207 n C hR hst hover hQ rec111 hrec111 x0 x1 x2 x3 w37 _ _ _ _ _ ⟨hZ.1, hZ.2.1, hZ.2.2.1, hZ.2.2.2.1, (List.forall_mem_cons.mpr ⟨⟨Nat.succ_ne_zero _, (fun q hq => hZ.k 0 rfl hq)⟩, (List.forall_mem_cons.mpr ⟨⟨Nat.succ_ne_zero _, (fun q hq => by cases hq; exact (hZ.k 1 rfl rfl))⟩, (List.forall_mem_cons.mpr ⟨⟨Nat.succ_ne_zero _, (fun q hq => by cases hq; exact (hZ.k 2 rfl rfl))⟩, (fun _ hq => absurd hq List.not_mem_nil)⟩)⟩)⟩), hZ.2.2.2.2.2⟩ (lv_sub hl [0, 1, 2, 3] rfl) hf
    · replace hf := wd_ite_p h40 hf
      refine lv_iconst (v := 0) hx hb dL_law_143 (by decide) ?_
      exact absurd (Prod.mk.inj (Option.some.inj hf)).1 (by decide)

theorem v_L_law_l111 {p : Program} {l : Launch} {e : Env} {R : Room} {s : State} {m : MethodId} {args : Array Value} {below : List Frame} {meth : Method} {c : Code} {E : wd_E} {w0 : Wd} {w' : Wd} {nm : String} (n : Nat) (C : wd_X p s m args meth c cL_law RL 6 (some .boolean) nm E) (hR : 10 ≤ R.frames ∧ 257 ≤ R.locals) (hst : l.stackTraces = false) (hover : (Cond.arrayOver (.array .int)).before args s = true) {Q : State → Prop} (hQ : ∀ (w : Wd) (H : Heap) (locs : List Loc) (cells slots : Nat) (ls : Array Slot) (pc : Nat), wd_Z E w0 R s w H locs cells slots [] → decode cL_law pc = .ok (.ireturn, 1) → W p l e R s m args below meth c H locs cells slots Q (F0 m pc ls [.int 1])) : ∀ (k : Nat) (x0 : Option Nat) (x1 : Nat) (x2 : Nat) (x3 : Int32) (w : Wd) (H : Heap) (locs : List Loc) (cells slots : Nat) (ls : Array Slot), wd_Z E w0 R s w H locs cells slots [(x0, 20), (some x1, 12), (some x2, 26)] → lv_has ls 6 [(0, va_rf x0), (1, .ref x1), (2, .ref x2), (3, .int x3)] → wd_lp5 (f_L_law_l111 n) k x0 x1 x2 x3 w = some ((1 : Int32), w') → W p l e R s m args below meth c H locs cells slots Q (F0 m 111 ls []) := by
  intro k
  induction k with
  | zero => intro _ _ _ _ _ _ _ _ _ _ _ _ hf; cases hf
  | succ k ih =>
    intro x0 x1 x2 x3 w H locs cells slots ls hZ hl hf
    exact v_L_law_b111 n C hR hst hover hQ (wd_lp5 (f_L_law_l111 n) k) ih x0 x1 x2 x3 w H locs cells slots ls hZ hl hf

set_option maxHeartbeats 4000000 in
set_option maxRecDepth 100000 in
theorem v_L_law_j99 {p : Program} {l : Launch} {e : Env} {R : Room} {s : State} {m : MethodId} {args : Array Value} {below : List Frame} {meth : Method} {c : Code} {E : wd_E} {w0 : Wd} {w' : Wd} {nm : String} (n : Nat) (C : wd_X p s m args meth c cL_law RL 6 (some .boolean) nm E) (hR : 10 ≤ R.frames ∧ 257 ≤ R.locals) (hst : l.stackTraces = false) (hover : (Cond.arrayOver (.array .int)).before args s = true) {Q : State → Prop} (hQ : ∀ (w : Wd) (H : Heap) (locs : List Loc) (cells slots : Nat) (ls : Array Slot) (pc : Nat), wd_Z E w0 R s w H locs cells slots [] → decode cL_law pc = .ok (.ireturn, 1) → W p l e R s m args below meth c H locs cells slots Q (F0 m pc ls [.int 1])) (rec74 : Option Nat → Nat → Nat → Int32 → Wd → Option (Int32 × Wd)) (hrec74 : ∀ (x0_ : Option Nat) (x1_ : Nat) (x2_ : Nat) (x3_ : Int32) (w_ : Wd) (H : Heap) (locs : List Loc) (cells slots : Nat) (ls : Array Slot), wd_Z E w0 R s w_ H locs cells slots [(x0_, 20), (some x1_, 12), (some x2_, 26)] → lv_has ls 6 [(0, va_rf x0_), (1, .ref x1_), (2, .ref x2_), (3, .int x3_)] → rec74 x0_ x1_ x2_ x3_ w_ = some ((1 : Int32), w') → W p l e R s m args below meth c H locs cells slots Q (F0 m 74 ls [])) (y0 : Int32) (y1 : Nat) (x0 : Option Nat) (x1 : Nat) (x2 : Nat) (x3 : Int32) (w : Wd) (H : Heap) (locs : List Loc) (cells slots : Nat) (ls : Array Slot) (hZ : wd_Z E w0 R s w H locs cells slots [(some y1, 12), (x0, 20), (some x1, 12), (some x2, 26)]) (hl : lv_has ls 6 [(0, va_rf x0), (1, .ref x1), (2, .ref x2), (3, .int x3)]) (hf : f_L_law_j99 n rec74 y0 y1 x0 x1 x2 x3 w = some ((1 : Int32), w')) : W p l e R s m args below meth c H locs cells slots Q (F0 m 99 ls [.int y0, .ref y1]) := by
  obtain ⟨hx, hb, hr, hml, hts, hown, hlocks, hmn, hK⟩ := id C
  unfold f_L_law_j99 at hf
  have hf9 := wd_b2_e hf; clear hf; obtain ⟨o75, w73, hc74, hf⟩ := hf9
  refine z_callVX (ci := 11) (As := [.int y0]) (rest := []) (c_X11_addMachine l hst E n w y1 y0 o75 w73 (hZ.k 0 rfl rfl) hc74) mo_X11_addMachine rfl (by decide) rfl tw_412 tw_413 tw_411 hx hb hml hts hown hK ⟨Nat.le_trans (by decide) hR.1, Nat.le_trans (by decide) hR.2⟩ hZ (hZ.k 0 rfl rfl) rfl hl.1 rfl (Nat.le_of_ble_eq_true rfl) dL_law_99 ?_ ?_
  · clear hZ; intro r76 h77 H locs cells slots hZ
    replace hf := wd_ox_s h77 hf
    refine lv_pop hx hb dL_law_102 rfl ?_
    have hf9 := wd_let_e hf; clear hf; obtain ⟨v78, e79, hf⟩ := hf9
    refine lv_iinc (k := 3) (v := v78) (lv' := [(3, .int v78), (0, va_rf x0), (1, .ref x1), (2, .ref x2)]) hx hb dL_law_103 hl rfl (by rw [← e79]; rfl) (by decide) rfl ?_; clear hl; intro ls hl
    refine lv_goto (tgt := 74) hx hb dL_law_106 (by decide) ?_
    exact hrec74 x0 x1 x2 v78 w73 _ _ _ _ _ ⟨hZ.1, hZ.2.1, hZ.2.2.1, hZ.2.2.2.1, (List.forall_mem_cons.mpr ⟨⟨Nat.succ_ne_zero _, (fun q hq => hZ.k 1 rfl hq)⟩, (List.forall_mem_cons.mpr ⟨⟨Nat.succ_ne_zero _, (fun q hq => by cases hq; exact (hZ.k 2 rfl rfl))⟩, (List.forall_mem_cons.mpr ⟨⟨Nat.succ_ne_zero _, (fun q hq => by cases hq; exact (hZ.k 3 rfl rfl))⟩, (fun _ hq => absurd hq List.not_mem_nil)⟩)⟩)⟩), hZ.2.2.2.2.2⟩ (lv_sub hl [1, 2, 3, 0] rfl) hf
  · intro h77; replace hf := wd_ox_n h77 hf; cases hf

set_option maxHeartbeats 4000000 in
set_option maxRecDepth 100000 in
theorem v_L_law_b74 {p : Program} {l : Launch} {e : Env} {R : Room} {s : State} {m : MethodId} {args : Array Value} {below : List Frame} {meth : Method} {c : Code} {E : wd_E} {w0 : Wd} {w' : Wd} {nm : String} (n : Nat) (C : wd_X p s m args meth c cL_law RL 6 (some .boolean) nm E) (hR : 10 ≤ R.frames ∧ 257 ≤ R.locals) (hst : l.stackTraces = false) (hover : (Cond.arrayOver (.array .int)).before args s = true) {Q : State → Prop} (hQ : ∀ (w : Wd) (H : Heap) (locs : List Loc) (cells slots : Nat) (ls : Array Slot) (pc : Nat), wd_Z E w0 R s w H locs cells slots [] → decode cL_law pc = .ok (.ireturn, 1) → W p l e R s m args below meth c H locs cells slots Q (F0 m pc ls [.int 1])) (rec74 : Option Nat → Nat → Nat → Int32 → Wd → Option (Int32 × Wd)) (hrec74 : ∀ (x0_ : Option Nat) (x1_ : Nat) (x2_ : Nat) (x3_ : Int32) (w_ : Wd) (H : Heap) (locs : List Loc) (cells slots : Nat) (ls : Array Slot), wd_Z E w0 R s w_ H locs cells slots [(x0_, 20), (some x1_, 12), (some x2_, 26)] → lv_has ls 6 [(0, va_rf x0_), (1, .ref x1_), (2, .ref x2_), (3, .int x3_)] → rec74 x0_ x1_ x2_ x3_ w_ = some ((1 : Int32), w') → W p l e R s m args below meth c H locs cells slots Q (F0 m 74 ls [])) (x0 : Option Nat) (x1 : Nat) (x2 : Nat) (x3 : Int32) (w : Wd) (H : Heap) (locs : List Loc) (cells slots : Nat) (ls : Array Slot) (hZ : wd_Z E w0 R s w H locs cells slots [(x0, 20), (some x1, 12), (some x2, 26)]) (hl : lv_has ls 6 [(0, va_rf x0), (1, .ref x1), (2, .ref x2), (3, .int x3)]) (hf : f_L_law_l74 n rec74 x0 x1 x2 x3 w = some ((1 : Int32), w')) : W p l e R s m args below meth c H locs cells slots Q (F0 m 74 ls []) := by
  obtain ⟨hx, hb, hr, hml, hts, hown, hlocks, hmn, hK⟩ := id C
  unfold f_L_law_l74 at hf
  refine lv_iload_n (i := 3) hx hb dL_law_74 rfl (lv_at hl 3 rfl) ?_
  refine lv_iconst (v := 3) hx hb dL_law_75 (by decide) ?_
  refine lv_icmp_ge (tgt := 109) hx hb dL_law_76 (by decide) (fun h32 => ?_) (fun h32 => ?_)
  · replace hf := wd_ite_p h32 hf
    refine lv_iconst (v := 0) hx hb dL_law_109 (by decide) ?_
    refine lv_istore_n (i := 3) (lv' := [(3, .int (0 : Int32)), (0, va_rf x0), (1, .ref x1), (2, .ref x2)]) hx hb dL_law_110 rfl hl (by decide) rfl ?_; clear hl; intro ls hl
    exact v_L_law_l111 n C hR hst hover hQ n x0 x1 x2 (0 : Int32) w _ _ _ _ _ ⟨hZ.1, hZ.2.1, hZ.2.2.1, hZ.2.2.2.1, (List.forall_mem_cons.mpr ⟨⟨Nat.succ_ne_zero _, (fun q hq => hZ.k 0 rfl hq)⟩, (List.forall_mem_cons.mpr ⟨⟨Nat.succ_ne_zero _, (fun q hq => by cases hq; exact (hZ.k 1 rfl rfl))⟩, (List.forall_mem_cons.mpr ⟨⟨Nat.succ_ne_zero _, (fun q hq => by cases hq; exact (hZ.k 2 rfl rfl))⟩, (fun _ hq => absurd hq List.not_mem_nil)⟩)⟩)⟩), hZ.2.2.2.2.2⟩ (lv_sub hl [1, 2, 3, 0] rfl) hf
  · replace hf := wd_ite_n h32 hf
    refine lv_aload_n (i := 1) hx hb dL_law_79 rfl (lv_at hl 1 rfl) ?_
    refine z_aload_n (i := 0) hx hb dL_law_80 rfl (lv_at hl 0 rfl) ?_
    refine lv_iconst (v := 2) hx hb dL_law_81 (by decide) ?_
    have hf9 := wd_b2_e hf; clear hf; obtain ⟨r68, w66, hc67, hf⟩ := hf9
    refine z_callS (As := [va_rf x0, .int (2 : Int32)]) (rest := [.ref x1]) (c_L_cell l E n w x0 (2 : Int32) r68 w66 (fun q hq => hZ.k 0 rfl hq) hc67) mo_L_cell tw_500 tw_499 hx hb hml hts hown hK ⟨Nat.le_trans (by decide) hR.1, Nat.le_trans (by decide) hR.2⟩ hZ rfl hl.1 rfl (Nat.le_of_ble_eq_true rfl) rfl dL_law_82 ?_; clear hZ; intro H locs cells slots hX hZ
    refine lv_iload_n (i := 3) hx hb dL_law_85 rfl (lv_at hl 3 rfl) ?_
    refine lv_ishr hx hb dL_law_86 ?_
    refine lv_iconst (v := 4) hx hb dL_law_87 (by decide) ?_
    have hf9 := wd_b2_e hf; clear hf; obtain ⟨r71, w69, hc70, hf⟩ := hf9
    refine z_callS (As := [.int (r68 >>> (x3 &&& 31)), .int (4 : Int32)]) (rest := [.ref x1]) (c_L_below l E n w66 (r68 >>> (x3 &&& 31)) (4 : Int32) r71 w69  hc70) mo_L_below tw_496 tw_495 hx hb hml hts hown hK ⟨Nat.le_trans (by decide) hR.1, Nat.le_trans (by decide) hR.2⟩ hZ rfl hl.1 rfl (Nat.le_of_ble_eq_true rfl) rfl dL_law_88 ?_; clear hZ; intro H locs cells slots hX hZ
    refine lv_if_le (tgt := 98) hx hb dL_law_91 (by decide) (fun h72 => ?_) (fun h72 => ?_)
    · replace hf := wd_ite_p h72 hf
      refine lv_iconst (v := 0) hx hb dL_law_98 (by decide) ?_
      exact v_L_law_j99 n C hR hst hover hQ rec74 hrec74 (0 : Int32) x1 x0 x1 x2 x3 w69 _ _ _ _ _ ⟨hZ.1, hZ.2.1, hZ.2.2.1, hZ.2.2.2.1, (List.forall_mem_cons.mpr ⟨⟨Nat.succ_ne_zero _, (fun q hq => by cases hq; exact (hZ.k 1 rfl rfl))⟩, (List.forall_mem_cons.mpr ⟨⟨Nat.succ_ne_zero _, (fun q hq => hZ.k 0 rfl hq)⟩, (List.forall_mem_cons.mpr ⟨⟨Nat.succ_ne_zero _, (fun q hq => by cases hq; exact (hZ.k 1 rfl rfl))⟩, (List.forall_mem_cons.mpr ⟨⟨Nat.succ_ne_zero _, (fun q hq => by cases hq; exact (hZ.k 2 rfl rfl))⟩, (fun _ hq => absurd hq List.not_mem_nil)⟩)⟩)⟩)⟩), hZ.2.2.2.2.2⟩ (lv_sub hl [0, 1, 2, 3] rfl) hf
    · replace hf := wd_ite_n h72 hf
      refine lv_iconst (v := 1) hx hb dL_law_94 (by decide) ?_
      refine lv_goto (tgt := 99) hx hb dL_law_95 (by decide) ?_
      exact v_L_law_j99 n C hR hst hover hQ rec74 hrec74 (1 : Int32) x1 x0 x1 x2 x3 w69 _ _ _ _ _ ⟨hZ.1, hZ.2.1, hZ.2.2.1, hZ.2.2.2.1, (List.forall_mem_cons.mpr ⟨⟨Nat.succ_ne_zero _, (fun q hq => by cases hq; exact (hZ.k 1 rfl rfl))⟩, (List.forall_mem_cons.mpr ⟨⟨Nat.succ_ne_zero _, (fun q hq => hZ.k 0 rfl hq)⟩, (List.forall_mem_cons.mpr ⟨⟨Nat.succ_ne_zero _, (fun q hq => by cases hq; exact (hZ.k 1 rfl rfl))⟩, (List.forall_mem_cons.mpr ⟨⟨Nat.succ_ne_zero _, (fun q hq => by cases hq; exact (hZ.k 2 rfl rfl))⟩, (fun _ hq => absurd hq List.not_mem_nil)⟩)⟩)⟩)⟩), hZ.2.2.2.2.2⟩ (lv_sub hl [0, 1, 2, 3] rfl) hf

theorem v_L_law_l74 {p : Program} {l : Launch} {e : Env} {R : Room} {s : State} {m : MethodId} {args : Array Value} {below : List Frame} {meth : Method} {c : Code} {E : wd_E} {w0 : Wd} {w' : Wd} {nm : String} (n : Nat) (C : wd_X p s m args meth c cL_law RL 6 (some .boolean) nm E) (hR : 10 ≤ R.frames ∧ 257 ≤ R.locals) (hst : l.stackTraces = false) (hover : (Cond.arrayOver (.array .int)).before args s = true) {Q : State → Prop} (hQ : ∀ (w : Wd) (H : Heap) (locs : List Loc) (cells slots : Nat) (ls : Array Slot) (pc : Nat), wd_Z E w0 R s w H locs cells slots [] → decode cL_law pc = .ok (.ireturn, 1) → W p l e R s m args below meth c H locs cells slots Q (F0 m pc ls [.int 1])) : ∀ (k : Nat) (x0 : Option Nat) (x1 : Nat) (x2 : Nat) (x3 : Int32) (w : Wd) (H : Heap) (locs : List Loc) (cells slots : Nat) (ls : Array Slot), wd_Z E w0 R s w H locs cells slots [(x0, 20), (some x1, 12), (some x2, 26)] → lv_has ls 6 [(0, va_rf x0), (1, .ref x1), (2, .ref x2), (3, .int x3)] → wd_lp5 (f_L_law_l74 n) k x0 x1 x2 x3 w = some ((1 : Int32), w') → W p l e R s m args below meth c H locs cells slots Q (F0 m 74 ls []) := by
  intro k
  induction k with
  | zero => intro _ _ _ _ _ _ _ _ _ _ _ _ hf; cases hf
  | succ k ih =>
    intro x0 x1 x2 x3 w H locs cells slots ls hZ hl hf
    exact v_L_law_b74 n C hR hst hover hQ (wd_lp5 (f_L_law_l74 n) k) ih x0 x1 x2 x3 w H locs cells slots ls hZ hl hf

set_option maxHeartbeats 4000000 in
set_option maxRecDepth 100000 in
theorem v_L_law_b18 {p : Program} {l : Launch} {e : Env} {R : Room} {s : State} {m : MethodId} {args : Array Value} {below : List Frame} {meth : Method} {c : Code} {E : wd_E} {w0 : Wd} {w' : Wd} {nm : String} (n : Nat) (C : wd_X p s m args meth c cL_law RL 6 (some .boolean) nm E) (hR : 10 ≤ R.frames ∧ 257 ≤ R.locals) (hst : l.stackTraces = false) (hover : (Cond.arrayOver (.array .int)).before args s = true) {Q : State → Prop} (hQ : ∀ (w : Wd) (H : Heap) (locs : List Loc) (cells slots : Nat) (ls : Array Slot) (pc : Nat), wd_Z E w0 R s w H locs cells slots [] → decode cL_law pc = .ok (.ireturn, 1) → W p l e R s m args below meth c H locs cells slots Q (F0 m pc ls [.int 1])) (rec18 : Option Nat → Nat → Nat → Int32 → Wd → Option (Int32 × Wd)) (hrec18 : ∀ (x0_ : Option Nat) (x1_ : Nat) (x2_ : Nat) (x3_ : Int32) (w_ : Wd) (H : Heap) (locs : List Loc) (cells slots : Nat) (ls : Array Slot), wd_Z E w0 R s w_ H locs cells slots [(x0_, 20), (some x1_, 12), (some x2_, 26)] → lv_has ls 6 [(0, va_rf x0_), (1, .ref x1_), (2, .ref x2_), (3, .int x3_)] → rec18 x0_ x1_ x2_ x3_ w_ = some ((1 : Int32), w') → W p l e R s m args below meth c H locs cells slots Q (F0 m 18 ls [])) (x0 : Option Nat) (x1 : Nat) (x2 : Nat) (x3 : Int32) (w : Wd) (H : Heap) (locs : List Loc) (cells slots : Nat) (ls : Array Slot) (hZ : wd_Z E w0 R s w H locs cells slots [(x0, 20), (some x1, 12), (some x2, 26)]) (hl : lv_has ls 6 [(0, va_rf x0), (1, .ref x1), (2, .ref x2), (3, .int x3)]) (hf : f_L_law_l18 n rec18 x0 x1 x2 x3 w = some ((1 : Int32), w')) : W p l e R s m args below meth c H locs cells slots Q (F0 m 18 ls []) := by
  obtain ⟨hx, hb, hr, hml, hts, hown, hlocks, hmn, hK⟩ := id C
  unfold f_L_law_l18 at hf
  refine lv_iload_n (i := 3) hx hb dL_law_18 rfl (lv_at hl 3 rfl) ?_
  refine lv_bipush (v := 32) hx hb dL_law_19 (by decide) ?_
  refine lv_icmp_ge (tgt := 36) hx hb dL_law_21 (by decide) (fun h13 => ?_) (fun h13 => ?_)
  · replace hf := wd_ite_p h13 hf
    refine lv_aload_n (i := 1) hx hb dL_law_36 rfl (lv_at hl 1 rfl) ?_
    refine lv_bipush (v := 12) hx hb dL_law_37 (by decide) ?_
    refine z_aload_n (i := 0) hx hb dL_law_39 rfl (lv_at hl 0 rfl) ?_
    refine lv_iconst (v := 0) hx hb dL_law_40 (by decide) ?_
    have hf9 := wd_b2_e hf; clear hf; obtain ⟨r16, w14, hc15, hf⟩ := hf9
    refine z_callS (As := [va_rf x0, .int (0 : Int32)]) (rest := [.int (12 : Int32), .ref x1]) (c_L_cell l E n w x0 (0 : Int32) r16 w14 (fun q hq => hZ.k 0 rfl hq) hc15) mo_L_cell tw_500 tw_499 hx hb hml hts hown hK ⟨Nat.le_trans (by decide) hR.1, Nat.le_trans (by decide) hR.2⟩ hZ rfl hl.1 rfl (Nat.le_of_ble_eq_true rfl) rfl dL_law_41 ?_; clear hZ; intro H locs cells slots hX hZ
    refine lv_bipush (v := 40) hx hb dL_law_44 (by decide) ?_
    have hf9 := wd_b2_e hf; clear hf; obtain ⟨r19, w17, hc18, hf⟩ := hf9
    refine z_callS (As := [.int r16, .int (40 : Int32)]) (rest := [.int (12 : Int32), .ref x1]) (c_L_below l E n w14 r16 (40 : Int32) r19 w17  hc18) mo_L_below tw_496 tw_495 hx hb hml hts hown hK ⟨Nat.le_trans (by decide) hR.1, Nat.le_trans (by decide) hR.2⟩ hZ rfl hl.1 rfl (Nat.le_of_ble_eq_true rfl) rfl dL_law_46 ?_; clear hZ; intro H locs cells slots hX hZ
    refine lv_iadd hx hb dL_law_49 ?_
    have hf9 := wd_b2_e hf; clear hf; obtain ⟨r22, w20, hc21, hf⟩ := hf9
    refine z_callV (ci := 11) (As := [.int ((12 : Int32) + r19)]) (rest := []) (c_X11_addCable l E n w17 x1 ((12 : Int32) + r19) r22 w20 (hZ.k 1 rfl rfl) hc21) mo_X11_addCable rfl (by decide) rfl tw_317 tw_318 tw_316 hx hb hml hts hown hK ⟨Nat.le_trans (by decide) hR.1, Nat.le_trans (by decide) hR.2⟩ hZ (hZ.k 1 rfl rfl) rfl hl.1 rfl (Nat.le_of_ble_eq_true rfl) rfl dL_law_50 ?_; clear hZ; intro H locs cells slots hX hZ
    refine lv_pop hx hb dL_law_53 rfl ?_
    refine lv_aload_n (i := 1) hx hb dL_law_54 rfl (lv_at hl 1 rfl) ?_
    refine lv_bipush (v := 12) hx hb dL_law_55 (by decide) ?_
    refine z_aload_n (i := 0) hx hb dL_law_57 rfl (lv_at hl 0 rfl) ?_
    refine lv_iconst (v := 1) hx hb dL_law_58 (by decide) ?_
    have hf9 := wd_b2_e hf; clear hf; obtain ⟨r25, w23, hc24, hf⟩ := hf9
    refine z_callS (As := [va_rf x0, .int (1 : Int32)]) (rest := [.int (12 : Int32), .ref x1]) (c_L_cell l E n w20 x0 (1 : Int32) r25 w23 (fun q hq => hZ.k 0 rfl hq) hc24) mo_L_cell tw_500 tw_499 hx hb hml hts hown hK ⟨Nat.le_trans (by decide) hR.1, Nat.le_trans (by decide) hR.2⟩ hZ rfl hl.1 rfl (Nat.le_of_ble_eq_true rfl) rfl dL_law_59 ?_; clear hZ; intro H locs cells slots hX hZ
    refine lv_bipush (v := 90) hx hb dL_law_62 (by decide) ?_
    have hf9 := wd_b2_e hf; clear hf; obtain ⟨r28, w26, hc27, hf⟩ := hf9
    refine z_callS (As := [.int r25, .int (90 : Int32)]) (rest := [.int (12 : Int32), .ref x1]) (c_L_below l E n w23 r25 (90 : Int32) r28 w26  hc27) mo_L_below tw_496 tw_495 hx hb hml hts hown hK ⟨Nat.le_trans (by decide) hR.1, Nat.le_trans (by decide) hR.2⟩ hZ rfl hl.1 rfl (Nat.le_of_ble_eq_true rfl) rfl dL_law_64 ?_; clear hZ; intro H locs cells slots hX hZ
    refine lv_iadd hx hb dL_law_67 ?_
    have hf9 := wd_b2_e hf; clear hf; obtain ⟨r31, w29, hc30, hf⟩ := hf9
    refine z_callV (ci := 11) (As := [.int ((12 : Int32) + r28)]) (rest := []) (c_X11_addCable l E n w26 x1 ((12 : Int32) + r28) r31 w29 (hZ.k 1 rfl rfl) hc30) mo_X11_addCable rfl (by decide) rfl tw_317 tw_318 tw_316 hx hb hml hts hown hK ⟨Nat.le_trans (by decide) hR.1, Nat.le_trans (by decide) hR.2⟩ hZ (hZ.k 1 rfl rfl) rfl hl.1 rfl (Nat.le_of_ble_eq_true rfl) rfl dL_law_68 ?_; clear hZ; intro H locs cells slots hX hZ
    refine lv_pop hx hb dL_law_71 rfl ?_
    refine lv_iconst (v := 0) hx hb dL_law_72 (by decide) ?_
    refine lv_istore_n (i := 3) (lv' := [(3, .int (0 : Int32)), (0, va_rf x0), (1, .ref x1), (2, .ref x2)]) hx hb dL_law_73 rfl hl (by decide) rfl ?_; clear hl; intro ls hl
    exact v_L_law_l74 n C hR hst hover hQ n x0 x1 x2 (0 : Int32) w29 _ _ _ _ _ ⟨hZ.1, hZ.2.1, hZ.2.2.1, hZ.2.2.2.1, (List.forall_mem_cons.mpr ⟨⟨Nat.succ_ne_zero _, (fun q hq => hZ.k 0 rfl hq)⟩, (List.forall_mem_cons.mpr ⟨⟨Nat.succ_ne_zero _, (fun q hq => by cases hq; exact (hZ.k 1 rfl rfl))⟩, (List.forall_mem_cons.mpr ⟨⟨Nat.succ_ne_zero _, (fun q hq => by cases hq; exact (hZ.k 2 rfl rfl))⟩, (fun _ hq => absurd hq List.not_mem_nil)⟩)⟩)⟩), hZ.2.2.2.2.2⟩ (lv_sub hl [1, 2, 3, 0] rfl) hf
  · replace hf := wd_ite_n h13 hf
    refine lv_aload_n (i := 2) hx hb dL_law_24 rfl (lv_at hl 2 rfl) ?_
    refine lv_iload_n (i := 3) hx hb dL_law_25 rfl (lv_at hl 3 rfl) ?_
    have hf9 := wd_gd_e hf; clear hf; obtain ⟨h80, hf⟩ := hf9
    refine z_aald (k := 26) (by decide) (by decide) (tk := 20) rfl hx hb hK hZ (hZ.k 2 rfl rfl) h80 dL_law_26 ?_; clear hZ; intro hZ
    refine lv_iconst (v := 1) hx hb dL_law_27 (by decide) ?_
    refine lv_iconst (v := -1) hx hb dL_law_28 (by decide) ?_
    have hf9 := Option.bind_eq_some_iff.mp hf; clear hf; obtain ⟨a81, ha81, hf⟩ := hf9
    replace hZ := hZ.add (r := some a81) (k := 21) (Nat.succ_ne_zero _) (fun q hq => by cases hq; exact hZ.k 0 rfl ha81)
    rw [ha81]
    have hf9 := wd_gd_e hf; clear hf; obtain ⟨h82, hf⟩ := hf9
    refine z_iast hx hb hK hZ (hZ.k 0 rfl rfl) h82 dL_law_29 ?_; clear hZ; intro H locs hZ
    have hf9 := wd_let_e hf; clear hf; obtain ⟨w83, e84, hf⟩ := hf9
    rw [e84] at hZ
    have hf9 := wd_let_e hf; clear hf; obtain ⟨v85, e86, hf⟩ := hf9
    refine lv_iinc (k := 3) (v := v85) (lv' := [(3, .int v85), (0, va_rf x0), (1, .ref x1), (2, .ref x2)]) hx hb dL_law_30 hl rfl (by rw [← e86]; rfl) (by decide) rfl ?_; clear hl; intro ls hl
    refine lv_goto (tgt := 18) hx hb dL_law_33 (by decide) ?_
    exact hrec18 x0 x1 x2 v85 w83 _ _ _ _ _ ⟨hZ.1, hZ.2.1, hZ.2.2.1, hZ.2.2.2.1, (List.forall_mem_cons.mpr ⟨⟨Nat.succ_ne_zero _, (fun q hq => hZ.k 2 rfl hq)⟩, (List.forall_mem_cons.mpr ⟨⟨Nat.succ_ne_zero _, (fun q hq => by cases hq; exact (hZ.k 3 rfl rfl))⟩, (List.forall_mem_cons.mpr ⟨⟨Nat.succ_ne_zero _, (fun q hq => by cases hq; exact (hZ.k 4 rfl rfl))⟩, (fun _ hq => absurd hq List.not_mem_nil)⟩)⟩)⟩), hZ.2.2.2.2.2⟩ (lv_sub hl [1, 2, 3, 0] rfl) hf

theorem v_L_law_l18 {p : Program} {l : Launch} {e : Env} {R : Room} {s : State} {m : MethodId} {args : Array Value} {below : List Frame} {meth : Method} {c : Code} {E : wd_E} {w0 : Wd} {w' : Wd} {nm : String} (n : Nat) (C : wd_X p s m args meth c cL_law RL 6 (some .boolean) nm E) (hR : 10 ≤ R.frames ∧ 257 ≤ R.locals) (hst : l.stackTraces = false) (hover : (Cond.arrayOver (.array .int)).before args s = true) {Q : State → Prop} (hQ : ∀ (w : Wd) (H : Heap) (locs : List Loc) (cells slots : Nat) (ls : Array Slot) (pc : Nat), wd_Z E w0 R s w H locs cells slots [] → decode cL_law pc = .ok (.ireturn, 1) → W p l e R s m args below meth c H locs cells slots Q (F0 m pc ls [.int 1])) : ∀ (k : Nat) (x0 : Option Nat) (x1 : Nat) (x2 : Nat) (x3 : Int32) (w : Wd) (H : Heap) (locs : List Loc) (cells slots : Nat) (ls : Array Slot), wd_Z E w0 R s w H locs cells slots [(x0, 20), (some x1, 12), (some x2, 26)] → lv_has ls 6 [(0, va_rf x0), (1, .ref x1), (2, .ref x2), (3, .int x3)] → wd_lp5 (f_L_law_l18 n) k x0 x1 x2 x3 w = some ((1 : Int32), w') → W p l e R s m args below meth c H locs cells slots Q (F0 m 18 ls []) := by
  intro k
  induction k with
  | zero => intro _ _ _ _ _ _ _ _ _ _ _ _ hf; cases hf
  | succ k ih =>
    intro x0 x1 x2 x3 w H locs cells slots ls hZ hl hf
    exact v_L_law_b18 n C hR hst hover hQ (wd_lp5 (f_L_law_l18 n) k) ih x0 x1 x2 x3 w H locs cells slots ls hZ hl hf

set_option maxHeartbeats 4000000 in
set_option maxRecDepth 100000 in
theorem v_L_law_0 {p : Program} {l : Launch} {e : Env} {R : Room} {s : State} {m : MethodId} {args : Array Value} {below : List Frame} {meth : Method} {c : Code} {E : wd_E} {w0 : Wd} {w' : Wd} {nm : String} (n : Nat) (C : wd_X p s m args meth c cL_law RL 6 (some .boolean) nm E) (hR : 10 ≤ R.frames ∧ 257 ≤ R.locals) (hst : l.stackTraces = false) (hover : (Cond.arrayOver (.array .int)).before args s = true) {Q : State → Prop} (hQ : ∀ (w : Wd) (H : Heap) (locs : List Loc) (cells slots : Nat) (ls : Array Slot) (pc : Nat), wd_Z E w0 R s w H locs cells slots [] → decode cL_law pc = .ok (.ireturn, 1) → W p l e R s m args below meth c H locs cells slots Q (F0 m pc ls [.int 1])) (p0 : Option Nat) (w : Wd) (H : Heap) (locs : List Loc) (cells slots : Nat) (ls : Array Slot) (hZ : wd_Z E w0 R s w H locs cells slots [(p0, 20)]) (hl : lv_has ls 6 [(0, va_rf p0)]) (hf : f_L_law n w p0 = some ((1 : Int32), w')) : W p l e R s m args below meth c H locs cells slots Q (F0 m 0 ls []) := by
  obtain ⟨hx, hb, hr, hml, hts, hown, hlocks, hmn, hK⟩ := id C
  unfold f_L_law at hf
  have hf9 := wd_gd_e hf; clear hf; obtain ⟨h1, hf⟩ := hf9
  refine z_new cok_11 hx hb hts hown hK hZ tw_48 tw_49 tw_27 h1 dL_law_0 ?_; clear hZ; intro H cells slots hZ
  have hf9 := wd_let_e hf; clear hf; obtain ⟨a2, e3, hf⟩ := hf9
  rw [e3]
  rw [e3] at hZ
  have hf9 := wd_let_e hf; clear hf; obtain ⟨w4, e5, hf⟩ := hf9
  rw [e5] at hZ
  refine lv_dup hx hb dL_law_3 rfl ?_
  have hf9 := Option.bind_eq_some_iff.mp hf; clear hf; obtain ⟨w6, hc7, hf⟩ := hf9
  refine z_callI (As := []) (rest := [.ref a2]) (c_X11_init l E n w4 a2 w6 (hZ.k 0 rfl rfl) hc7) mo_X11_init rfl tw_51 tw_50 hx hb hml hts hown hK ⟨Nat.le_trans (by decide) hR.1, Nat.le_trans (by decide) hR.2⟩ hZ rfl hl.1 rfl (Nat.le_of_ble_eq_true rfl) dL_law_4 ?_; clear hZ; intro H locs cells slots hX hZ
  refine lv_astore_n (i := 1) (lv' := [(1, .ref a2), (0, va_rf p0)]) hx hb dL_law_7 rfl hl (by decide) (by simp [va_rf_cat, va_cat_r, va_cat_i, va_cat_l, va_cat_d]) ?_; clear hl; intro ls hl
  refine lv_bipush (v := 32) hx hb dL_law_8 (by decide) ?_
  refine lv_iconst (v := 2) hx hb dL_law_10 (by decide) ?_
  have hf9 := wd_gd_e hf; clear hf; obtain ⟨h8, hf⟩ := hf9
  refine z_mna (N := 32) (K := 2) (by decide) (by decide) (by decide) (by decide) (by decide) (by decide) hover hx hb hts hown hK hZ tw_1096 tw_117 h8 dL_law_11 ?_; clear hZ; intro H cells slots hZ
  have hf9 := wd_let_e hf; clear hf; obtain ⟨a9, e10, hf⟩ := hf9
  rw [e10]
  rw [e10] at hZ
  have hf9 := wd_let_e hf; clear hf; obtain ⟨w11, e12, hf⟩ := hf9
  rw [e12] at hZ
  refine lv_astore_n (i := 2) (lv' := [(2, .ref a9), (1, .ref a2), (0, va_rf p0)]) hx hb dL_law_15 rfl hl (by decide) rfl ?_; clear hl; intro ls hl
  refine lv_iconst (v := 0) hx hb dL_law_16 (by decide) ?_
  refine lv_istore_n (i := 3) (lv' := [(3, .int (0 : Int32)), (2, .ref a9), (1, .ref a2), (0, va_rf p0)]) hx hb dL_law_17 rfl hl (by decide) rfl ?_; clear hl; intro ls hl
  exact v_L_law_l18 n C hR hst hover hQ n p0 a2 a9 (0 : Int32) w11 _ _ _ _ _ ⟨hZ.1, hZ.2.1, hZ.2.2.1, hZ.2.2.2.1, (List.forall_mem_cons.mpr ⟨⟨Nat.succ_ne_zero _, (fun q hq => hZ.k 2 rfl hq)⟩, (List.forall_mem_cons.mpr ⟨⟨Nat.succ_ne_zero _, (fun q hq => by cases hq; exact (hZ.k 1 rfl rfl))⟩, (List.forall_mem_cons.mpr ⟨⟨Nat.succ_ne_zero _, (fun q hq => by cases hq; exact (hZ.k 0 rfl rfl))⟩, (fun _ hq => absurd hq List.not_mem_nil)⟩)⟩)⟩), hZ.2.2.2.2.2⟩ (lv_sub hl [3, 2, 1, 0] rfl) hf

