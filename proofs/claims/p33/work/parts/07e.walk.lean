/-! ===== meanings and contracts, laid by wip/p33/gen ===== -/
def f_X5_putPort_j44 (n : Nat) (x5 : Option Nat) (w : Wd) : Option (Option Nat × Wd) :=
  some (x5, w)
def f_X5_putPort (n : Nat) (w : Wd) (this : Nat) (p0 : Option Nat) (p1 : Int32) (p2 : Int32) (p3 : Int32) : Option (Option Nat × Wd) :=
  wd_b2 (f_X5_portWithAddress n w this p2) fun r3 w1 =>
  wd_on r3 (
    Option.bind p0 fun a5 =>
    wd_b2 (f_X3_addNextPort n w1 a5 p1 p2 p3) fun r8 w6 =>
    wd_on r8 (
      f_X5_putPort_j44 n none w6)
      (fun a9 =>
      if p2 < 0 then
        f_X5_putPort_j44 n (some a9) w6
      else
        if (256 : Int32) ≤ p2 then
          f_X5_putPort_j44 n (some a9) w6
        else
          Option.bind (wd_R w6 504 this) fun a12 =>
          wd_gd (p2 < 0 ∨ wd_N w6 a12 ≤ p2.toNatClampNeg) <|
          wd_let (wd_sQ w6 a12 p2.toNatClampNeg (some a9)) fun w14 =>
          f_X5_putPort_j44 n (some a9) w14))
    (fun a4 =>
    some (none, w1))
set_option maxHeartbeats 4000000 in
set_option maxRecDepth 100000 in
theorem v_X5_putPort_j44 {p : Program} {l : Launch} {e : Env} {R : Room} {s : State} {m : MethodId} {args : Array Value} {below : List Frame} {meth : Method} {c : Code} {E : wd_E} {w0 : Wd} {r' : Option Nat} {w' : Wd} (n : Nat) (C : wd_X p s m args meth c cX5_putPort RX5 6 (some (.object "SeamarkNet$Port")) "putPort" E) (hR : 5 ≤ R.frames ∧ 120 ≤ R.locals) (x5 : Option Nat) (w : Wd) (H : Heap) (locs : List Loc) (cells slots : Nat) (ls : Array Slot) (hZ : wd_Z E w0 R s w H locs cells slots [(x5, 8)]) (hl : lv_has ls 6 [(5, va_rf x5)]) (hf : f_X5_putPort_j44 n x5 w = some (r', w')) : W p l e R s m args below meth c H locs cells slots (wd_fin E w0 (some (va_rf r')) w' (∀ q, r' = some q → wd_K w' q = 8) R args s below) (F0 m 44 ls []) := by
  obtain ⟨hx, hb, hr, hml, hts, hown, hlocks, hmn, hK⟩ := id C
  unfold f_X5_putPort_j44 at hf
  refine z_aload hx hb dX5_putPort_44 (lv_at hl 0 rfl) ?_
  obtain ⟨rfl, rfl⟩ := Prod.mk.inj (Option.some.inj hf)
  exact z_aret rfl hx hb hr hlocks hZ (fun q hq => hZ.k 0 rfl hq) dX5_putPort_46

set_option maxHeartbeats 4000000 in
set_option maxRecDepth 100000 in
theorem c_X5_putPort (l : Launch) (E : wd_E) (n : Nat) (w : Wd) (this : Nat) (p0 : Option Nat) (p1 : Int32) (p2 : Int32) (p3 : Int32) (r' : Option Nat) (w' : Wd) (k_this : wd_K w this = 6) (k_p0 : ∀ q, p0 = some q → wd_K w q = 4) (hf : f_X5_putPort n w this p0 p1 p2 p3 = some (r', w')) : wd_C l E yX5_putPort cX5_putPort 6 (some (.object "SeamarkNet$Port")) 5 120 [.ref this, va_rf p0, .int p1, .int p2, .int p3] w (some (va_rf r')) w' (∀ q, r' = some q → wd_K w' q = 8) := by
  refine wd_ofW (own := RX5) (nm := "putPort") (ks := [(some this, 6), (p0, 4)]) (lv := [(0, .ref this), (1, va_rf p0), (2, .int p1), (3, .int p2), (4, .int p3)]) (by decide) rfl rfl (by simp [lg_sl, va_rf_cat, va_cat_r, va_cat_i, va_cat_l, va_cat_d]) (by simp [lv_args, va_rf_cat, va_cat_r, va_cat_i, va_cat_l, va_cat_d]) (List.forall_mem_cons.mpr ⟨⟨Nat.succ_ne_zero _, fun q hq => by cases hq; exact k_this⟩, (List.forall_mem_cons.mpr ⟨⟨Nat.succ_ne_zero _, k_p0⟩, (fun _ hq => absurd hq List.not_mem_nil)⟩)⟩) ?_
  intro p e s m args below meth c R H locs cells slots ls C hR hZ hl
  obtain ⟨hx, hb, hr, hml, hts, hown, hlocks, hmn, hK⟩ := id C
  unfold f_X5_putPort at hf
  refine lv_aload_n (i := 0) hx hb dX5_putPort_0 rfl (lv_at hl 0 rfl) ?_
  refine lv_iload_n (i := 3) hx hb dX5_putPort_1 rfl (lv_at hl 3 rfl) ?_
  have hf9 := wd_b2_e hf; clear hf; obtain ⟨r3, w1, hc2, hf⟩ := hf9
  refine z_callV (ci := 5) (As := [.int p2]) (rest := []) (c_X5_portWithAddress l E n w this p2 r3 w1 (hZ.k 0 rfl rfl) hc2) mo_X5_portWithAddress rfl (by decide) rfl tw_547 tw_548 tw_546 hx hb hml hts hown hK ⟨Nat.le_trans (by decide) hR.1, Nat.le_trans (by decide) hR.2⟩ hZ (hZ.k 0 rfl rfl) rfl hl.1 rfl (Nat.le_of_ble_eq_true rfl) rfl dX5_putPort_2 ?_; clear hZ; intro H locs cells slots hX hZ
  replace hZ := hZ.add (Nat.succ_ne_zero _) hX
  refine z_ifnull (tgt := 10) hx hb dX5_putPort_5 (by decide) (fun hn => ?_) (fun a4 ha4 => ?_)
  · replace hf := wd_on_n hn hf
    subst hn
    replace hl : lv_has ls 6 [(0, .ref this), (1, va_rf p0), (2, .int p1), (3, .int p2), (4, .int p3)] := hl
    replace hZ : wd_Z E w R s w1 H locs cells slots [(none, 8), (some this, 6), (p0, 4)] := hZ
    refine z_aload_n (i := 1) hx hb dX5_putPort_10 rfl (lv_at hl 1 rfl) ?_
    refine lv_iload_n (i := 2) hx hb dX5_putPort_11 rfl (lv_at hl 2 rfl) ?_
    refine lv_iload_n (i := 3) hx hb dX5_putPort_12 rfl (lv_at hl 3 rfl) ?_
    refine lv_iload hx hb dX5_putPort_13 (lv_at hl 4 rfl) ?_
    have hf9 := Option.bind_eq_some_iff.mp hf; clear hf; obtain ⟨a5, ha5, hf⟩ := hf9
    subst ha5
    replace hl : lv_has ls 6 [(0, .ref this), (1, .ref a5), (2, .int p1), (3, .int p2), (4, .int p3)] := hl
    replace hZ : wd_Z E w R s w1 H locs cells slots [(none, 8), (some this, 6), (some a5, 4)] := hZ
    have hf9 := wd_b2_e hf; clear hf; obtain ⟨r8, w6, hc7, hf⟩ := hf9
    refine z_callV (ci := 3) (As := [.int p1, .int p2, .int p3]) (rest := []) (c_X3_addNextPort l E n w1 a5 p1 p2 p3 r8 w6 (hZ.k 2 rfl rfl) hc7) mo_X3_addNextPort rfl (by decide) rfl tw_551 tw_552 tw_550 hx hb hml hts hown hK ⟨Nat.le_trans (by decide) hR.1, Nat.le_trans (by decide) hR.2⟩ hZ (hZ.k 2 rfl rfl) rfl hl.1 rfl (Nat.le_of_ble_eq_true rfl) rfl dX5_putPort_15 ?_; clear hZ; intro H locs cells slots hX hZ
    replace hZ := hZ.add (Nat.succ_ne_zero _) hX
    refine z_astore (i := 5) (lv' := [(5, va_rf r8), (0, .ref this), (1, .ref a5), (2, .int p1), (3, .int p2), (4, .int p3)]) hx hb dX5_putPort_18 hl (by decide) rfl ?_; clear hl; intro ls hl
    refine z_aload hx hb dX5_putPort_20 (lv_at hl 0 rfl) ?_
    refine z_ifnull (tgt := 44) hx hb dX5_putPort_22 (by decide) (fun hn => ?_) (fun a9 ha9 => ?_)
    · replace hf := wd_on_n hn hf
      subst hn
      replace hl : lv_has ls 6 [(5, va_rf none), (0, .ref this), (1, .ref a5), (2, .int p1), (3, .int p2), (4, .int p3)] := hl
      replace hZ : wd_Z E w R s w6 H locs cells slots [(none, 8), (none, 8), (some this, 6), (some a5, 4)] := hZ
      exact v_X5_putPort_j44 n C hR none w6 _ _ _ _ _ ⟨hZ.1, hZ.2.1, hZ.2.2.1, hZ.2.2.2.1, (List.forall_mem_cons.mpr ⟨⟨Nat.succ_ne_zero _, (fun q hq => by cases hq)⟩, (fun _ hq => absurd hq List.not_mem_nil)⟩), hZ.2.2.2.2.2⟩ (lv_sub hl [0] rfl) hf
    · replace hf := wd_on_s ha9 hf
      subst ha9
      replace hl : lv_has ls 6 [(5, .ref a9), (0, .ref this), (1, .ref a5), (2, .int p1), (3, .int p2), (4, .int p3)] := hl
      replace hZ : wd_Z E w R s w6 H locs cells slots [(some a9, 8), (none, 8), (some this, 6), (some a5, 4)] := hZ
      refine lv_iload_n (i := 3) hx hb dX5_putPort_25 rfl (lv_at hl 4 rfl) ?_
      refine lv_if_lt (tgt := 44) hx hb dX5_putPort_26 (by decide) (fun h10 => ?_) (fun h10 => ?_)
      · replace hf := wd_ite_p h10 hf
        exact v_X5_putPort_j44 n C hR (some a9) w6 _ _ _ _ _ ⟨hZ.1, hZ.2.1, hZ.2.2.1, hZ.2.2.2.1, (List.forall_mem_cons.mpr ⟨⟨Nat.succ_ne_zero _, (fun q hq => by cases hq; exact (hZ.k 0 rfl rfl))⟩, (fun _ hq => absurd hq List.not_mem_nil)⟩), hZ.2.2.2.2.2⟩ (lv_sub hl [0] rfl) hf
      · replace hf := wd_ite_n h10 hf
        refine lv_iload_n (i := 3) hx hb dX5_putPort_29 rfl (lv_at hl 4 rfl) ?_
        refine lv_sipush (v := 256) hx hb dX5_putPort_30 (by decide) ?_
        refine lv_icmp_ge (tgt := 44) hx hb dX5_putPort_33 (by decide) (fun h11 => ?_) (fun h11 => ?_)
        · replace hf := wd_ite_p h11 hf
          exact v_X5_putPort_j44 n C hR (some a9) w6 _ _ _ _ _ ⟨hZ.1, hZ.2.1, hZ.2.2.1, hZ.2.2.2.1, (List.forall_mem_cons.mpr ⟨⟨Nat.succ_ne_zero _, (fun q hq => by cases hq; exact (hZ.k 0 rfl rfl))⟩, (fun _ hq => absurd hq List.not_mem_nil)⟩), hZ.2.2.2.2.2⟩ (lv_sub hl [0] rfl) hf
        · replace hf := wd_ite_n h11 hf
          refine lv_aload_n (i := 0) hx hb dX5_putPort_36 rfl (lv_at hl 1 rfl) ?_
          refine z_getR (tk := 21) fd_504 rfl hx hb hts hown hK hZ (hZ.k 2 rfl rfl) tw_125 dX5_putPort_37 ?_; clear hZ; intro hZ
          refine lv_iload_n (i := 3) hx hb dX5_putPort_40 rfl (lv_at hl 4 rfl) ?_
          refine lv_aload hx hb dX5_putPort_41 (lv_at hl 0 rfl) ?_
          have hf9 := Option.bind_eq_some_iff.mp hf; clear hf; obtain ⟨a12, ha12, hf⟩ := hf9
          replace hZ := hZ.add (r := some a12) (k := 22) (Nat.succ_ne_zero _) (fun q hq => by cases hq; exact hZ.k 0 rfl ha12)
          rw [ha12]
          have hf9 := wd_gd_e hf; clear hf; obtain ⟨h13, hf⟩ := hf9
          refine z_aast (k := 22) (ci := 7) (by decide) (by decide) rfl rfl (by decide) rfl hx hb hK hZ (hZ.k 0 rfl rfl) (hZ.k 2 rfl rfl) h13 dX5_putPort_43 ?_; clear hZ; intro H locs hZ
          have hf9 := wd_let_e hf; clear hf; obtain ⟨w14, e15, hf⟩ := hf9
          rw [e15] at hZ
          exact v_X5_putPort_j44 n C hR (some a9) w14 _ _ _ _ _ ⟨hZ.1, hZ.2.1, hZ.2.2.1, hZ.2.2.2.1, (List.forall_mem_cons.mpr ⟨⟨Nat.succ_ne_zero _, (fun q hq => by cases hq; exact (hZ.k 2 rfl rfl))⟩, (fun _ hq => absurd hq List.not_mem_nil)⟩), hZ.2.2.2.2.2⟩ (lv_sub hl [0] rfl) hf
  · replace hf := wd_on_s ha4 hf
    subst ha4
    replace hl : lv_has ls 6 [(0, .ref this), (1, va_rf p0), (2, .int p1), (3, .int p2), (4, .int p3)] := hl
    replace hZ : wd_Z E w R s w1 H locs cells slots [(some a4, 8), (some this, 6), (p0, 4)] := hZ
    refine z_null hx hb dX5_putPort_8 ?_
    obtain ⟨rfl, rfl⟩ := Prod.mk.inj (Option.some.inj hf)
    exact z_aret rfl hx hb hr hlocks hZ (fun q hq => by cases hq) dX5_putPort_9

def f_X5_portWithMark_j10 (n : Nat) (w : Wd) : Option (Option Nat × Wd) :=
  some (none, w)
def f_X5_portWithMark (n : Nat) (w : Wd) (this : Nat) (p0 : Int32) : Option (Option Nat × Wd) :=
  if p0 < 0 then
    f_X5_portWithMark_j10 n w
  else
    if p0 < (32 : Int32) then
      Option.bind (wd_R w 502 this) fun a3 =>
      wd_gd ((p0 / (4 : Int32)) < 0 ∨ wd_N w a3 ≤ (p0 / (4 : Int32)).toNatClampNeg) <|
      Option.bind (wd_Q w a3 (p0 / (4 : Int32)).toNatClampNeg) fun a5 =>
      wd_b2 (f_X3_port n w a5 (p0 - p0 / (4 : Int32) * (4 : Int32))) fun r8 w6 =>
      some (r8, w6)
    else
      f_X5_portWithMark_j10 n w
set_option maxHeartbeats 4000000 in
set_option maxRecDepth 100000 in
theorem v_X5_portWithMark_j10 {p : Program} {l : Launch} {e : Env} {R : Room} {s : State} {m : MethodId} {args : Array Value} {below : List Frame} {meth : Method} {c : Code} {E : wd_E} {w0 : Wd} {r' : Option Nat} {w' : Wd} (n : Nat) (C : wd_X p s m args meth c cX5_portWithMark RX5 2 (some (.object "SeamarkNet$Port")) "portWithMark" E) (hR : 1 ≤ R.frames ∧ 21 ≤ R.locals) (w : Wd) (H : Heap) (locs : List Loc) (cells slots : Nat) (ls : Array Slot) (hZ : wd_Z E w0 R s w H locs cells slots []) (hl : lv_has ls 2 []) (hf : f_X5_portWithMark_j10 n w = some (r', w')) : W p l e R s m args below meth c H locs cells slots (wd_fin E w0 (some (va_rf r')) w' (∀ q, r' = some q → wd_K w' q = 8) R args s below) (F0 m 10 ls []) := by
  obtain ⟨hx, hb, hr, hml, hts, hown, hlocks, hmn, hK⟩ := id C
  unfold f_X5_portWithMark_j10 at hf
  refine z_null hx hb dX5_portWithMark_10 ?_
  obtain ⟨rfl, rfl⟩ := Prod.mk.inj (Option.some.inj hf)
  exact z_aret rfl hx hb hr hlocks hZ (fun q hq => by cases hq) dX5_portWithMark_11

set_option maxHeartbeats 4000000 in
set_option maxRecDepth 100000 in
theorem c_X5_portWithMark (l : Launch) (E : wd_E) (n : Nat) (w : Wd) (this : Nat) (p0 : Int32) (r' : Option Nat) (w' : Wd) (k_this : wd_K w this = 6) (hf : f_X5_portWithMark n w this p0 = some (r', w')) : wd_C l E yX5_portWithMark cX5_portWithMark 2 (some (.object "SeamarkNet$Port")) 1 21 [.ref this, .int p0] w (some (va_rf r')) w' (∀ q, r' = some q → wd_K w' q = 8) := by
  refine wd_ofW (own := RX5) (nm := "portWithMark") (ks := [(some this, 6)]) (lv := [(0, .ref this), (1, .int p0)]) (by decide) rfl rfl (Nat.le_of_ble_eq_true rfl) rfl (List.forall_mem_cons.mpr ⟨⟨Nat.succ_ne_zero _, fun q hq => by cases hq; exact k_this⟩, (fun _ hq => absurd hq List.not_mem_nil)⟩) ?_
  intro p e s m args below meth c R H locs cells slots ls C hR hZ hl
  obtain ⟨hx, hb, hr, hml, hts, hown, hlocks, hmn, hK⟩ := id C
  unfold f_X5_portWithMark at hf
  refine lv_iload_n (i := 1) hx hb dX5_portWithMark_0 rfl (lv_at hl 1 rfl) ?_
  refine lv_if_lt (tgt := 10) hx hb dX5_portWithMark_1 (by decide) (fun h1 => ?_) (fun h1 => ?_)
  · replace hf := wd_ite_p h1 hf
    exact v_X5_portWithMark_j10 n C hR w _ _ _ _ _ ⟨hZ.1, hZ.2.1, hZ.2.2.1, hZ.2.2.2.1, (fun _ hq => absurd hq List.not_mem_nil), hZ.2.2.2.2.2⟩ (lv_sub hl [] rfl) hf
  · replace hf := wd_ite_n h1 hf
    refine lv_iload_n (i := 1) hx hb dX5_portWithMark_4 rfl (lv_at hl 1 rfl) ?_
    refine lv_bipush (v := 32) hx hb dX5_portWithMark_5 (by decide) ?_
    refine lv_icmp_lt (tgt := 12) hx hb dX5_portWithMark_7 (by decide) (fun h2 => ?_) (fun h2 => ?_)
    · replace hf := wd_ite_p h2 hf
      refine lv_aload_n (i := 0) hx hb dX5_portWithMark_12 rfl (lv_at hl 0 rfl) ?_
      refine z_getR (tk := 22) fd_502 rfl hx hb hts hown hK hZ (hZ.k 0 rfl rfl) tw_121 dX5_portWithMark_13 ?_; clear hZ; intro hZ
      refine lv_iload_n (i := 1) hx hb dX5_portWithMark_16 rfl (lv_at hl 1 rfl) ?_
      refine lv_iconst (v := 4) hx hb dX5_portWithMark_17 (by decide) ?_
      refine lv_idiv hx hb dX5_portWithMark_18 (by decide) ?_
      have hf9 := Option.bind_eq_some_iff.mp hf; clear hf; obtain ⟨a3, ha3, hf⟩ := hf9
      replace hZ := hZ.add (r := some a3) (k := 23) (Nat.succ_ne_zero _) (fun q hq => by cases hq; exact hZ.k 0 rfl ha3)
      rw [ha3]
      have hf9 := wd_gd_e hf; clear hf; obtain ⟨h4, hf⟩ := hf9
      refine z_aald (k := 23) (by decide) (by decide) (tk := 3) rfl hx hb hK hZ (hZ.k 0 rfl rfl) h4 dX5_portWithMark_19 ?_; clear hZ; intro hZ
      refine lv_iload_n (i := 1) hx hb dX5_portWithMark_20 rfl (lv_at hl 1 rfl) ?_
      refine lv_iconst (v := 4) hx hb dX5_portWithMark_21 (by decide) ?_
      refine lv_irem hx hb dX5_portWithMark_22 (by decide) ?_
      have hf9 := Option.bind_eq_some_iff.mp hf; clear hf; obtain ⟨a5, ha5, hf⟩ := hf9
      replace hZ := hZ.add (r := some a5) (k := 4) (Nat.succ_ne_zero _) (fun q hq => by cases hq; exact hZ.k 0 rfl ha5)
      rw [ha5]
      have hf9 := wd_b2_e hf; clear hf; obtain ⟨r8, w6, hc7, hf⟩ := hf9
      refine z_callV (ci := 3) (As := [.int (p0 - p0 / (4 : Int32) * (4 : Int32))]) (rest := []) (c_X3_port l E n w a5 (p0 - p0 / (4 : Int32) * (4 : Int32)) r8 w6 (hZ.k 0 rfl rfl) hc7) mo_X3_port rfl (by decide) rfl tw_488 tw_489 tw_487 hx hb hml hts hown hK ⟨Nat.le_trans (by decide) hR.1, Nat.le_trans (by decide) hR.2⟩ hZ (hZ.k 0 rfl rfl) rfl hl.1 rfl (Nat.le_of_ble_eq_true rfl) rfl dX5_portWithMark_23 ?_; clear hZ; intro H locs cells slots hX hZ
      replace hZ := hZ.add (Nat.succ_ne_zero _) hX
      obtain ⟨rfl, rfl⟩ := Prod.mk.inj (Option.some.inj hf)
      exact z_aret rfl hx hb hr hlocks hZ (fun q hq => hZ.k 0 rfl hq) dX5_portWithMark_26
    · replace hf := wd_ite_n h2 hf
      exact v_X5_portWithMark_j10 n C hR w _ _ _ _ _ ⟨hZ.1, hZ.2.1, hZ.2.2.1, hZ.2.2.2.1, (fun _ hq => absurd hq List.not_mem_nil), hZ.2.2.2.2.2⟩ (lv_sub hl [] rfl) hf

def f_X6_init (n : Nat) (w : Wd) (this : Nat) : Option Wd :=
  some w
set_option maxHeartbeats 4000000 in
set_option maxRecDepth 100000 in
theorem c_X6_init (l : Launch) (E : wd_E) (n : Nat) (w : Wd) (this : Nat) (w' : Wd) (k_this : wd_K w this = 7) (hf : f_X6_init n w this = some w') : wd_C l E yX6_init cX6_init 1 none 1 24 [.ref this] w none w' True := by
  refine wd_ofW (own := RX6) (nm := "<init>") (ks := [(some this, 7)]) (lv := [(0, .ref this)]) (by decide) rfl rfl (Nat.le_of_ble_eq_true rfl) rfl (List.forall_mem_cons.mpr ⟨⟨Nat.succ_ne_zero _, fun q hq => by cases hq; exact k_this⟩, (fun _ hq => absurd hq List.not_mem_nil)⟩) ?_
  intro p e s m args below meth c R H locs cells slots ls C hR hZ hl
  obtain ⟨hx, hb, hr, hml, hts, hown, hlocks, hmn, hK⟩ := id C
  unfold f_X6_init at hf
  refine lv_aload_n (i := 0) hx hb dX6_init_0 rfl (lv_at hl 0 rfl) ?_
  refine W.objInit hx hb hown (hts _ tw_169) (hts _ tw_54) (hts _ tw_55) rfl (by rw [hml]; exact hl.1) rfl dX6_init_1 (Nat.le_trans (by decide) hR.1) (Nat.le_trans (Nat.le_of_ble_eq_true rfl) hR.2) ?_
  refine W.eq (g2 := F0 m 4 ls []) rfl ?_
  obtain rfl := Option.some.inj hf
  exact z_vret hx hb hr hlocks hZ trivial dX6_init_4

def f_X6_take_j57 (n : Nat) (x0 : Nat) (x1 : Option Nat) (w : Wd) : Option (Option Nat × Wd) :=
  wd_let (wd_sR w 601 x0 x1) fun w4 =>
  some (x1, w4)
def f_X6_take_j21 (n : Nat) (y0 : Option Nat) (x0 : Nat) (w : Wd) : Option (Option Nat × Wd) :=
  wd_on y0 (
    wd_gd (wd_M w = 0 ∨ wd_S w < 15) <|
    wd_let (wd_H w) fun a7 =>
    wd_let (wd_nw w 5 0 15) fun w9 =>
    Option.bind (f_X4_init n w9 a7) fun w11 =>
    wd_on (wd_R w11 601 x0) (
      wd_let (wd_sR w11 600 x0 (some a7)) fun w17 =>
      f_X6_take_j57 n x0 (some a7) w17)
      (fun a13 =>
      Option.bind (wd_R w11 601 x0) fun a14 =>
      wd_let (wd_sR w11 414 a14 (some a7)) fun w15 =>
      f_X6_take_j57 n x0 (some a7) w15))
    (fun a3 =>
    f_X6_take_j57 n x0 (some a3) w)
def f_X6_take (n : Nat) (w : Wd) (this : Nat) : Option (Option Nat × Wd) :=
  wd_on (wd_R w 601 this) (
    f_X6_take_j21 n (wd_R w 600 this) this w)
    (fun a1 =>
    Option.bind (wd_R w 601 this) fun a2 =>
    f_X6_take_j21 n (wd_R w 414 a2) this w)
set_option maxHeartbeats 4000000 in
set_option maxRecDepth 100000 in
theorem v_X6_take_j57 {p : Program} {l : Launch} {e : Env} {R : Room} {s : State} {m : MethodId} {args : Array Value} {below : List Frame} {meth : Method} {c : Code} {E : wd_E} {w0 : Wd} {r' : Option Nat} {w' : Wd} (n : Nat) (C : wd_X p s m args meth c cX6_take RX6 2 (some (.object "SeamarkNet$Packet")) "take" E) (hR : 2 ≤ R.frames ∧ 44 ≤ R.locals) (x0 : Nat) (x1 : Option Nat) (w : Wd) (H : Heap) (locs : List Loc) (cells slots : Nat) (ls : Array Slot) (hZ : wd_Z E w0 R s w H locs cells slots [(some x0, 7), (x1, 5)]) (hl : lv_has ls 2 [(0, .ref x0), (1, va_rf x1)]) (hf : f_X6_take_j57 n x0 x1 w = some (r', w')) : W p l e R s m args below meth c H locs cells slots (wd_fin E w0 (some (va_rf r')) w' (∀ q, r' = some q → wd_K w' q = 5) R args s below) (F0 m 57 ls []) := by
  obtain ⟨hx, hb, hr, hml, hts, hown, hlocks, hmn, hK⟩ := id C
  unfold f_X6_take_j57 at hf
  refine lv_aload_n (i := 0) hx hb dX6_take_57 rfl (lv_at hl 0 rfl) ?_
  refine z_aload_n (i := 1) hx hb dX6_take_58 rfl (lv_at hl 1 rfl) ?_
  refine z_putR (r := x1) rfl fd_601 cok_6 (tk := 4) rfl (fun q hq => hZ.k 1 rfl hq) rfl rfl (wd_obO _) hx hb hts hown hK hZ (hZ.k 0 rfl rfl) tw_171 dX6_take_59 ?_; clear hZ; intro H locs hZ
  have hf9 := wd_let_e hf; clear hf; obtain ⟨w4, e5, hf⟩ := hf9
  rw [e5] at hZ
  refine z_aload_n (i := 1) hx hb dX6_take_62 rfl (lv_at hl 1 rfl) ?_
  obtain ⟨rfl, rfl⟩ := Prod.mk.inj (Option.some.inj hf)
  exact z_aret rfl hx hb hr hlocks hZ (fun q hq => hZ.k 1 rfl hq) dX6_take_63

set_option maxHeartbeats 4000000 in
set_option maxRecDepth 100000 in
theorem v_X6_take_j21 {p : Program} {l : Launch} {e : Env} {R : Room} {s : State} {m : MethodId} {args : Array Value} {below : List Frame} {meth : Method} {c : Code} {E : wd_E} {w0 : Wd} {r' : Option Nat} {w' : Wd} (n : Nat) (C : wd_X p s m args meth c cX6_take RX6 2 (some (.object "SeamarkNet$Packet")) "take" E) (hR : 2 ≤ R.frames ∧ 44 ≤ R.locals) (y0 : Option Nat) (x0 : Nat) (w : Wd) (H : Heap) (locs : List Loc) (cells slots : Nat) (ls : Array Slot) (hZ : wd_Z E w0 R s w H locs cells slots [(y0, 5), (some x0, 7)]) (hl : lv_has ls 2 [(0, .ref x0)]) (hf : f_X6_take_j21 n y0 x0 w = some (r', w')) : W p l e R s m args below meth c H locs cells slots (wd_fin E w0 (some (va_rf r')) w' (∀ q, r' = some q → wd_K w' q = 5) R args s below) (F0 m 21 ls [va_rf y0]) := by
  obtain ⟨hx, hb, hr, hml, hts, hown, hlocks, hmn, hK⟩ := id C
  unfold f_X6_take_j21 at hf
  refine z_astore_n (i := 1) (lv' := [(1, va_rf y0), (0, .ref x0)]) hx hb dX6_take_21 rfl hl (by decide) rfl ?_; clear hl; intro ls hl
  refine z_aload_n (i := 1) hx hb dX6_take_22 rfl (lv_at hl 0 rfl) ?_
  refine z_ifnonnull (tgt := 57) hx hb dX6_take_23 (by decide) (fun a3 ha3 => ?_) (fun hn => ?_)
  · replace hf := wd_on_s ha3 hf
    subst ha3
    replace hl : lv_has ls 2 [(1, .ref a3), (0, .ref x0)] := hl
    replace hZ : wd_Z E w0 R s w H locs cells slots [(some a3, 5), (some x0, 7)] := hZ
    exact v_X6_take_j57 n C hR x0 (some a3) w _ _ _ _ _ ⟨hZ.1, hZ.2.1, hZ.2.2.1, hZ.2.2.2.1, (List.forall_mem_cons.mpr ⟨⟨Nat.succ_ne_zero _, (fun q hq => by cases hq; exact (hZ.k 1 rfl rfl))⟩, (List.forall_mem_cons.mpr ⟨⟨Nat.succ_ne_zero _, (fun q hq => by cases hq; exact (hZ.k 0 rfl rfl))⟩, (fun _ hq => absurd hq List.not_mem_nil)⟩)⟩), hZ.2.2.2.2.2⟩ (lv_sub hl [1, 0] rfl) hf
  · replace hf := wd_on_n hn hf
    subst hn
    replace hl : lv_has ls 2 [(1, va_rf none), (0, .ref x0)] := hl
    replace hZ : wd_Z E w0 R s w H locs cells slots [(none, 5), (some x0, 7)] := hZ
    have hf9 := wd_gd_e hf; clear hf; obtain ⟨h6, hf⟩ := hf9
    refine z_new cok_4 hx hb hts hown hK hZ tw_673 tw_674 tw_44 h6 dX6_take_26 ?_; clear hZ; intro H cells slots hZ
    have hf9 := wd_let_e hf; clear hf; obtain ⟨a7, e8, hf⟩ := hf9
    rw [e8]
    rw [e8] at hZ
    have hf9 := wd_let_e hf; clear hf; obtain ⟨w9, e10, hf⟩ := hf9
    rw [e10] at hZ
    refine lv_dup hx hb dX6_take_29 rfl ?_
    have hf9 := Option.bind_eq_some_iff.mp hf; clear hf; obtain ⟨w11, hc12, hf⟩ := hf9
    refine z_callIN (As := []) (rest := [.ref a7]) (c_X4_init l E n w9 a7 w11 (hZ.k 0 rfl rfl) hc12) mo_X4_init rfl tw_676 hK.2.2.2.1.2.1 hx hb hml hts hown hK ⟨Nat.le_trans (by decide) hR.1, Nat.le_trans (by decide) hR.2⟩ hZ rfl hl.1 rfl (Nat.le_of_ble_eq_true rfl) dX6_take_30 ?_; clear hZ; intro H locs cells slots hX hZ
    refine lv_astore_n (i := 1) (lv' := [(1, .ref a7), (0, .ref x0)]) hx hb dX6_take_33 rfl hl (by decide) rfl ?_; clear hl; intro ls hl
    refine lv_aload_n (i := 0) hx hb dX6_take_34 rfl (lv_at hl 1 rfl) ?_
    refine z_getR (tk := 4) fd_601 rfl hx hb hts hown hK hZ (hZ.k 2 rfl rfl) tw_171 dX6_take_35 ?_; clear hZ; intro hZ
    refine z_ifnonnull (tgt := 49) hx hb dX6_take_38 (by decide) (fun a13 ha13 => ?_) (fun hn => ?_)
    · replace hf := wd_on_s ha13 hf
      refine lv_aload_n (i := 0) hx hb dX6_take_49 rfl (lv_at hl 1 rfl) ?_
      refine z_getR (tk := 4) fd_601 rfl hx hb hts hown hK hZ (hZ.k 3 rfl rfl) tw_171 dX6_take_50 ?_; clear hZ; intro hZ
      refine lv_aload_n (i := 1) hx hb dX6_take_53 rfl (lv_at hl 0 rfl) ?_
      have hf9 := Option.bind_eq_some_iff.mp hf; clear hf; obtain ⟨a14, ha14, hf⟩ := hf9
      replace hZ := hZ.add (r := some a14) (k := 5) (Nat.succ_ne_zero _) (fun q hq => by cases hq; exact hZ.k 0 rfl ha14)
      rw [ha14]
      refine z_putR (r := (some a7)) rfl fd_414 cok_4 (tk := 4) rfl (fun q hq => by cases hq; exact (hZ.k 3 rfl rfl)) rfl rfl (wd_obO _) hx hb hts hown hK hZ (hZ.k 0 rfl rfl) tw_725 dX6_take_54 ?_; clear hZ; intro H locs hZ
      have hf9 := wd_let_e hf; clear hf; obtain ⟨w15, e16, hf⟩ := hf9
      rw [e16] at hZ
      exact v_X6_take_j57 n C hR x0 (some a7) w15 _ _ _ _ _ ⟨hZ.1, hZ.2.1, hZ.2.2.1, hZ.2.2.2.1, (List.forall_mem_cons.mpr ⟨⟨Nat.succ_ne_zero _, (fun q hq => by cases hq; exact (hZ.k 5 rfl rfl))⟩, (List.forall_mem_cons.mpr ⟨⟨Nat.succ_ne_zero _, (fun q hq => by cases hq; exact (hZ.k 3 rfl rfl))⟩, (fun _ hq => absurd hq List.not_mem_nil)⟩)⟩), hZ.2.2.2.2.2⟩ (lv_sub hl [1, 0] rfl) hf
    · replace hf := wd_on_n hn hf
      refine lv_aload_n (i := 0) hx hb dX6_take_41 rfl (lv_at hl 1 rfl) ?_
      refine lv_aload_n (i := 1) hx hb dX6_take_42 rfl (lv_at hl 0 rfl) ?_
      refine z_putR (r := (some a7)) rfl fd_600 cok_6 (tk := 4) rfl (fun q hq => by cases hq; exact (hZ.k 1 rfl rfl)) rfl rfl (wd_obO _) hx hb hts hown hK hZ (hZ.k 3 rfl rfl) tw_170 dX6_take_43 ?_; clear hZ; intro H locs hZ
      have hf9 := wd_let_e hf; clear hf; obtain ⟨w17, e18, hf⟩ := hf9
      rw [e18] at hZ
      refine lv_goto (tgt := 57) hx hb dX6_take_46 (by decide) ?_
      exact v_X6_take_j57 n C hR x0 (some a7) w17 _ _ _ _ _ ⟨hZ.1, hZ.2.1, hZ.2.2.1, hZ.2.2.2.1, (List.forall_mem_cons.mpr ⟨⟨Nat.succ_ne_zero _, (fun q hq => by cases hq; exact (hZ.k 3 rfl rfl))⟩, (List.forall_mem_cons.mpr ⟨⟨Nat.succ_ne_zero _, (fun q hq => by cases hq; exact (hZ.k 1 rfl rfl))⟩, (fun _ hq => absurd hq List.not_mem_nil)⟩)⟩), hZ.2.2.2.2.2⟩ (lv_sub hl [1, 0] rfl) hf

set_option maxHeartbeats 4000000 in
set_option maxRecDepth 100000 in
theorem c_X6_take (l : Launch) (E : wd_E) (n : Nat) (w : Wd) (this : Nat) (r' : Option Nat) (w' : Wd) (k_this : wd_K w this = 7) (hf : f_X6_take n w this = some (r', w')) : wd_C l E yX6_take cX6_take 2 (some (.object "SeamarkNet$Packet")) 2 44 [.ref this] w (some (va_rf r')) w' (∀ q, r' = some q → wd_K w' q = 5) := by
  refine wd_ofW (own := RX6) (nm := "take") (ks := [(some this, 7)]) (lv := [(0, .ref this)]) (by decide) rfl rfl (Nat.le_of_ble_eq_true rfl) rfl (List.forall_mem_cons.mpr ⟨⟨Nat.succ_ne_zero _, fun q hq => by cases hq; exact k_this⟩, (fun _ hq => absurd hq List.not_mem_nil)⟩) ?_
  intro p e s m args below meth c R H locs cells slots ls C hR hZ hl
  obtain ⟨hx, hb, hr, hml, hts, hown, hlocks, hmn, hK⟩ := id C
  unfold f_X6_take at hf
  refine lv_aload_n (i := 0) hx hb dX6_take_0 rfl (lv_at hl 0 rfl) ?_
  refine z_getR (tk := 4) fd_601 rfl hx hb hts hown hK hZ (hZ.k 0 rfl rfl) tw_171 dX6_take_1 ?_; clear hZ; intro hZ
  refine z_ifnonnull (tgt := 14) hx hb dX6_take_4 (by decide) (fun a1 ha1 => ?_) (fun hn => ?_)
  · replace hf := wd_on_s ha1 hf
    refine lv_aload_n (i := 0) hx hb dX6_take_14 rfl (lv_at hl 0 rfl) ?_
    refine z_getR (tk := 4) fd_601 rfl hx hb hts hown hK hZ (hZ.k 1 rfl rfl) tw_171 dX6_take_15 ?_; clear hZ; intro hZ
    have hf9 := Option.bind_eq_some_iff.mp hf; clear hf; obtain ⟨a2, ha2, hf⟩ := hf9
    replace hZ := hZ.add (r := some a2) (k := 5) (Nat.succ_ne_zero _) (fun q hq => by cases hq; exact hZ.k 0 rfl ha2)
    rw [ha2]
    refine z_getR (tk := 4) fd_414 rfl hx hb hts hown hK hZ (hZ.k 0 rfl rfl) tw_725 dX6_take_18 ?_; clear hZ; intro hZ
    exact v_X6_take_j21 n C hR (wd_R w 414 a2) this w _ _ _ _ _ ⟨hZ.1, hZ.2.1, hZ.2.2.1, hZ.2.2.2.1, (List.forall_mem_cons.mpr ⟨⟨Nat.succ_ne_zero _, (fun q hq => hZ.k 0 rfl hq)⟩, (List.forall_mem_cons.mpr ⟨⟨Nat.succ_ne_zero _, (fun q hq => by cases hq; exact (hZ.k 4 rfl rfl))⟩, (fun _ hq => absurd hq List.not_mem_nil)⟩)⟩), hZ.2.2.2.2.2⟩ (lv_sub hl [0] rfl) hf
  · replace hf := wd_on_n hn hf
    refine lv_aload_n (i := 0) hx hb dX6_take_7 rfl (lv_at hl 0 rfl) ?_
    refine z_getR (tk := 4) fd_600 rfl hx hb hts hown hK hZ (hZ.k 1 rfl rfl) tw_170 dX6_take_8 ?_; clear hZ; intro hZ
    refine lv_goto (tgt := 21) hx hb dX6_take_11 (by decide) ?_
    exact v_X6_take_j21 n C hR (wd_R w 600 this) this w _ _ _ _ _ ⟨hZ.1, hZ.2.1, hZ.2.2.1, hZ.2.2.2.1, (List.forall_mem_cons.mpr ⟨⟨Nat.succ_ne_zero _, (fun q hq => hZ.k 0 rfl hq)⟩, (List.forall_mem_cons.mpr ⟨⟨Nat.succ_ne_zero _, (fun q hq => by cases hq; exact (hZ.k 2 rfl rfl))⟩, (fun _ hq => absurd hq List.not_mem_nil)⟩)⟩), hZ.2.2.2.2.2⟩ (lv_sub hl [0] rfl) hf

def f_X6_takeBackAll (n : Nat) (w : Wd) (this : Nat) : Option Wd :=
  wd_let (wd_sR w 601 this none) fun w1 =>
  some w1
set_option maxHeartbeats 4000000 in
set_option maxRecDepth 100000 in
theorem c_X6_takeBackAll (l : Launch) (E : wd_E) (n : Nat) (w : Wd) (this : Nat) (w' : Wd) (k_this : wd_K w this = 7) (hf : f_X6_takeBackAll n w this = some w') : wd_C l E yX6_takeBackAll cX6_takeBackAll 1 none 0 0 [.ref this] w none w' True := by
  refine wd_ofW (own := RX6) (nm := "takeBackAll") (ks := [(some this, 7)]) (lv := [(0, .ref this)]) (by decide) rfl rfl (Nat.le_of_ble_eq_true rfl) rfl (List.forall_mem_cons.mpr ⟨⟨Nat.succ_ne_zero _, fun q hq => by cases hq; exact k_this⟩, (fun _ hq => absurd hq List.not_mem_nil)⟩) ?_
  intro p e s m args below meth c R H locs cells slots ls C hR hZ hl
  obtain ⟨hx, hb, hr, hml, hts, hown, hlocks, hmn, hK⟩ := id C
  unfold f_X6_takeBackAll at hf
  refine lv_aload_n (i := 0) hx hb dX6_takeBackAll_0 rfl (lv_at hl 0 rfl) ?_
  refine z_null hx hb dX6_takeBackAll_1 ?_
  refine z_putR (r := none) rfl fd_601 cok_6 (tk := 4) rfl (fun q hq => by cases hq) rfl rfl (wd_obO _) hx hb hts hown hK hZ (hZ.k 0 rfl rfl) tw_171 dX6_takeBackAll_2 ?_; clear hZ; intro H locs hZ
  have hf9 := wd_let_e hf; clear hf; obtain ⟨w1, e2, hf⟩ := hf9
  rw [e2] at hZ
  obtain rfl := Option.some.inj hf
  exact z_vret hx hb hr hlocks hZ trivial dX6_takeBackAll_5

def f_X8_init (n : Nat) (w : Wd) (this : Nat) : Option Wd :=
  some w
set_option maxHeartbeats 4000000 in
set_option maxRecDepth 100000 in
theorem c_X8_init (l : Launch) (E : wd_E) (n : Nat) (w : Wd) (this : Nat) (w' : Wd) (k_this : wd_K w this = 9) (hf : f_X8_init n w this = some w') : wd_C l E yX8_init cX8_init 1 none 1 24 [.ref this] w none w' True := by
  refine wd_ofW (own := RX8) (nm := "<init>") (ks := [(some this, 9)]) (lv := [(0, .ref this)]) (by decide) rfl rfl (Nat.le_of_ble_eq_true rfl) rfl (List.forall_mem_cons.mpr ⟨⟨Nat.succ_ne_zero _, fun q hq => by cases hq; exact k_this⟩, (fun _ hq => absurd hq List.not_mem_nil)⟩) ?_
  intro p e s m args below meth c R H locs cells slots ls C hR hZ hl
  obtain ⟨hx, hb, hr, hml, hts, hown, hlocks, hmn, hK⟩ := id C
  unfold f_X8_init at hf
  refine lv_aload_n (i := 0) hx hb dX8_init_0 rfl (lv_at hl 0 rfl) ?_
  refine W.objInit hx hb hown (hts _ tw_148) (hts _ tw_54) (hts _ tw_55) rfl (by rw [hml]; exact hl.1) rfl dX8_init_1 (Nat.le_trans (by decide) hR.1) (Nat.le_trans (Nat.le_of_ble_eq_true rfl) hR.2) ?_
  refine W.eq (g2 := F0 m 4 ls []) rfl ?_
  obtain rfl := Option.some.inj hf
  exact z_vret hx hb hr hlocks hZ trivial dX8_init_4

def f_X8_add_j107 (n : Nat) (x0 : Nat) (x6 : Option Nat) (w : Wd) : Option Wd :=
  wd_let (wd_sR w 802 x0 x6) fun w26 =>
  wd_let (wd_sI w26 801 x0 ((wd_I w26 801 x0) + (1 : Int32))) fun w28 =>
  some w28
def f_X8_add_j32 (n : Nat) (x0 : Nat) (x1 : Int32) (x2 : Option Nat) (x3 : Int32) (x4 : Int32) (x5 : Option Nat) (x6 : Option Nat) (w : Wd) : Option Wd :=
  Option.bind x6 fun a6 =>
  wd_let (wd_sI w 3 a6 x1) fun w7 =>
  Option.bind x2 fun a9 =>
  wd_let (wd_sI w7 0 a6 (wd_I w7 701 a9)) fun w10 =>
  wd_let (wd_sI w10 1 a6 (wd_I w10 700 a9)) fun w12 =>
  wd_let (wd_sI w12 2 a6 x3) fun w14 =>
  wd_let (wd_sI w14 4 a6 x4) fun w16 =>
  wd_let (wd_sR w16 5 a6 x5) fun w18 =>
  wd_let (wd_sR w18 6 a6 none) fun w20 =>
  wd_on (wd_R w20 802 x0) (
    wd_let (wd_sR w20 800 x0 (some a6)) fun w30 =>
    f_X8_add_j107 n x0 (some a6) w30)
    (fun a22 =>
    Option.bind (wd_R w20 802 x0) fun a23 =>
    wd_let (wd_sR w20 6 a23 (some a6)) fun w24 =>
    f_X8_add_j107 n x0 (some a6) w24)
def f_X8_add (n : Nat) (w : Wd) (this : Nat) (p0 : Int32) (p1 : Option Nat) (p2 : Int32) (p3 : Int32) (p4 : Option Nat) : Option Wd :=
  wd_let (wd_R w 803 this) fun v1 =>
  wd_on v1 (
    wd_gd (wd_M w = 0 ∨ wd_S w < 7) <|
    wd_let (wd_H w) fun a33 =>
    wd_let (wd_nw w 1 0 7) fun w35 =>
    Option.bind (f_X0_init n w35 a33) fun w37 =>
    f_X8_add_j32 n this p0 p1 p2 p3 p4 (some a33) w37)
    (fun a3 =>
    wd_let (wd_sR w 803 this (wd_R w 6 a3)) fun w4 =>
    f_X8_add_j32 n this p0 p1 p2 p3 p4 (some a3) w4)
set_option maxHeartbeats 4000000 in
set_option maxRecDepth 100000 in
theorem v_X8_add_j107 {p : Program} {l : Launch} {e : Env} {R : Room} {s : State} {m : MethodId} {args : Array Value} {below : List Frame} {meth : Method} {c : Code} {E : wd_E} {w0 : Wd} {w' : Wd} (n : Nat) (C : wd_X p s m args meth c cX8_add RX8 7 none "add" E) (hR : 2 ≤ R.frames ∧ 44 ≤ R.locals) (x0 : Nat) (x6 : Option Nat) (w : Wd) (H : Heap) (locs : List Loc) (cells slots : Nat) (ls : Array Slot) (hZ : wd_Z E w0 R s w H locs cells slots [(some x0, 9), (x6, 1)]) (hl : lv_has ls 7 [(0, .ref x0), (6, va_rf x6)]) (hf : f_X8_add_j107 n x0 x6 w = some w') : W p l e R s m args below meth c H locs cells slots (wd_fin E w0 none w' True R args s below) (F0 m 107 ls []) := by
  obtain ⟨hx, hb, hr, hml, hts, hown, hlocks, hmn, hK⟩ := id C
  unfold f_X8_add_j107 at hf
  refine lv_aload_n (i := 0) hx hb dX8_add_107 rfl (lv_at hl 0 rfl) ?_
  refine z_aload hx hb dX8_add_108 (lv_at hl 1 rfl) ?_
  refine z_putR (r := x6) rfl fd_802 cok_8 (tk := 0) rfl (fun q hq => hZ.k 1 rfl hq) rfl rfl (wd_obO _) hx hb hts hown hK hZ (hZ.k 0 rfl rfl) tw_153 dX8_add_110 ?_; clear hZ; intro H locs hZ
  have hf9 := wd_let_e hf; clear hf; obtain ⟨w26, e27, hf⟩ := hf9
  rw [e27] at hZ
  refine lv_aload_n (i := 0) hx hb dX8_add_113 rfl (lv_at hl 0 rfl) ?_
  refine lv_dup hx hb dX8_add_114 rfl ?_
  refine z_getI fd_801 rfl hx hb hts hown hK hZ (hZ.k 0 rfl rfl) tw_151 dX8_add_115 ?_
  refine lv_iconst (v := 1) hx hb dX8_add_118 (by decide) ?_
  refine lv_iadd hx hb dX8_add_119 ?_
  refine z_putI fd_801 cok_8 rfl rfl rfl rfl rfl hx hb hts hown hK hZ (hZ.k 0 rfl rfl) tw_151 dX8_add_120 ?_; clear hZ; intro H locs hZ
  have hf9 := wd_let_e hf; clear hf; obtain ⟨w28, e29, hf⟩ := hf9
  rw [e29] at hZ
  obtain rfl := Option.some.inj hf
  exact z_vret hx hb hr hlocks hZ trivial dX8_add_123

set_option maxHeartbeats 4000000 in
set_option maxRecDepth 100000 in
theorem v_X8_add_j32 {p : Program} {l : Launch} {e : Env} {R : Room} {s : State} {m : MethodId} {args : Array Value} {below : List Frame} {meth : Method} {c : Code} {E : wd_E} {w0 : Wd} {w' : Wd} (n : Nat) (C : wd_X p s m args meth c cX8_add RX8 7 none "add" E) (hR : 2 ≤ R.frames ∧ 44 ≤ R.locals) (x0 : Nat) (x1 : Int32) (x2 : Option Nat) (x3 : Int32) (x4 : Int32) (x5 : Option Nat) (x6 : Option Nat) (w : Wd) (H : Heap) (locs : List Loc) (cells slots : Nat) (ls : Array Slot) (hZ : wd_Z E w0 R s w H locs cells slots [(some x0, 9), (x2, 8), (x5, 5), (x6, 1)]) (hl : lv_has ls 7 [(0, .ref x0), (1, .int x1), (2, va_rf x2), (3, .int x3), (4, .int x4), (5, va_rf x5), (6, va_rf x6)]) (hf : f_X8_add_j32 n x0 x1 x2 x3 x4 x5 x6 w = some w') : W p l e R s m args below meth c H locs cells slots (wd_fin E w0 none w' True R args s below) (F0 m 32 ls []) := by
  obtain ⟨hx, hb, hr, hml, hts, hown, hlocks, hmn, hK⟩ := id C
  unfold f_X8_add_j32 at hf
  refine z_aload hx hb dX8_add_32 (lv_at hl 6 rfl) ?_
  refine lv_iload_n (i := 1) hx hb dX8_add_34 rfl (lv_at hl 1 rfl) ?_
  have hf9 := Option.bind_eq_some_iff.mp hf; clear hf; obtain ⟨a6, ha6, hf⟩ := hf9
  subst ha6
  replace hl : lv_has ls 7 [(0, .ref x0), (1, .int x1), (2, va_rf x2), (3, .int x3), (4, .int x4), (5, va_rf x5), (6, .ref a6)] := hl
  replace hZ : wd_Z E w0 R s w H locs cells slots [(some x0, 9), (x2, 8), (x5, 5), (some a6, 1)] := hZ
  refine z_putI fd_3 cok_0 rfl rfl rfl rfl rfl hx hb hts hown hK hZ (hZ.k 3 rfl rfl) tw_816 dX8_add_35 ?_; clear hZ; intro H locs hZ
  have hf9 := wd_let_e hf; clear hf; obtain ⟨w7, e8, hf⟩ := hf9
  rw [e8] at hZ
  refine lv_aload hx hb dX8_add_38 (lv_at hl 6 rfl) ?_
  refine z_aload_n (i := 2) hx hb dX8_add_40 rfl (lv_at hl 2 rfl) ?_
  have hf9 := Option.bind_eq_some_iff.mp hf; clear hf; obtain ⟨a9, ha9, hf⟩ := hf9
  subst ha9
  replace hl : lv_has ls 7 [(0, .ref x0), (1, .int x1), (2, .ref a9), (3, .int x3), (4, .int x4), (5, va_rf x5), (6, .ref a6)] := hl
  replace hZ : wd_Z E w0 R s w7 H locs cells slots [(some x0, 9), (some a9, 8), (x5, 5), (some a6, 1)] := hZ
  refine z_getI fd_701 rfl hx hb hts hown hK hZ (hZ.k 1 rfl rfl) tw_564 dX8_add_41 ?_
  refine z_putI fd_0 cok_0 rfl rfl rfl rfl rfl hx hb hts hown hK hZ (hZ.k 3 rfl rfl) tw_808 dX8_add_44 ?_; clear hZ; intro H locs hZ
  have hf9 := wd_let_e hf; clear hf; obtain ⟨w10, e11, hf⟩ := hf9
  rw [e11] at hZ
  refine lv_aload hx hb dX8_add_47 (lv_at hl 6 rfl) ?_
  refine lv_aload_n (i := 2) hx hb dX8_add_49 rfl (lv_at hl 2 rfl) ?_
  refine z_getI fd_700 rfl hx hb hts hown hK hZ (hZ.k 1 rfl rfl) tw_560 dX8_add_50 ?_
  refine z_putI fd_1 cok_0 rfl rfl rfl rfl rfl hx hb hts hown hK hZ (hZ.k 3 rfl rfl) tw_811 dX8_add_53 ?_; clear hZ; intro H locs hZ
  have hf9 := wd_let_e hf; clear hf; obtain ⟨w12, e13, hf⟩ := hf9
  rw [e13] at hZ
  refine lv_aload hx hb dX8_add_56 (lv_at hl 6 rfl) ?_
  refine lv_iload_n (i := 3) hx hb dX8_add_58 rfl (lv_at hl 3 rfl) ?_
  refine z_putI fd_2 cok_0 rfl rfl rfl rfl rfl hx hb hts hown hK hZ (hZ.k 3 rfl rfl) tw_814 dX8_add_59 ?_; clear hZ; intro H locs hZ
  have hf9 := wd_let_e hf; clear hf; obtain ⟨w14, e15, hf⟩ := hf9
  rw [e15] at hZ
  refine lv_aload hx hb dX8_add_62 (lv_at hl 6 rfl) ?_
  refine lv_iload hx hb dX8_add_64 (lv_at hl 4 rfl) ?_
  refine z_putI fd_4 cok_0 rfl rfl rfl rfl rfl hx hb hts hown hK hZ (hZ.k 3 rfl rfl) tw_819 dX8_add_66 ?_; clear hZ; intro H locs hZ
  have hf9 := wd_let_e hf; clear hf; obtain ⟨w16, e17, hf⟩ := hf9
  rw [e17] at hZ
  refine lv_aload hx hb dX8_add_69 (lv_at hl 6 rfl) ?_
  refine z_aload hx hb dX8_add_71 (lv_at hl 5 rfl) ?_
  refine z_putR (r := x5) rfl fd_5 cok_0 (tk := 4) rfl (fun q hq => hZ.k 2 rfl hq) rfl rfl (wd_obO _) hx hb hts hown hK hZ (hZ.k 3 rfl rfl) tw_823 dX8_add_73 ?_; clear hZ; intro H locs hZ
  have hf9 := wd_let_e hf; clear hf; obtain ⟨w18, e19, hf⟩ := hf9
  rw [e19] at hZ
  refine lv_aload hx hb dX8_add_76 (lv_at hl 6 rfl) ?_
  refine z_null hx hb dX8_add_78 ?_
  refine z_putR (r := none) rfl fd_6 cok_0 (tk := 0) rfl (fun q hq => by cases hq) rfl rfl (wd_obO _) hx hb hts hown hK hZ (hZ.k 3 rfl rfl) tw_825 dX8_add_79 ?_; clear hZ; intro H locs hZ
  have hf9 := wd_let_e hf; clear hf; obtain ⟨w20, e21, hf⟩ := hf9
  rw [e21] at hZ
  refine lv_aload_n (i := 0) hx hb dX8_add_82 rfl (lv_at hl 0 rfl) ?_
  refine z_getR (tk := 0) fd_802 rfl hx hb hts hown hK hZ (hZ.k 0 rfl rfl) tw_153 dX8_add_83 ?_; clear hZ; intro hZ
  refine z_ifnonnull (tgt := 98) hx hb dX8_add_86 (by decide) (fun a22 ha22 => ?_) (fun hn => ?_)
  · replace hf := wd_on_s ha22 hf
    refine lv_aload_n (i := 0) hx hb dX8_add_98 rfl (lv_at hl 0 rfl) ?_
    refine z_getR (tk := 0) fd_802 rfl hx hb hts hown hK hZ (hZ.k 1 rfl rfl) tw_153 dX8_add_99 ?_; clear hZ; intro hZ
    refine lv_aload hx hb dX8_add_102 (lv_at hl 6 rfl) ?_
    have hf9 := Option.bind_eq_some_iff.mp hf; clear hf; obtain ⟨a23, ha23, hf⟩ := hf9
    replace hZ := hZ.add (r := some a23) (k := 1) (Nat.succ_ne_zero _) (fun q hq => by cases hq; exact hZ.k 0 rfl ha23)
    rw [ha23]
    refine z_putR (r := (some a6)) rfl fd_6 cok_0 (tk := 0) rfl (fun q hq => by cases hq; exact (hZ.k 6 rfl rfl)) rfl rfl (wd_obO _) hx hb hts hown hK hZ (hZ.k 0 rfl rfl) tw_825 dX8_add_104 ?_; clear hZ; intro H locs hZ
    have hf9 := wd_let_e hf; clear hf; obtain ⟨w24, e25, hf⟩ := hf9
    rw [e25] at hZ
    exact v_X8_add_j107 n C hR x0 (some a6) w24 _ _ _ _ _ ⟨hZ.1, hZ.2.1, hZ.2.2.1, hZ.2.2.2.1, (List.forall_mem_cons.mpr ⟨⟨Nat.succ_ne_zero _, (fun q hq => by cases hq; exact (hZ.k 3 rfl rfl))⟩, (List.forall_mem_cons.mpr ⟨⟨Nat.succ_ne_zero _, (fun q hq => by cases hq; exact (hZ.k 6 rfl rfl))⟩, (fun _ hq => absurd hq List.not_mem_nil)⟩)⟩), hZ.2.2.2.2.2⟩ (lv_sub hl [0, 6] rfl) hf
  · replace hf := wd_on_n hn hf
    refine lv_aload_n (i := 0) hx hb dX8_add_89 rfl (lv_at hl 0 rfl) ?_
    refine lv_aload hx hb dX8_add_90 (lv_at hl 6 rfl) ?_
    refine z_putR (r := (some a6)) rfl fd_800 cok_8 (tk := 0) rfl (fun q hq => by cases hq; exact (hZ.k 4 rfl rfl)) rfl rfl (wd_obO _) hx hb hts hown hK hZ (hZ.k 1 rfl rfl) tw_149 dX8_add_92 ?_; clear hZ; intro H locs hZ
    have hf9 := wd_let_e hf; clear hf; obtain ⟨w30, e31, hf⟩ := hf9
    rw [e31] at hZ
    refine lv_goto (tgt := 107) hx hb dX8_add_95 (by decide) ?_
    exact v_X8_add_j107 n C hR x0 (some a6) w30 _ _ _ _ _ ⟨hZ.1, hZ.2.1, hZ.2.2.1, hZ.2.2.2.1, (List.forall_mem_cons.mpr ⟨⟨Nat.succ_ne_zero _, (fun q hq => by cases hq; exact (hZ.k 1 rfl rfl))⟩, (List.forall_mem_cons.mpr ⟨⟨Nat.succ_ne_zero _, (fun q hq => by cases hq; exact (hZ.k 4 rfl rfl))⟩, (fun _ hq => absurd hq List.not_mem_nil)⟩)⟩), hZ.2.2.2.2.2⟩ (lv_sub hl [0, 6] rfl) hf

set_option maxHeartbeats 4000000 in
set_option maxRecDepth 100000 in
theorem c_X8_add (l : Launch) (E : wd_E) (n : Nat) (w : Wd) (this : Nat) (p0 : Int32) (p1 : Option Nat) (p2 : Int32) (p3 : Int32) (p4 : Option Nat) (w' : Wd) (k_this : wd_K w this = 9) (k_p1 : ∀ q, p1 = some q → wd_K w q = 8) (k_p4 : ∀ q, p4 = some q → wd_K w q = 5) (hf : f_X8_add n w this p0 p1 p2 p3 p4 = some w') : wd_C l E yX8_add cX8_add 7 none 2 44 [.ref this, .int p0, va_rf p1, .int p2, .int p3, va_rf p4] w none w' True := by
  refine wd_ofW (own := RX8) (nm := "add") (ks := [(some this, 9), (p1, 8), (p4, 5)]) (lv := [(0, .ref this), (1, .int p0), (2, va_rf p1), (3, .int p2), (4, .int p3), (5, va_rf p4)]) (by decide) rfl rfl (by simp [lg_sl, va_rf_cat, va_cat_r, va_cat_i, va_cat_l, va_cat_d]) (by simp [lv_args, va_rf_cat, va_cat_r, va_cat_i, va_cat_l, va_cat_d]) (List.forall_mem_cons.mpr ⟨⟨Nat.succ_ne_zero _, fun q hq => by cases hq; exact k_this⟩, (List.forall_mem_cons.mpr ⟨⟨Nat.succ_ne_zero _, k_p1⟩, (List.forall_mem_cons.mpr ⟨⟨Nat.succ_ne_zero _, k_p4⟩, (fun _ hq => absurd hq List.not_mem_nil)⟩)⟩)⟩) ?_
  intro p e s m args below meth c R H locs cells slots ls C hR hZ hl
  obtain ⟨hx, hb, hr, hml, hts, hown, hlocks, hmn, hK⟩ := id C
  unfold f_X8_add at hf
  refine lv_aload_n (i := 0) hx hb dX8_add_0 rfl (lv_at hl 0 rfl) ?_
  refine z_getR (tk := 0) fd_803 rfl hx hb hts hown hK hZ (hZ.k 0 rfl rfl) tw_154 dX8_add_1 ?_; clear hZ; intro hZ
  have hf9 := wd_let_e hf; clear hf; obtain ⟨v1, e2, hf⟩ := hf9
  rw [e2]
  rw [e2] at hZ
  refine z_astore (i := 6) (lv' := [(6, va_rf v1), (0, .ref this), (1, .int p0), (2, va_rf p1), (3, .int p2), (4, .int p3), (5, va_rf p4)]) hx hb dX8_add_4 hl (by decide) (by simp [va_rf_cat, va_cat_r, va_cat_i, va_cat_l, va_cat_d]) ?_; clear hl; intro ls hl
  refine z_aload hx hb dX8_add_6 (lv_at hl 0 rfl) ?_
  refine z_ifnonnull (tgt := 23) hx hb dX8_add_8 (by decide) (fun a3 ha3 => ?_) (fun hn => ?_)
  · replace hf := wd_on_s ha3 hf
    subst ha3
    replace hl : lv_has ls 7 [(6, .ref a3), (0, .ref this), (1, .int p0), (2, va_rf p1), (3, .int p2), (4, .int p3), (5, va_rf p4)] := hl
    replace hZ : wd_Z E w R s w H locs cells slots [(some a3, 1), (some this, 9), (p1, 8), (p4, 5)] := hZ
    refine lv_aload_n (i := 0) hx hb dX8_add_23 rfl (lv_at hl 1 rfl) ?_
    refine lv_aload hx hb dX8_add_24 (lv_at hl 0 rfl) ?_
    refine z_getR (tk := 0) fd_6 rfl hx hb hts hown hK hZ (hZ.k 0 rfl rfl) tw_825 dX8_add_26 ?_; clear hZ; intro hZ
    refine z_putR (r := (wd_R w 6 a3)) rfl fd_803 cok_8 (tk := 0) rfl (fun q hq => hZ.k 0 rfl hq) rfl rfl (wd_obO _) hx hb hts hown hK hZ (hZ.k 2 rfl rfl) tw_154 dX8_add_29 ?_; clear hZ; intro H locs hZ
    have hf9 := wd_let_e hf; clear hf; obtain ⟨w4, e5, hf⟩ := hf9
    rw [e5] at hZ
    exact v_X8_add_j32 n C hR this p0 p1 p2 p3 p4 (some a3) w4 _ _ _ _ _ ⟨hZ.1, hZ.2.1, hZ.2.2.1, hZ.2.2.2.1, (List.forall_mem_cons.mpr ⟨⟨Nat.succ_ne_zero _, (fun q hq => by cases hq; exact (hZ.k 2 rfl rfl))⟩, (List.forall_mem_cons.mpr ⟨⟨Nat.succ_ne_zero _, (fun q hq => hZ.k 3 rfl hq)⟩, (List.forall_mem_cons.mpr ⟨⟨Nat.succ_ne_zero _, (fun q hq => hZ.k 4 rfl hq)⟩, (List.forall_mem_cons.mpr ⟨⟨Nat.succ_ne_zero _, (fun q hq => by cases hq; exact (hZ.k 1 rfl rfl))⟩, (fun _ hq => absurd hq List.not_mem_nil)⟩)⟩)⟩)⟩), hZ.2.2.2.2.2⟩ (lv_sub hl [1, 2, 3, 4, 5, 6, 0] rfl) hf
  · replace hf := wd_on_n hn hf
    subst hn
    replace hl : lv_has ls 7 [(6, va_rf none), (0, .ref this), (1, .int p0), (2, va_rf p1), (3, .int p2), (4, .int p3), (5, va_rf p4)] := hl
    replace hZ : wd_Z E w R s w H locs cells slots [(none, 1), (some this, 9), (p1, 8), (p4, 5)] := hZ
    have hf9 := wd_gd_e hf; clear hf; obtain ⟨h32, hf⟩ := hf9
    refine z_new cok_0 hx hb hts hown hK hZ tw_802 tw_437 tw_45 h32 dX8_add_11 ?_; clear hZ; intro H cells slots hZ
    have hf9 := wd_let_e hf; clear hf; obtain ⟨a33, e34, hf⟩ := hf9
    rw [e34]
    rw [e34] at hZ
    have hf9 := wd_let_e hf; clear hf; obtain ⟨w35, e36, hf⟩ := hf9
    rw [e36] at hZ
    refine lv_dup hx hb dX8_add_14 rfl ?_
    have hf9 := Option.bind_eq_some_iff.mp hf; clear hf; obtain ⟨w37, hc38, hf⟩ := hf9
    refine z_callIN (As := []) (rest := [.ref a33]) (c_X0_init l E n w35 a33 w37 (hZ.k 0 rfl rfl) hc38) mo_X0_init rfl tw_804 hK.2.2.2.1.2.2.1 hx hb hml hts hown hK ⟨Nat.le_trans (by decide) hR.1, Nat.le_trans (by decide) hR.2⟩ hZ rfl hl.1 rfl (Nat.le_of_ble_eq_true rfl) dX8_add_15 ?_; clear hZ; intro H locs cells slots hX hZ
    refine lv_astore (i := 6) (lv' := [(6, .ref a33), (0, .ref this), (1, .int p0), (2, va_rf p1), (3, .int p2), (4, .int p3), (5, va_rf p4)]) hx hb dX8_add_18 hl (by decide) (by simp [va_rf_cat, va_cat_r, va_cat_i, va_cat_l, va_cat_d]) ?_; clear hl; intro ls hl
    refine lv_goto (tgt := 32) hx hb dX8_add_20 (by decide) ?_
    exact v_X8_add_j32 n C hR this p0 p1 p2 p3 p4 (some a33) w37 _ _ _ _ _ ⟨hZ.1, hZ.2.1, hZ.2.2.1, hZ.2.2.2.1, (List.forall_mem_cons.mpr ⟨⟨Nat.succ_ne_zero _, (fun q hq => by cases hq; exact (hZ.k 2 rfl rfl))⟩, (List.forall_mem_cons.mpr ⟨⟨Nat.succ_ne_zero _, (fun q hq => hZ.k 3 rfl hq)⟩, (List.forall_mem_cons.mpr ⟨⟨Nat.succ_ne_zero _, (fun q hq => hZ.k 4 rfl hq)⟩, (List.forall_mem_cons.mpr ⟨⟨Nat.succ_ne_zero _, (fun q hq => by cases hq; exact (hZ.k 0 rfl rfl))⟩, (fun _ hq => absurd hq List.not_mem_nil)⟩)⟩)⟩)⟩), hZ.2.2.2.2.2⟩ (lv_sub hl [1, 2, 3, 4, 5, 6, 0] rfl) hf

def f_X8_takeFirst_j31 (n : Nat) (x0 : Nat) (x1 : Option Nat) (w : Wd) : Option (Option Nat × Wd) :=
  wd_let (wd_sI w 801 x0 ((wd_I w 801 x0) - (1 : Int32))) fun w7 =>
  some (x1, w7)
def f_X8_takeFirst (n : Nat) (w : Wd) (this : Nat) : Option (Option Nat × Wd) :=
  wd_let (wd_R w 800 this) fun v1 =>
  wd_on v1 (
    some (none, w))
    (fun a3 =>
    wd_let (wd_sR w 800 this (wd_R w 6 a3)) fun w4 =>
    wd_on (wd_R w4 800 this) (
      wd_let (wd_sR w4 802 this none) fun w9 =>
      f_X8_takeFirst_j31 n this (some a3) w9)
      (fun a6 =>
      f_X8_takeFirst_j31 n this (some a3) w4))
set_option maxHeartbeats 4000000 in
set_option maxRecDepth 100000 in
theorem v_X8_takeFirst_j31 {p : Program} {l : Launch} {e : Env} {R : Room} {s : State} {m : MethodId} {args : Array Value} {below : List Frame} {meth : Method} {c : Code} {E : wd_E} {w0 : Wd} {r' : Option Nat} {w' : Wd} (n : Nat) (C : wd_X p s m args meth c cX8_takeFirst RX8 2 (some (.object "SeamarkNet$Frame")) "takeFirst" E) (hR : 0 ≤ R.frames ∧ 0 ≤ R.locals) (x0 : Nat) (x1 : Option Nat) (w : Wd) (H : Heap) (locs : List Loc) (cells slots : Nat) (ls : Array Slot) (hZ : wd_Z E w0 R s w H locs cells slots [(some x0, 9), (x1, 1)]) (hl : lv_has ls 2 [(0, .ref x0), (1, va_rf x1)]) (hf : f_X8_takeFirst_j31 n x0 x1 w = some (r', w')) : W p l e R s m args below meth c H locs cells slots (wd_fin E w0 (some (va_rf r')) w' (∀ q, r' = some q → wd_K w' q = 1) R args s below) (F0 m 31 ls []) := by
  obtain ⟨hx, hb, hr, hml, hts, hown, hlocks, hmn, hK⟩ := id C
  unfold f_X8_takeFirst_j31 at hf
  refine lv_aload_n (i := 0) hx hb dX8_takeFirst_31 rfl (lv_at hl 0 rfl) ?_
  refine lv_dup hx hb dX8_takeFirst_32 rfl ?_
  refine z_getI fd_801 rfl hx hb hts hown hK hZ (hZ.k 0 rfl rfl) tw_151 dX8_takeFirst_33 ?_
  refine lv_iconst (v := 1) hx hb dX8_takeFirst_36 (by decide) ?_
  refine lv_isub hx hb dX8_takeFirst_37 ?_
  refine z_putI fd_801 cok_8 rfl rfl rfl rfl rfl hx hb hts hown hK hZ (hZ.k 0 rfl rfl) tw_151 dX8_takeFirst_38 ?_; clear hZ; intro H locs hZ
  have hf9 := wd_let_e hf; clear hf; obtain ⟨w7, e8, hf⟩ := hf9
  rw [e8] at hZ
  refine z_aload_n (i := 1) hx hb dX8_takeFirst_41 rfl (lv_at hl 1 rfl) ?_
  obtain ⟨rfl, rfl⟩ := Prod.mk.inj (Option.some.inj hf)
  exact z_aret rfl hx hb hr hlocks hZ (fun q hq => hZ.k 1 rfl hq) dX8_takeFirst_42

set_option maxHeartbeats 4000000 in
set_option maxRecDepth 100000 in
theorem c_X8_takeFirst (l : Launch) (E : wd_E) (n : Nat) (w : Wd) (this : Nat) (r' : Option Nat) (w' : Wd) (k_this : wd_K w this = 9) (hf : f_X8_takeFirst n w this = some (r', w')) : wd_C l E yX8_takeFirst cX8_takeFirst 2 (some (.object "SeamarkNet$Frame")) 0 0 [.ref this] w (some (va_rf r')) w' (∀ q, r' = some q → wd_K w' q = 1) := by
  refine wd_ofW (own := RX8) (nm := "takeFirst") (ks := [(some this, 9)]) (lv := [(0, .ref this)]) (by decide) rfl rfl (Nat.le_of_ble_eq_true rfl) rfl (List.forall_mem_cons.mpr ⟨⟨Nat.succ_ne_zero _, fun q hq => by cases hq; exact k_this⟩, (fun _ hq => absurd hq List.not_mem_nil)⟩) ?_
  intro p e s m args below meth c R H locs cells slots ls C hR hZ hl
  obtain ⟨hx, hb, hr, hml, hts, hown, hlocks, hmn, hK⟩ := id C
  unfold f_X8_takeFirst at hf
  refine lv_aload_n (i := 0) hx hb dX8_takeFirst_0 rfl (lv_at hl 0 rfl) ?_
  refine z_getR (tk := 0) fd_800 rfl hx hb hts hown hK hZ (hZ.k 0 rfl rfl) tw_149 dX8_takeFirst_1 ?_; clear hZ; intro hZ
  have hf9 := wd_let_e hf; clear hf; obtain ⟨v1, e2, hf⟩ := hf9
  rw [e2]
  rw [e2] at hZ
  refine z_astore_n (i := 1) (lv' := [(1, va_rf v1), (0, .ref this)]) hx hb dX8_takeFirst_4 rfl hl (by decide) rfl ?_; clear hl; intro ls hl
  refine z_aload_n (i := 1) hx hb dX8_takeFirst_5 rfl (lv_at hl 0 rfl) ?_
  refine z_ifnonnull (tgt := 11) hx hb dX8_takeFirst_6 (by decide) (fun a3 ha3 => ?_) (fun hn => ?_)
  · replace hf := wd_on_s ha3 hf
    subst ha3
    replace hl : lv_has ls 2 [(1, .ref a3), (0, .ref this)] := hl
    replace hZ : wd_Z E w R s w H locs cells slots [(some a3, 1), (some this, 9)] := hZ
    refine lv_aload_n (i := 0) hx hb dX8_takeFirst_11 rfl (lv_at hl 1 rfl) ?_
    refine lv_aload_n (i := 1) hx hb dX8_takeFirst_12 rfl (lv_at hl 0 rfl) ?_
    refine z_getR (tk := 0) fd_6 rfl hx hb hts hown hK hZ (hZ.k 0 rfl rfl) tw_825 dX8_takeFirst_13 ?_; clear hZ; intro hZ
    refine z_putR (r := (wd_R w 6 a3)) rfl fd_800 cok_8 (tk := 0) rfl (fun q hq => hZ.k 0 rfl hq) rfl rfl (wd_obO _) hx hb hts hown hK hZ (hZ.k 2 rfl rfl) tw_149 dX8_takeFirst_16 ?_; clear hZ; intro H locs hZ
    have hf9 := wd_let_e hf; clear hf; obtain ⟨w4, e5, hf⟩ := hf9
    rw [e5] at hZ
    refine lv_aload_n (i := 0) hx hb dX8_takeFirst_19 rfl (lv_at hl 1 rfl) ?_
    refine z_getR (tk := 0) fd_800 rfl hx hb hts hown hK hZ (hZ.k 2 rfl rfl) tw_149 dX8_takeFirst_20 ?_; clear hZ; intro hZ
    refine z_ifnonnull (tgt := 31) hx hb dX8_takeFirst_23 (by decide) (fun a6 ha6 => ?_) (fun hn => ?_)
    · replace hf := wd_on_s ha6 hf
      exact v_X8_takeFirst_j31 n C hR this (some a3) w4 _ _ _ _ _ ⟨hZ.1, hZ.2.1, hZ.2.2.1, hZ.2.2.2.1, (List.forall_mem_cons.mpr ⟨⟨Nat.succ_ne_zero _, (fun q hq => by cases hq; exact (hZ.k 3 rfl rfl))⟩, (List.forall_mem_cons.mpr ⟨⟨Nat.succ_ne_zero _, (fun q hq => by cases hq; exact (hZ.k 2 rfl rfl))⟩, (fun _ hq => absurd hq List.not_mem_nil)⟩)⟩), hZ.2.2.2.2.2⟩ (lv_sub hl [1, 0] rfl) hf
    · replace hf := wd_on_n hn hf
      refine lv_aload_n (i := 0) hx hb dX8_takeFirst_26 rfl (lv_at hl 1 rfl) ?_
      refine z_null hx hb dX8_takeFirst_27 ?_
      refine z_putR (r := none) rfl fd_802 cok_8 (tk := 0) rfl (fun q hq => by cases hq) rfl rfl (wd_obO _) hx hb hts hown hK hZ (hZ.k 3 rfl rfl) tw_153 dX8_takeFirst_28 ?_; clear hZ; intro H locs hZ
      have hf9 := wd_let_e hf; clear hf; obtain ⟨w9, e10, hf⟩ := hf9
      rw [e10] at hZ
      exact v_X8_takeFirst_j31 n C hR this (some a3) w9 _ _ _ _ _ ⟨hZ.1, hZ.2.1, hZ.2.2.1, hZ.2.2.2.1, (List.forall_mem_cons.mpr ⟨⟨Nat.succ_ne_zero _, (fun q hq => by cases hq; exact (hZ.k 3 rfl rfl))⟩, (List.forall_mem_cons.mpr ⟨⟨Nat.succ_ne_zero _, (fun q hq => by cases hq; exact (hZ.k 2 rfl rfl))⟩, (fun _ hq => absurd hq List.not_mem_nil)⟩)⟩), hZ.2.2.2.2.2⟩ (lv_sub hl [1, 0] rfl) hf
  · replace hf := wd_on_n hn hf
    subst hn
    replace hl : lv_has ls 2 [(1, va_rf none), (0, .ref this)] := hl
    replace hZ : wd_Z E w R s w H locs cells slots [(none, 1), (some this, 9)] := hZ
    refine z_null hx hb dX8_takeFirst_9 ?_
    obtain ⟨rfl, rfl⟩ := Prod.mk.inj (Option.some.inj hf)
    exact z_aret rfl hx hb hr hlocks hZ (fun q hq => by cases hq) dX8_takeFirst_10

def f_X8_reuse (n : Nat) (w : Wd) (this : Nat) (p0 : Option Nat) : Option Wd :=
  Option.bind p0 fun a1 =>
  wd_let (wd_sR w 6 a1 (wd_R w 803 this)) fun w2 =>
  wd_let (wd_sR w2 803 this (some a1)) fun w4 =>
  some w4
set_option maxHeartbeats 4000000 in
set_option maxRecDepth 100000 in
theorem c_X8_reuse (l : Launch) (E : wd_E) (n : Nat) (w : Wd) (this : Nat) (p0 : Option Nat) (w' : Wd) (k_this : wd_K w this = 9) (k_p0 : ∀ q, p0 = some q → wd_K w q = 1) (hf : f_X8_reuse n w this p0 = some w') : wd_C l E yX8_reuse cX8_reuse 2 none 0 0 [.ref this, va_rf p0] w none w' True := by
  refine wd_ofW (own := RX8) (nm := "reuse") (ks := [(some this, 9), (p0, 1)]) (lv := [(0, .ref this), (1, va_rf p0)]) (by decide) rfl rfl (by simp [lg_sl, va_rf_cat, va_cat_r, va_cat_i, va_cat_l, va_cat_d]) (by simp [lv_args, va_rf_cat, va_cat_r, va_cat_i, va_cat_l, va_cat_d]) (List.forall_mem_cons.mpr ⟨⟨Nat.succ_ne_zero _, fun q hq => by cases hq; exact k_this⟩, (List.forall_mem_cons.mpr ⟨⟨Nat.succ_ne_zero _, k_p0⟩, (fun _ hq => absurd hq List.not_mem_nil)⟩)⟩) ?_
  intro p e s m args below meth c R H locs cells slots ls C hR hZ hl
  obtain ⟨hx, hb, hr, hml, hts, hown, hlocks, hmn, hK⟩ := id C
  unfold f_X8_reuse at hf
  refine z_aload_n (i := 1) hx hb dX8_reuse_0 rfl (lv_at hl 1 rfl) ?_
  refine lv_aload_n (i := 0) hx hb dX8_reuse_1 rfl (lv_at hl 0 rfl) ?_
  refine z_getR (tk := 0) fd_803 rfl hx hb hts hown hK hZ (hZ.k 0 rfl rfl) tw_154 dX8_reuse_2 ?_; clear hZ; intro hZ
  have hf9 := Option.bind_eq_some_iff.mp hf; clear hf; obtain ⟨a1, ha1, hf⟩ := hf9
  subst ha1
  replace hl : lv_has ls 2 [(0, .ref this), (1, .ref a1)] := hl
  replace hZ : wd_Z E w R s w H locs cells slots [((wd_R w 803 this), 1), (some this, 9), (some a1, 1)] := hZ
  refine z_putR (r := (wd_R w 803 this)) rfl fd_6 cok_0 (tk := 0) rfl (fun q hq => hZ.k 0 rfl hq) rfl rfl (wd_obO _) hx hb hts hown hK hZ (hZ.k 2 rfl rfl) tw_825 dX8_reuse_5 ?_; clear hZ; intro H locs hZ
  have hf9 := wd_let_e hf; clear hf; obtain ⟨w2, e3, hf⟩ := hf9
  rw [e3] at hZ
  refine lv_aload_n (i := 0) hx hb dX8_reuse_8 rfl (lv_at hl 0 rfl) ?_
  refine lv_aload_n (i := 1) hx hb dX8_reuse_9 rfl (lv_at hl 1 rfl) ?_
  refine z_putR (r := (some a1)) rfl fd_803 cok_8 (tk := 0) rfl (fun q hq => by cases hq; exact (hZ.k 2 rfl rfl)) rfl rfl (wd_obO _) hx hb hts hown hK hZ (hZ.k 1 rfl rfl) tw_154 dX8_reuse_10 ?_; clear hZ; intro H locs hZ
  have hf9 := wd_let_e hf; clear hf; obtain ⟨w4, e5, hf⟩ := hf9
  rw [e5] at hZ
  obtain rfl := Option.some.inj hf
  exact z_vret hx hb hr hlocks hZ trivial dX8_reuse_13

def f_X8_find_j12 (n : Nat) (w : Wd) : Option (Option Nat × Wd) :=
  some (none, w)
def f_X8_find_j41 (n : Nat) (x2 : Option Nat) (w : Wd) : Option (Option Nat × Wd) :=
  some (x2, w)
def f_X8_find_l21 (n : Nat) (rec21 : Int32 → Option Nat → Int32 → Wd → Option (Option Nat × Wd)) (x1 : Int32) (x2 : Option Nat) (x3 : Int32) (w : Wd) : Option (Option Nat × Wd) :=
  if x1 ≤ x3 then
    f_X8_find_j41 n x2 w
  else
    wd_on x2 (
      f_X8_find_j41 n none w)
      (fun a6 =>
      wd_let (wd_R w 6 a6) fun v7 =>
      wd_let (x3 + 1) fun v9 =>
      rec21 x1 v7 v9 w)
def f_X8_find (n : Nat) (w : Wd) (this : Nat) (p0 : Int32) : Option (Option Nat × Wd) :=
  if p0 < 0 then
    f_X8_find_j12 n w
  else
    if p0 < (wd_I w 801 this) then
      wd_let (wd_R w 800 this) fun v3 =>
      wd_lp4 (f_X8_find_l21 n) n p0 v3 (0 : Int32) w
    else
      f_X8_find_j12 n w
set_option maxHeartbeats 4000000 in
set_option maxRecDepth 100000 in
theorem v_X8_find_j12 {p : Program} {l : Launch} {e : Env} {R : Room} {s : State} {m : MethodId} {args : Array Value} {below : List Frame} {meth : Method} {c : Code} {E : wd_E} {w0 : Wd} {r' : Option Nat} {w' : Wd} (n : Nat) (C : wd_X p s m args meth c cX8_find RX8 4 (some (.object "SeamarkNet$Frame")) "find" E) (hR : 0 ≤ R.frames ∧ 0 ≤ R.locals) (w : Wd) (H : Heap) (locs : List Loc) (cells slots : Nat) (ls : Array Slot) (hZ : wd_Z E w0 R s w H locs cells slots []) (hl : lv_has ls 4 []) (hf : f_X8_find_j12 n w = some (r', w')) : W p l e R s m args below meth c H locs cells slots (wd_fin E w0 (some (va_rf r')) w' (∀ q, r' = some q → wd_K w' q = 1) R args s below) (F0 m 12 ls []) := by
  obtain ⟨hx, hb, hr, hml, hts, hown, hlocks, hmn, hK⟩ := id C
  unfold f_X8_find_j12 at hf
  refine z_null hx hb dX8_find_12 ?_
  obtain ⟨rfl, rfl⟩ := Prod.mk.inj (Option.some.inj hf)
  exact z_aret rfl hx hb hr hlocks hZ (fun q hq => by cases hq) dX8_find_13

set_option maxHeartbeats 4000000 in
set_option maxRecDepth 100000 in
theorem v_X8_find_j41 {p : Program} {l : Launch} {e : Env} {R : Room} {s : State} {m : MethodId} {args : Array Value} {below : List Frame} {meth : Method} {c : Code} {E : wd_E} {w0 : Wd} {r' : Option Nat} {w' : Wd} (n : Nat) (C : wd_X p s m args meth c cX8_find RX8 4 (some (.object "SeamarkNet$Frame")) "find" E) (hR : 0 ≤ R.frames ∧ 0 ≤ R.locals) (x2 : Option Nat) (w : Wd) (H : Heap) (locs : List Loc) (cells slots : Nat) (ls : Array Slot) (hZ : wd_Z E w0 R s w H locs cells slots [(x2, 1)]) (hl : lv_has ls 4 [(2, va_rf x2)]) (hf : f_X8_find_j41 n x2 w = some (r', w')) : W p l e R s m args below meth c H locs cells slots (wd_fin E w0 (some (va_rf r')) w' (∀ q, r' = some q → wd_K w' q = 1) R args s below) (F0 m 41 ls []) := by
  obtain ⟨hx, hb, hr, hml, hts, hown, hlocks, hmn, hK⟩ := id C
  unfold f_X8_find_j41 at hf
  refine z_aload_n (i := 2) hx hb dX8_find_41 rfl (lv_at hl 0 rfl) ?_
  obtain ⟨rfl, rfl⟩ := Prod.mk.inj (Option.some.inj hf)
  exact z_aret rfl hx hb hr hlocks hZ (fun q hq => hZ.k 0 rfl hq) dX8_find_42

set_option maxHeartbeats 4000000 in
set_option maxRecDepth 100000 in
theorem v_X8_find_b21 {p : Program} {l : Launch} {e : Env} {R : Room} {s : State} {m : MethodId} {args : Array Value} {below : List Frame} {meth : Method} {c : Code} {E : wd_E} {w0 : Wd} {r' : Option Nat} {w' : Wd} (n : Nat) (C : wd_X p s m args meth c cX8_find RX8 4 (some (.object "SeamarkNet$Frame")) "find" E) (hR : 0 ≤ R.frames ∧ 0 ≤ R.locals) (rec21 : Int32 → Option Nat → Int32 → Wd → Option (Option Nat × Wd)) (hrec21 : ∀ (x1_ : Int32) (x2_ : Option Nat) (x3_ : Int32) (w_ : Wd) (H : Heap) (locs : List Loc) (cells slots : Nat) (ls : Array Slot), wd_Z E w0 R s w_ H locs cells slots [(x2_, 1)] → lv_has ls 4 [(1, .int x1_), (2, va_rf x2_), (3, .int x3_)] → rec21 x1_ x2_ x3_ w_ = some (r', w') → W p l e R s m args below meth c H locs cells slots (wd_fin E w0 (some (va_rf r')) w' (∀ q, r' = some q → wd_K w' q = 1) R args s below) (F0 m 21 ls [])) (x1 : Int32) (x2 : Option Nat) (x3 : Int32) (w : Wd) (H : Heap) (locs : List Loc) (cells slots : Nat) (ls : Array Slot) (hZ : wd_Z E w0 R s w H locs cells slots [(x2, 1)]) (hl : lv_has ls 4 [(1, .int x1), (2, va_rf x2), (3, .int x3)]) (hf : f_X8_find_l21 n rec21 x1 x2 x3 w = some (r', w')) : W p l e R s m args below meth c H locs cells slots (wd_fin E w0 (some (va_rf r')) w' (∀ q, r' = some q → wd_K w' q = 1) R args s below) (F0 m 21 ls []) := by
  obtain ⟨hx, hb, hr, hml, hts, hown, hlocks, hmn, hK⟩ := id C
  unfold f_X8_find_l21 at hf
  refine lv_iload_n (i := 3) hx hb dX8_find_21 rfl (lv_at hl 2 rfl) ?_
  refine lv_iload_n (i := 1) hx hb dX8_find_22 rfl (lv_at hl 0 rfl) ?_
  refine lv_icmp_ge (tgt := 41) hx hb dX8_find_23 (by decide) (fun h5 => ?_) (fun h5 => ?_)
  · replace hf := wd_ite_p h5 hf
    exact v_X8_find_j41 n C hR x2 w _ _ _ _ _ ⟨hZ.1, hZ.2.1, hZ.2.2.1, hZ.2.2.2.1, (List.forall_mem_cons.mpr ⟨⟨Nat.succ_ne_zero _, (fun q hq => hZ.k 0 rfl hq)⟩, (fun _ hq => absurd hq List.not_mem_nil)⟩), hZ.2.2.2.2.2⟩ (lv_sub hl [1] rfl) hf
  · replace hf := wd_ite_n h5 hf
    refine z_aload_n (i := 2) hx hb dX8_find_26 rfl (lv_at hl 1 rfl) ?_
    refine z_ifnull (tgt := 41) hx hb dX8_find_27 (by decide) (fun hn => ?_) (fun a6 ha6 => ?_)
    · replace hf := wd_on_n hn hf
      subst hn
      replace hl : lv_has ls 4 [(1, .int x1), (2, va_rf none), (3, .int x3)] := hl
      replace hZ : wd_Z E w0 R s w H locs cells slots [(none, 1)] := hZ
      exact v_X8_find_j41 n C hR none w _ _ _ _ _ ⟨hZ.1, hZ.2.1, hZ.2.2.1, hZ.2.2.2.1, (List.forall_mem_cons.mpr ⟨⟨Nat.succ_ne_zero _, (fun q hq => by cases hq)⟩, (fun _ hq => absurd hq List.not_mem_nil)⟩), hZ.2.2.2.2.2⟩ (lv_sub hl [1] rfl) hf
    · replace hf := wd_on_s ha6 hf
      subst ha6
      replace hl : lv_has ls 4 [(1, .int x1), (2, .ref a6), (3, .int x3)] := hl
      replace hZ : wd_Z E w0 R s w H locs cells slots [(some a6, 1)] := hZ
      refine lv_aload_n (i := 2) hx hb dX8_find_30 rfl (lv_at hl 1 rfl) ?_
      refine z_getR (tk := 0) fd_6 rfl hx hb hts hown hK hZ (hZ.k 0 rfl rfl) tw_825 dX8_find_31 ?_; clear hZ; intro hZ
      have hf9 := wd_let_e hf; clear hf; obtain ⟨v7, e8, hf⟩ := hf9
      rw [e8]
      rw [e8] at hZ
      refine z_astore_n (i := 2) (lv' := [(2, va_rf v7), (1, .int x1), (3, .int x3)]) hx hb dX8_find_34 rfl hl (by decide) rfl ?_; clear hl; intro ls hl
      have hf9 := wd_let_e hf; clear hf; obtain ⟨v9, e10, hf⟩ := hf9
      refine lv_iinc (k := 2) (v := v9) (lv' := [(3, .int v9), (2, va_rf v7), (1, .int x1)]) hx hb dX8_find_35 hl rfl (by rw [← e10]; rfl) (by decide) (by simp [va_rf_cat, va_cat_r, va_cat_i, va_cat_l, va_cat_d]) ?_; clear hl; intro ls hl
      refine lv_goto (tgt := 21) hx hb dX8_find_38 (by decide) ?_
      exact hrec21 x1 v7 v9 w _ _ _ _ _ ⟨hZ.1, hZ.2.1, hZ.2.2.1, hZ.2.2.2.1, (List.forall_mem_cons.mpr ⟨⟨Nat.succ_ne_zero _, (fun q hq => hZ.k 0 rfl hq)⟩, (fun _ hq => absurd hq List.not_mem_nil)⟩), hZ.2.2.2.2.2⟩ (lv_sub hl [2, 1, 0] rfl) hf

theorem v_X8_find_l21 {p : Program} {l : Launch} {e : Env} {R : Room} {s : State} {m : MethodId} {args : Array Value} {below : List Frame} {meth : Method} {c : Code} {E : wd_E} {w0 : Wd} {r' : Option Nat} {w' : Wd} (n : Nat) (C : wd_X p s m args meth c cX8_find RX8 4 (some (.object "SeamarkNet$Frame")) "find" E) (hR : 0 ≤ R.frames ∧ 0 ≤ R.locals) : ∀ (k : Nat) (x1 : Int32) (x2 : Option Nat) (x3 : Int32) (w : Wd) (H : Heap) (locs : List Loc) (cells slots : Nat) (ls : Array Slot), wd_Z E w0 R s w H locs cells slots [(x2, 1)] → lv_has ls 4 [(1, .int x1), (2, va_rf x2), (3, .int x3)] → wd_lp4 (f_X8_find_l21 n) k x1 x2 x3 w = some (r', w') → W p l e R s m args below meth c H locs cells slots (wd_fin E w0 (some (va_rf r')) w' (∀ q, r' = some q → wd_K w' q = 1) R args s below) (F0 m 21 ls []) := by
  intro k
  induction k with
  | zero => intro _ _ _ _ _ _ _ _ _ _ _ hf; cases hf
  | succ k ih =>
    intro x1 x2 x3 w H locs cells slots ls hZ hl hf
    exact v_X8_find_b21 n C hR (wd_lp4 (f_X8_find_l21 n) k) ih x1 x2 x3 w H locs cells slots ls hZ hl hf

set_option maxHeartbeats 4000000 in
set_option maxRecDepth 100000 in
theorem c_X8_find (l : Launch) (E : wd_E) (n : Nat) (w : Wd) (this : Nat) (p0 : Int32) (r' : Option Nat) (w' : Wd) (k_this : wd_K w this = 9) (hf : f_X8_find n w this p0 = some (r', w')) : wd_C l E yX8_find cX8_find 4 (some (.object "SeamarkNet$Frame")) 0 0 [.ref this, .int p0] w (some (va_rf r')) w' (∀ q, r' = some q → wd_K w' q = 1) := by
  refine wd_ofW (own := RX8) (nm := "find") (ks := [(some this, 9)]) (lv := [(0, .ref this), (1, .int p0)]) (by decide) rfl rfl (Nat.le_of_ble_eq_true rfl) rfl (List.forall_mem_cons.mpr ⟨⟨Nat.succ_ne_zero _, fun q hq => by cases hq; exact k_this⟩, (fun _ hq => absurd hq List.not_mem_nil)⟩) ?_
  intro p e s m args below meth c R H locs cells slots ls C hR hZ hl
  obtain ⟨hx, hb, hr, hml, hts, hown, hlocks, hmn, hK⟩ := id C
  unfold f_X8_find at hf
  refine lv_iload_n (i := 1) hx hb dX8_find_0 rfl (lv_at hl 1 rfl) ?_
  refine lv_if_lt (tgt := 12) hx hb dX8_find_1 (by decide) (fun h1 => ?_) (fun h1 => ?_)
  · replace hf := wd_ite_p h1 hf
    exact v_X8_find_j12 n C hR w _ _ _ _ _ ⟨hZ.1, hZ.2.1, hZ.2.2.1, hZ.2.2.2.1, (fun _ hq => absurd hq List.not_mem_nil), hZ.2.2.2.2.2⟩ (lv_sub hl [] rfl) hf
  · replace hf := wd_ite_n h1 hf
    refine lv_iload_n (i := 1) hx hb dX8_find_4 rfl (lv_at hl 1 rfl) ?_
    refine lv_aload_n (i := 0) hx hb dX8_find_5 rfl (lv_at hl 0 rfl) ?_
    refine z_getI fd_801 rfl hx hb hts hown hK hZ (hZ.k 0 rfl rfl) tw_151 dX8_find_6 ?_
    refine lv_icmp_lt (tgt := 14) hx hb dX8_find_9 (by decide) (fun h2 => ?_) (fun h2 => ?_)
    · replace hf := wd_ite_p h2 hf
      refine lv_aload_n (i := 0) hx hb dX8_find_14 rfl (lv_at hl 0 rfl) ?_
      refine z_getR (tk := 0) fd_800 rfl hx hb hts hown hK hZ (hZ.k 0 rfl rfl) tw_149 dX8_find_15 ?_; clear hZ; intro hZ
      have hf9 := wd_let_e hf; clear hf; obtain ⟨v3, e4, hf⟩ := hf9
      rw [e4]
      rw [e4] at hZ
      refine z_astore_n (i := 2) (lv' := [(2, va_rf v3), (0, .ref this), (1, .int p0)]) hx hb dX8_find_18 rfl hl (by decide) rfl ?_; clear hl; intro ls hl
      refine lv_iconst (v := 0) hx hb dX8_find_19 (by decide) ?_
      refine lv_istore_n (i := 3) (lv' := [(3, .int (0 : Int32)), (2, va_rf v3), (0, .ref this), (1, .int p0)]) hx hb dX8_find_20 rfl hl (by decide) (by simp [va_rf_cat, va_cat_r, va_cat_i, va_cat_l, va_cat_d]) ?_; clear hl; intro ls hl
      exact v_X8_find_l21 n C hR n p0 v3 (0 : Int32) w _ _ _ _ _ ⟨hZ.1, hZ.2.1, hZ.2.2.1, hZ.2.2.2.1, (List.forall_mem_cons.mpr ⟨⟨Nat.succ_ne_zero _, (fun q hq => hZ.k 0 rfl hq)⟩, (fun _ hq => absurd hq List.not_mem_nil)⟩), hZ.2.2.2.2.2⟩ (lv_sub hl [3, 1, 0] rfl) hf
    · replace hf := wd_ite_n h2 hf
      exact v_X8_find_j12 n C hR w _ _ _ _ _ ⟨hZ.1, hZ.2.1, hZ.2.2.1, hZ.2.2.2.1, (fun _ hq => absurd hq List.not_mem_nil), hZ.2.2.2.2.2⟩ (lv_sub hl [] rfl) hf

def f_X8_clear_j26 (n : Nat) (x0 : Nat) (w : Wd) : Option Wd :=
  wd_let (wd_sR w 800 x0 none) fun w2 =>
  wd_let (wd_sR w2 802 x0 none) fun w4 =>
  wd_let (wd_sI w4 801 x0 (0 : Int32)) fun w6 =>
  some w6
def f_X8_clear (n : Nat) (w : Wd) (this : Nat) : Option Wd :=
  wd_on (wd_R w 802 this) (
    f_X8_clear_j26 n this w)
    (fun a1 =>
    Option.bind (wd_R w 802 this) fun a8 =>
    wd_let (wd_sR w 6 a8 (wd_R w 803 this)) fun w9 =>
    wd_let (wd_sR w9 803 this (wd_R w9 800 this)) fun w11 =>
    f_X8_clear_j26 n this w11)
set_option maxHeartbeats 4000000 in
set_option maxRecDepth 100000 in
theorem v_X8_clear_j26 {p : Program} {l : Launch} {e : Env} {R : Room} {s : State} {m : MethodId} {args : Array Value} {below : List Frame} {meth : Method} {c : Code} {E : wd_E} {w0 : Wd} {w' : Wd} (n : Nat) (C : wd_X p s m args meth c cX8_clear RX8 1 none "clear" E) (hR : 0 ≤ R.frames ∧ 0 ≤ R.locals) (x0 : Nat) (w : Wd) (H : Heap) (locs : List Loc) (cells slots : Nat) (ls : Array Slot) (hZ : wd_Z E w0 R s w H locs cells slots [(some x0, 9)]) (hl : lv_has ls 1 [(0, .ref x0)]) (hf : f_X8_clear_j26 n x0 w = some w') : W p l e R s m args below meth c H locs cells slots (wd_fin E w0 none w' True R args s below) (F0 m 26 ls []) := by
  obtain ⟨hx, hb, hr, hml, hts, hown, hlocks, hmn, hK⟩ := id C
  unfold f_X8_clear_j26 at hf
  refine lv_aload_n (i := 0) hx hb dX8_clear_26 rfl (lv_at hl 0 rfl) ?_
  refine z_null hx hb dX8_clear_27 ?_
  refine z_putR (r := none) rfl fd_800 cok_8 (tk := 0) rfl (fun q hq => by cases hq) rfl rfl (wd_obO _) hx hb hts hown hK hZ (hZ.k 0 rfl rfl) tw_149 dX8_clear_28 ?_; clear hZ; intro H locs hZ
  have hf9 := wd_let_e hf; clear hf; obtain ⟨w2, e3, hf⟩ := hf9
  rw [e3] at hZ
  refine lv_aload_n (i := 0) hx hb dX8_clear_31 rfl (lv_at hl 0 rfl) ?_
  refine z_null hx hb dX8_clear_32 ?_
  refine z_putR (r := none) rfl fd_802 cok_8 (tk := 0) rfl (fun q hq => by cases hq) rfl rfl (wd_obO _) hx hb hts hown hK hZ (hZ.k 0 rfl rfl) tw_153 dX8_clear_33 ?_; clear hZ; intro H locs hZ
  have hf9 := wd_let_e hf; clear hf; obtain ⟨w4, e5, hf⟩ := hf9
  rw [e5] at hZ
  refine lv_aload_n (i := 0) hx hb dX8_clear_36 rfl (lv_at hl 0 rfl) ?_
  refine lv_iconst (v := 0) hx hb dX8_clear_37 (by decide) ?_
  refine z_putI fd_801 cok_8 rfl rfl rfl rfl rfl hx hb hts hown hK hZ (hZ.k 0 rfl rfl) tw_151 dX8_clear_38 ?_; clear hZ; intro H locs hZ
  have hf9 := wd_let_e hf; clear hf; obtain ⟨w6, e7, hf⟩ := hf9
  rw [e7] at hZ
  obtain rfl := Option.some.inj hf
  exact z_vret hx hb hr hlocks hZ trivial dX8_clear_41

set_option maxHeartbeats 4000000 in
set_option maxRecDepth 100000 in
theorem c_X8_clear (l : Launch) (E : wd_E) (n : Nat) (w : Wd) (this : Nat) (w' : Wd) (k_this : wd_K w this = 9) (hf : f_X8_clear n w this = some w') : wd_C l E yX8_clear cX8_clear 1 none 0 0 [.ref this] w none w' True := by
  refine wd_ofW (own := RX8) (nm := "clear") (ks := [(some this, 9)]) (lv := [(0, .ref this)]) (by decide) rfl rfl (Nat.le_of_ble_eq_true rfl) rfl (List.forall_mem_cons.mpr ⟨⟨Nat.succ_ne_zero _, fun q hq => by cases hq; exact k_this⟩, (fun _ hq => absurd hq List.not_mem_nil)⟩) ?_
  intro p e s m args below meth c R H locs cells slots ls C hR hZ hl
  obtain ⟨hx, hb, hr, hml, hts, hown, hlocks, hmn, hK⟩ := id C
  unfold f_X8_clear at hf
  refine lv_aload_n (i := 0) hx hb dX8_clear_0 rfl (lv_at hl 0 rfl) ?_
  refine z_getR (tk := 0) fd_802 rfl hx hb hts hown hK hZ (hZ.k 0 rfl rfl) tw_153 dX8_clear_1 ?_; clear hZ; intro hZ
  refine z_ifnull (tgt := 26) hx hb dX8_clear_4 (by decide) (fun hn => ?_) (fun a1 ha1 => ?_)
  · replace hf := wd_on_n hn hf
    exact v_X8_clear_j26 n C hR this w _ _ _ _ _ ⟨hZ.1, hZ.2.1, hZ.2.2.1, hZ.2.2.2.1, (List.forall_mem_cons.mpr ⟨⟨Nat.succ_ne_zero _, (fun q hq => by cases hq; exact (hZ.k 1 rfl rfl))⟩, (fun _ hq => absurd hq List.not_mem_nil)⟩), hZ.2.2.2.2.2⟩ (lv_sub hl [0] rfl) hf
  · replace hf := wd_on_s ha1 hf
    refine lv_aload_n (i := 0) hx hb dX8_clear_7 rfl (lv_at hl 0 rfl) ?_
    refine z_getR (tk := 0) fd_802 rfl hx hb hts hown hK hZ (hZ.k 1 rfl rfl) tw_153 dX8_clear_8 ?_; clear hZ; intro hZ
    refine lv_aload_n (i := 0) hx hb dX8_clear_11 rfl (lv_at hl 0 rfl) ?_
    refine z_getR (tk := 0) fd_803 rfl hx hb hts hown hK hZ (hZ.k 2 rfl rfl) tw_154 dX8_clear_12 ?_; clear hZ; intro hZ
    have hf9 := Option.bind_eq_some_iff.mp hf; clear hf; obtain ⟨a8, ha8, hf⟩ := hf9
    replace hZ := hZ.add (r := some a8) (k := 1) (Nat.succ_ne_zero _) (fun q hq => by cases hq; exact hZ.k 1 rfl ha8)
    rw [ha8]
    refine z_putR (r := (wd_R w 803 this)) rfl fd_6 cok_0 (tk := 0) rfl (fun q hq => hZ.k 1 rfl hq) rfl rfl (wd_obO _) hx hb hts hown hK hZ (hZ.k 0 rfl rfl) tw_825 dX8_clear_15 ?_; clear hZ; intro H locs hZ
    have hf9 := wd_let_e hf; clear hf; obtain ⟨w9, e10, hf⟩ := hf9
    rw [e10] at hZ
    refine lv_aload_n (i := 0) hx hb dX8_clear_18 rfl (lv_at hl 0 rfl) ?_
    refine lv_aload_n (i := 0) hx hb dX8_clear_19 rfl (lv_at hl 0 rfl) ?_
    refine z_getR (tk := 0) fd_800 rfl hx hb hts hown hK hZ (hZ.k 4 rfl rfl) tw_149 dX8_clear_20 ?_; clear hZ; intro hZ
    refine z_putR (r := (wd_R w9 800 this)) rfl fd_803 cok_8 (tk := 0) rfl (fun q hq => hZ.k 0 rfl hq) rfl rfl (wd_obO _) hx hb hts hown hK hZ (hZ.k 5 rfl rfl) tw_154 dX8_clear_23 ?_; clear hZ; intro H locs hZ
    have hf9 := wd_let_e hf; clear hf; obtain ⟨w11, e12, hf⟩ := hf9
    rw [e12] at hZ
    exact v_X8_clear_j26 n C hR this w11 _ _ _ _ _ ⟨hZ.1, hZ.2.1, hZ.2.2.1, hZ.2.2.2.1, (List.forall_mem_cons.mpr ⟨⟨Nat.succ_ne_zero _, (fun q hq => by cases hq; exact (hZ.k 5 rfl rfl))⟩, (fun _ hq => absurd hq List.not_mem_nil)⟩), hZ.2.2.2.2.2⟩ (lv_sub hl [0] rfl) hf

def f_X9_init_l50 (n : Nat) (rec50 : Nat → Option Nat → Int32 → Wd → Option Wd) (x0 : Nat) (x1 : Option Nat) (x2 : Int32) (w : Wd) : Option Wd :=
  if (8 : Int32) ≤ x2 then
    some w
  else
    wd_gd (wd_M w = 0 ∨ wd_S w < 10) <|
    wd_let (wd_H w) fun a37 =>
    wd_let (wd_nw w 3 0 10) fun w39 =>
    Option.bind x1 fun a41 =>
    Option.bind (wd_R w39 502 a41) fun a42 =>
    wd_gd (x2 < 0 ∨ wd_N w39 a42 ≤ x2.toNatClampNeg) <|
    Option.bind (f_X2_init n w39 a37 (wd_Q w39 a42 x2.toNatClampNeg)) fun w44 =>
    Option.bind (wd_R w 906 x0) fun a46 =>
    wd_gd (x2 < 0 ∨ wd_N w44 a46 ≤ x2.toNatClampNeg) <|
    wd_let (wd_sQ w44 a46 x2.toNatClampNeg (some a37)) fun w48 =>
    wd_let (x2 + 1) fun v50 =>
    rec50 x0 (some a41) v50 w48
def f_X9_init (n : Nat) (w : Wd) (this : Nat) (p0 : Option Nat) : Option Wd :=
  wd_gd (wd_M w = 0 ∨ wd_S w < 4) <|
  wd_let (wd_H w) fun a2 =>
  wd_let (wd_nw w 9 0 4) fun w4 =>
  Option.bind (f_X8_init n w4 a2) fun w6 =>
  wd_let (wd_sR w6 900 this (some a2)) fun w8 =>
  wd_gd (wd_M w8 = 0 ∨ wd_S w8 < 2) <|
  wd_let (wd_H w8) fun a11 =>
  wd_let (wd_nw w8 7 0 2) fun w13 =>
  Option.bind (f_X6_init n w13 a11) fun w15 =>
  wd_let (wd_sR w15 905 this (some a11)) fun w17 =>
  wd_gd (wd_M w17 = 0 ∨ wd_S w17 < 8) <|
  wd_let (wd_H w17) fun a20 =>
  wd_let (wd_nw w17 24 8 8) fun w22 =>
  wd_let (wd_sR w22 906 this (some a20)) fun w24 =>
  wd_gd (wd_M w24 = 0 ∨ wd_S w24 < 8) <|
  wd_let (wd_H w24) fun a27 =>
  wd_let (wd_nw w24 21 8 8) fun w29 =>
  wd_let (wd_sR w29 907 this (some a27)) fun w31 =>
  wd_let (wd_sR w31 904 this p0) fun w33 =>
  wd_lp4 (f_X9_init_l50 n) n this p0 (0 : Int32) w33
set_option maxHeartbeats 4000000 in
set_option maxRecDepth 100000 in
theorem v_X9_init_b50 {p : Program} {l : Launch} {e : Env} {R : Room} {s : State} {m : MethodId} {args : Array Value} {below : List Frame} {meth : Method} {c : Code} {E : wd_E} {w0 : Wd} {w' : Wd} (n : Nat) (C : wd_X p s m args meth c cX9_init RX9 3 none "<init>" E) (hR : 3 ≤ R.frames ∧ 66 ≤ R.locals) (rec50 : Nat → Option Nat → Int32 → Wd → Option Wd) (hrec50 : ∀ (x0_ : Nat) (x1_ : Option Nat) (x2_ : Int32) (w_ : Wd) (H : Heap) (locs : List Loc) (cells slots : Nat) (ls : Array Slot), wd_Z E w0 R s w_ H locs cells slots [(some x0_, 10), (x1_, 6)] → lv_has ls 3 [(0, .ref x0_), (1, va_rf x1_), (2, .int x2_)] → rec50 x0_ x1_ x2_ w_ = some w' → W p l e R s m args below meth c H locs cells slots (wd_fin E w0 none w' True R args s below) (F0 m 50 ls [])) (x0 : Nat) (x1 : Option Nat) (x2 : Int32) (w : Wd) (H : Heap) (locs : List Loc) (cells slots : Nat) (ls : Array Slot) (hZ : wd_Z E w0 R s w H locs cells slots [(some x0, 10), (x1, 6)]) (hl : lv_has ls 3 [(0, .ref x0), (1, va_rf x1), (2, .int x2)]) (hf : f_X9_init_l50 n rec50 x0 x1 x2 w = some w') : W p l e R s m args below meth c H locs cells slots (wd_fin E w0 none w' True R args s below) (F0 m 50 ls []) := by
  obtain ⟨hx, hb, hr, hml, hts, hown, hlocks, hmn, hK⟩ := id C
  unfold f_X9_init_l50 at hf
  refine lv_iload_n (i := 2) hx hb dX9_init_50 rfl (lv_at hl 2 rfl) ?_
  refine lv_bipush (v := 8) hx hb dX9_init_51 (by decide) ?_
  refine lv_icmp_ge (tgt := 81) hx hb dX9_init_53 (by decide) (fun h35 => ?_) (fun h35 => ?_)
  · replace hf := wd_ite_p h35 hf
    obtain rfl := Option.some.inj hf
    exact z_vret hx hb hr hlocks hZ trivial dX9_init_81
  · replace hf := wd_ite_n h35 hf
    refine lv_aload_n (i := 0) hx hb dX9_init_56 rfl (lv_at hl 0 rfl) ?_
    refine z_getR (tk := 23) fd_906 rfl hx hb hts hown hK hZ (hZ.k 0 rfl rfl) tw_253 dX9_init_57 ?_; clear hZ; intro hZ
    refine lv_iload_n (i := 2) hx hb dX9_init_60 rfl (lv_at hl 2 rfl) ?_
    have hf9 := wd_gd_e hf; clear hf; obtain ⟨h36, hf⟩ := hf9
    refine z_new cok_2 hx hb hts hown hK hZ tw_177 tw_179 tw_34 h36 dX9_init_61 ?_; clear hZ; intro H cells slots hZ
    have hf9 := wd_let_e hf; clear hf; obtain ⟨a37, e38, hf⟩ := hf9
    rw [e38]
    rw [e38] at hZ
    have hf9 := wd_let_e hf; clear hf; obtain ⟨w39, e40, hf⟩ := hf9
    rw [e40] at hZ
    refine lv_dup hx hb dX9_init_64 rfl ?_
    refine z_aload_n (i := 1) hx hb dX9_init_65 rfl (lv_at hl 1 rfl) ?_
    have hf9 := Option.bind_eq_some_iff.mp hf; clear hf; obtain ⟨a41, ha41, hf⟩ := hf9
    subst ha41
    replace hl : lv_has ls 3 [(0, .ref x0), (1, .ref a41), (2, .int x2)] := hl
    replace hZ : wd_Z E w0 R s w39 H locs cells slots [(some a37, 3), ((wd_R w 906 x0), 24), (some x0, 10), (some a41, 6)] := hZ
    refine z_getRN (tk := 22) fd_502 rfl hx hb hts hown hK hZ (hZ.k 3 rfl rfl) hK.2.2.2.1.2.2.2.2.2 dX9_init_66 ?_; clear hZ; intro hZ
    refine lv_iload_n (i := 2) hx hb dX9_init_69 rfl (lv_at hl 2 rfl) ?_
    have hf9 := Option.bind_eq_some_iff.mp hf; clear hf; obtain ⟨a42, ha42, hf⟩ := hf9
    replace hZ := hZ.add (r := some a42) (k := 23) (Nat.succ_ne_zero _) (fun q hq => by cases hq; exact hZ.k 0 rfl ha42)
    rw [ha42]
    have hf9 := wd_gd_e hf; clear hf; obtain ⟨h43, hf⟩ := hf9
    refine z_aald (k := 23) (by decide) (by decide) (tk := 3) rfl hx hb hK hZ (hZ.k 0 rfl rfl) h43 dX9_init_70 ?_; clear hZ; intro hZ
    have hf9 := Option.bind_eq_some_iff.mp hf; clear hf; obtain ⟨w44, hc45, hf⟩ := hf9
    refine z_callI (As := [va_rf (wd_Q w39 a42 x2.toNatClampNeg)]) (rest := [.ref a37, .int x2, va_rf (wd_R w 906 x0)]) (c_X2_init l E n w39 a37 (wd_Q w39 a42 x2.toNatClampNeg) w44 (hZ.k 3 rfl rfl) (fun q hq => hZ.k 0 rfl hq) hc45) mo_X2_init rfl tw_181 tw_180 hx hb hml hts hown hK ⟨Nat.le_trans (by decide) hR.1, Nat.le_trans (by decide) hR.2⟩ hZ rfl hl.1 rfl (by simp [va_rf_cat, va_cat_r, va_cat_i, va_cat_l, va_cat_d]) dX9_init_71 ?_; clear hZ; intro H locs cells slots hX hZ
    have hf9 := Option.bind_eq_some_iff.mp hf; clear hf; obtain ⟨a46, ha46, hf⟩ := hf9
    replace hZ := hZ.add (r := some a46) (k := 24) (Nat.succ_ne_zero _) (fun q hq => by cases hq; exact hZ.k 4 rfl ha46)
    rw [ha46]
    have hf9 := wd_gd_e hf; clear hf; obtain ⟨h47, hf⟩ := hf9
    refine z_aast (k := 24) (ci := 2) (by decide) (by decide) rfl rfl (by decide) rfl hx hb hK hZ (hZ.k 0 rfl rfl) (hZ.k 4 rfl rfl) h47 dX9_init_74 ?_; clear hZ; intro H locs hZ
    have hf9 := wd_let_e hf; clear hf; obtain ⟨w48, e49, hf⟩ := hf9
    rw [e49] at hZ
    have hf9 := wd_let_e hf; clear hf; obtain ⟨v50, e51, hf⟩ := hf9
    refine lv_iinc (k := 2) (v := v50) (lv' := [(2, .int v50), (0, .ref x0), (1, .ref a41)]) hx hb dX9_init_75 hl rfl (by rw [← e51]; rfl) (by decide) rfl ?_; clear hl; intro ls hl
    refine lv_goto (tgt := 50) hx hb dX9_init_78 (by decide) ?_
    exact hrec50 x0 (some a41) v50 w48 _ _ _ _ _ ⟨hZ.1, hZ.2.1, hZ.2.2.1, hZ.2.2.2.1, (List.forall_mem_cons.mpr ⟨⟨Nat.succ_ne_zero _, (fun q hq => by cases hq; exact (hZ.k 6 rfl rfl))⟩, (List.forall_mem_cons.mpr ⟨⟨Nat.succ_ne_zero _, (fun q hq => by cases hq; exact (hZ.k 7 rfl rfl))⟩, (fun _ hq => absurd hq List.not_mem_nil)⟩)⟩), hZ.2.2.2.2.2⟩ (lv_sub hl [1, 2, 0] rfl) hf

theorem v_X9_init_l50 {p : Program} {l : Launch} {e : Env} {R : Room} {s : State} {m : MethodId} {args : Array Value} {below : List Frame} {meth : Method} {c : Code} {E : wd_E} {w0 : Wd} {w' : Wd} (n : Nat) (C : wd_X p s m args meth c cX9_init RX9 3 none "<init>" E) (hR : 3 ≤ R.frames ∧ 66 ≤ R.locals) : ∀ (k : Nat) (x0 : Nat) (x1 : Option Nat) (x2 : Int32) (w : Wd) (H : Heap) (locs : List Loc) (cells slots : Nat) (ls : Array Slot), wd_Z E w0 R s w H locs cells slots [(some x0, 10), (x1, 6)] → lv_has ls 3 [(0, .ref x0), (1, va_rf x1), (2, .int x2)] → wd_lp4 (f_X9_init_l50 n) k x0 x1 x2 w = some w' → W p l e R s m args below meth c H locs cells slots (wd_fin E w0 none w' True R args s below) (F0 m 50 ls []) := by
  intro k
  induction k with
  | zero => intro _ _ _ _ _ _ _ _ _ _ _ hf; cases hf
  | succ k ih =>
    intro x0 x1 x2 w H locs cells slots ls hZ hl hf
    exact v_X9_init_b50 n C hR (wd_lp4 (f_X9_init_l50 n) k) ih x0 x1 x2 w H locs cells slots ls hZ hl hf

set_option maxHeartbeats 4000000 in
set_option maxRecDepth 100000 in
theorem c_X9_init (l : Launch) (E : wd_E) (n : Nat) (w : Wd) (this : Nat) (p0 : Option Nat) (w' : Wd) (k_this : wd_K w this = 10) (k_p0 : ∀ q, p0 = some q → wd_K w q = 6) (hf : f_X9_init n w this p0 = some w') : wd_C l E yX9_init cX9_init 3 none 3 66 [.ref this, va_rf p0] w none w' True := by
  refine wd_ofW (own := RX9) (nm := "<init>") (ks := [(some this, 10), (p0, 6)]) (lv := [(0, .ref this), (1, va_rf p0)]) (by decide) rfl rfl (by simp [lg_sl, va_rf_cat, va_cat_r, va_cat_i, va_cat_l, va_cat_d]) (by simp [lv_args, va_rf_cat, va_cat_r, va_cat_i, va_cat_l, va_cat_d]) (List.forall_mem_cons.mpr ⟨⟨Nat.succ_ne_zero _, fun q hq => by cases hq; exact k_this⟩, (List.forall_mem_cons.mpr ⟨⟨Nat.succ_ne_zero _, k_p0⟩, (fun _ hq => absurd hq List.not_mem_nil)⟩)⟩) ?_
  intro p e s m args below meth c R H locs cells slots ls C hR hZ hl
  obtain ⟨hx, hb, hr, hml, hts, hown, hlocks, hmn, hK⟩ := id C
  unfold f_X9_init at hf
  refine lv_aload_n (i := 0) hx hb dX9_init_0 rfl (lv_at hl 0 rfl) ?_
  refine W.objInit hx hb hown (hts _ tw_142) (hts _ tw_54) (hts _ tw_55) rfl (by rw [hml]; exact hl.1) rfl dX9_init_1 (Nat.le_trans (by decide) hR.1) (Nat.le_trans (Nat.le_of_ble_eq_true rfl) hR.2) ?_
  refine W.eq (g2 := F0 m 4 ls []) rfl ?_
  refine lv_aload_n (i := 0) hx hb dX9_init_4 rfl (lv_at hl 0 rfl) ?_
  have hf9 := wd_gd_e hf; clear hf; obtain ⟨h1, hf⟩ := hf9
  refine z_new cok_8 hx hb hts hown hK hZ tw_143 tw_144 tw_32 h1 dX9_init_5 ?_; clear hZ; intro H cells slots hZ
  have hf9 := wd_let_e hf; clear hf; obtain ⟨a2, e3, hf⟩ := hf9
  rw [e3]
  rw [e3] at hZ
  have hf9 := wd_let_e hf; clear hf; obtain ⟨w4, e5, hf⟩ := hf9
  rw [e5] at hZ
  refine lv_dup hx hb dX9_init_8 rfl ?_
  have hf9 := Option.bind_eq_some_iff.mp hf; clear hf; obtain ⟨w6, hc7, hf⟩ := hf9
  refine z_callIN (As := []) (rest := [.ref a2, .ref this]) (c_X8_init l E n w4 a2 w6 (hZ.k 0 rfl rfl) hc7) mo_X8_init rfl tw_146 hK.2.2.2.1.2.2.2.1 hx hb hml hts hown hK ⟨Nat.le_trans (by decide) hR.1, Nat.le_trans (by decide) hR.2⟩ hZ rfl hl.1 rfl (Nat.le_of_ble_eq_true rfl) dX9_init_9 ?_; clear hZ; intro H locs cells slots hX hZ
  refine z_putFR (r := (some a2)) rfl hmn rfl fd_900 cok_9 (tk := 8) rfl (fun q hq => by cases hq; exact (hZ.k 0 rfl rfl)) rfl rfl (wd_obO _) hx hb hts hown hK hZ (hZ.k 1 rfl rfl) tw_243 dX9_init_12 ?_; clear hZ; intro H locs hZ
  have hf9 := wd_let_e hf; clear hf; obtain ⟨w8, e9, hf⟩ := hf9
  rw [e9] at hZ
  refine lv_aload_n (i := 0) hx hb dX9_init_15 rfl (lv_at hl 0 rfl) ?_
  have hf9 := wd_gd_e hf; clear hf; obtain ⟨h10, hf⟩ := hf9
  refine z_new cok_6 hx hb hts hown hK hZ tw_164 tw_165 tw_33 h10 dX9_init_16 ?_; clear hZ; intro H cells slots hZ
  have hf9 := wd_let_e hf; clear hf; obtain ⟨a11, e12, hf⟩ := hf9
  rw [e12]
  rw [e12] at hZ
  have hf9 := wd_let_e hf; clear hf; obtain ⟨w13, e14, hf⟩ := hf9
  rw [e14] at hZ
  refine lv_dup hx hb dX9_init_19 rfl ?_
  have hf9 := Option.bind_eq_some_iff.mp hf; clear hf; obtain ⟨w15, hc16, hf⟩ := hf9
  refine z_callIN (As := []) (rest := [.ref a11, .ref this]) (c_X6_init l E n w13 a11 w15 (hZ.k 0 rfl rfl) hc16) mo_X6_init rfl tw_167 hK.2.2.2.1.2.2.2.2.1 hx hb hml hts hown hK ⟨Nat.le_trans (by decide) hR.1, Nat.le_trans (by decide) hR.2⟩ hZ rfl hl.1 rfl (Nat.le_of_ble_eq_true rfl) dX9_init_20 ?_; clear hZ; intro H locs cells slots hX hZ
  refine z_putFR (r := (some a11)) rfl hmn rfl fd_905 cok_9 (tk := 6) rfl (fun q hq => by cases hq; exact (hZ.k 0 rfl rfl)) rfl rfl (wd_obO _) hx hb hts hown hK hZ (hZ.k 2 rfl rfl) tw_252 dX9_init_23 ?_; clear hZ; intro H locs hZ
  have hf9 := wd_let_e hf; clear hf; obtain ⟨w17, e18, hf⟩ := hf9
  rw [e18] at hZ
  refine lv_aload_n (i := 0) hx hb dX9_init_26 rfl (lv_at hl 0 rfl) ?_
  refine lv_bipush (v := 8) hx hb dX9_init_27 (by decide) ?_
  have hf9 := wd_gd_e hf; clear hf; obtain ⟨h19, hf⟩ := hf9
  refine z_anew (k := 24) (N := 8) (by decide) (by decide) rfl hK.2.2.1.2.2.1 hx hb hts hown hK hZ tw_177 (by decide) (by decide) (by decide) h19 dX9_init_29 ?_; clear hZ; intro H cells slots hZ
  have hf9 := wd_let_e hf; clear hf; obtain ⟨a20, e21, hf⟩ := hf9
  rw [e21]
  rw [e21] at hZ
  have hf9 := wd_let_e hf; clear hf; obtain ⟨w22, e23, hf⟩ := hf9
  rw [e23] at hZ
  refine z_putFR (r := (some a20)) rfl hmn rfl fd_906 cok_9 (tk := 23) rfl (fun q hq => by cases hq; exact (hZ.k 0 rfl rfl)) rfl rfl (wd_obA _) hx hb hts hown hK hZ (hZ.k 3 rfl rfl) tw_253 dX9_init_32 ?_; clear hZ; intro H locs hZ
  have hf9 := wd_let_e hf; clear hf; obtain ⟨w24, e25, hf⟩ := hf9
  rw [e25] at hZ
  refine lv_aload_n (i := 0) hx hb dX9_init_35 rfl (lv_at hl 0 rfl) ?_
  refine lv_bipush (v := 8) hx hb dX9_init_36 (by decide) ?_
  have hf9 := wd_gd_e hf; clear hf; obtain ⟨h26, hf⟩ := hf9
  refine z_newa (N := 8) hx hb hts hK hZ tw_117 (by decide) (by decide) (by decide) h26 dX9_init_38 ?_; clear hZ; intro H cells slots hZ
  have hf9 := wd_let_e hf; clear hf; obtain ⟨a27, e28, hf⟩ := hf9
  rw [e28]
  rw [e28] at hZ
  have hf9 := wd_let_e hf; clear hf; obtain ⟨w29, e30, hf⟩ := hf9
  rw [e30] at hZ
  refine z_putFR (r := (some a27)) rfl hmn rfl fd_907 cok_9 (tk := 20) rfl (fun q hq => by cases hq; exact (hZ.k 0 rfl rfl)) rfl rfl (wd_obA _) hx hb hts hown hK hZ (hZ.k 4 rfl rfl) tw_254 dX9_init_40 ?_; clear hZ; intro H locs hZ
  have hf9 := wd_let_e hf; clear hf; obtain ⟨w31, e32, hf⟩ := hf9
  rw [e32] at hZ
  refine lv_aload_n (i := 0) hx hb dX9_init_43 rfl (lv_at hl 0 rfl) ?_
  refine z_aload_n (i := 1) hx hb dX9_init_44 rfl (lv_at hl 1 rfl) ?_
  refine z_putFR (r := p0) rfl hmn rfl fd_904 cok_9 (tk := 5) rfl (fun q hq => hZ.k 5 rfl hq) rfl rfl (wd_obO _) hx hb hts hown hK hZ (hZ.k 4 rfl rfl) tw_251 dX9_init_45 ?_; clear hZ; intro H locs hZ
  have hf9 := wd_let_e hf; clear hf; obtain ⟨w33, e34, hf⟩ := hf9
  rw [e34] at hZ
  refine lv_iconst (v := 0) hx hb dX9_init_48 (by decide) ?_
  refine lv_istore_n (i := 2) (lv' := [(2, .int (0 : Int32)), (0, .ref this), (1, va_rf p0)]) hx hb dX9_init_49 rfl hl (by decide) (by simp [va_rf_cat, va_cat_r, va_cat_i, va_cat_l, va_cat_d]) ?_; clear hl; intro ls hl
  exact v_X9_init_l50 n C hR n this p0 (0 : Int32) w33 _ _ _ _ _ ⟨hZ.1, hZ.2.1, hZ.2.2.1, hZ.2.2.2.1, (List.forall_mem_cons.mpr ⟨⟨Nat.succ_ne_zero _, (fun q hq => by cases hq; exact (hZ.k 4 rfl rfl))⟩, (List.forall_mem_cons.mpr ⟨⟨Nat.succ_ne_zero _, (fun q hq => hZ.k 5 rfl hq)⟩, (fun _ hq => absurd hq List.not_mem_nil)⟩)⟩), hZ.2.2.2.2.2⟩ (lv_sub hl [1, 2, 0] rfl) hf

def f_X9_host_j19 (n : Nat) (w : Wd) : Option (Option Nat × Wd) :=
  some (none, w)
def f_X9_host (n : Nat) (w : Wd) (this : Nat) (p0 : Int32) : Option (Option Nat × Wd) :=
  if p0 < 0 then
    f_X9_host_j19 n w
  else
    if (8 : Int32) ≤ p0 then
      f_X9_host_j19 n w
    else
      Option.bind (wd_R w 906 this) fun a3 =>
      wd_gd (p0 < 0 ∨ wd_N w a3 ≤ p0.toNatClampNeg) <|
      some ((wd_Q w a3 p0.toNatClampNeg), w)
set_option maxHeartbeats 4000000 in
set_option maxRecDepth 100000 in
theorem v_X9_host_j19 {p : Program} {l : Launch} {e : Env} {R : Room} {s : State} {m : MethodId} {args : Array Value} {below : List Frame} {meth : Method} {c : Code} {E : wd_E} {w0 : Wd} {r' : Option Nat} {w' : Wd} (n : Nat) (C : wd_X p s m args meth c cX9_host RX9 2 (some (.object "SeamarkNet$Host")) "host" E) (hR : 0 ≤ R.frames ∧ 0 ≤ R.locals) (w : Wd) (H : Heap) (locs : List Loc) (cells slots : Nat) (ls : Array Slot) (hZ : wd_Z E w0 R s w H locs cells slots []) (hl : lv_has ls 2 []) (hf : f_X9_host_j19 n w = some (r', w')) : W p l e R s m args below meth c H locs cells slots (wd_fin E w0 (some (va_rf r')) w' (∀ q, r' = some q → wd_K w' q = 3) R args s below) (F0 m 19 ls []) := by
  obtain ⟨hx, hb, hr, hml, hts, hown, hlocks, hmn, hK⟩ := id C
  unfold f_X9_host_j19 at hf
  refine z_null hx hb dX9_host_19 ?_
  obtain ⟨rfl, rfl⟩ := Prod.mk.inj (Option.some.inj hf)
  exact z_aret rfl hx hb hr hlocks hZ (fun q hq => by cases hq) dX9_host_20

set_option maxHeartbeats 4000000 in
set_option maxRecDepth 100000 in
theorem c_X9_host (l : Launch) (E : wd_E) (n : Nat) (w : Wd) (this : Nat) (p0 : Int32) (r' : Option Nat) (w' : Wd) (k_this : wd_K w this = 10) (hf : f_X9_host n w this p0 = some (r', w')) : wd_C l E yX9_host cX9_host 2 (some (.object "SeamarkNet$Host")) 0 0 [.ref this, .int p0] w (some (va_rf r')) w' (∀ q, r' = some q → wd_K w' q = 3) := by
  refine wd_ofW (own := RX9) (nm := "host") (ks := [(some this, 10)]) (lv := [(0, .ref this), (1, .int p0)]) (by decide) rfl rfl (Nat.le_of_ble_eq_true rfl) rfl (List.forall_mem_cons.mpr ⟨⟨Nat.succ_ne_zero _, fun q hq => by cases hq; exact k_this⟩, (fun _ hq => absurd hq List.not_mem_nil)⟩) ?_
  intro p e s m args below meth c R H locs cells slots ls C hR hZ hl
  obtain ⟨hx, hb, hr, hml, hts, hown, hlocks, hmn, hK⟩ := id C
  unfold f_X9_host at hf
  refine lv_iload_n (i := 1) hx hb dX9_host_0 rfl (lv_at hl 1 rfl) ?_
  refine lv_if_lt (tgt := 19) hx hb dX9_host_1 (by decide) (fun h1 => ?_) (fun h1 => ?_)
  · replace hf := wd_ite_p h1 hf
    exact v_X9_host_j19 n C hR w _ _ _ _ _ ⟨hZ.1, hZ.2.1, hZ.2.2.1, hZ.2.2.2.1, (fun _ hq => absurd hq List.not_mem_nil), hZ.2.2.2.2.2⟩ (lv_sub hl [] rfl) hf
  · replace hf := wd_ite_n h1 hf
    refine lv_iload_n (i := 1) hx hb dX9_host_4 rfl (lv_at hl 1 rfl) ?_
    refine lv_bipush (v := 8) hx hb dX9_host_5 (by decide) ?_
    refine lv_icmp_ge (tgt := 19) hx hb dX9_host_7 (by decide) (fun h2 => ?_) (fun h2 => ?_)
    · replace hf := wd_ite_p h2 hf
      exact v_X9_host_j19 n C hR w _ _ _ _ _ ⟨hZ.1, hZ.2.1, hZ.2.2.1, hZ.2.2.2.1, (fun _ hq => absurd hq List.not_mem_nil), hZ.2.2.2.2.2⟩ (lv_sub hl [] rfl) hf
    · replace hf := wd_ite_n h2 hf
      refine lv_aload_n (i := 0) hx hb dX9_host_10 rfl (lv_at hl 0 rfl) ?_
      refine z_getR (tk := 23) fd_906 rfl hx hb hts hown hK hZ (hZ.k 0 rfl rfl) tw_253 dX9_host_11 ?_; clear hZ; intro hZ
      refine lv_iload_n (i := 1) hx hb dX9_host_14 rfl (lv_at hl 1 rfl) ?_
      have hf9 := Option.bind_eq_some_iff.mp hf; clear hf; obtain ⟨a3, ha3, hf⟩ := hf9
      replace hZ := hZ.add (r := some a3) (k := 24) (Nat.succ_ne_zero _) (fun q hq => by cases hq; exact hZ.k 0 rfl ha3)
      rw [ha3]
      have hf9 := wd_gd_e hf; clear hf; obtain ⟨h4, hf⟩ := hf9
      refine z_aald (k := 24) (by decide) (by decide) (tk := 2) rfl hx hb hK hZ (hZ.k 0 rfl rfl) h4 dX9_host_15 ?_; clear hZ; intro hZ
      refine lv_goto (tgt := 20) hx hb dX9_host_16 (by decide) ?_
      obtain ⟨rfl, rfl⟩ := Prod.mk.inj (Option.some.inj hf)
      exact z_aret rfl hx hb hr hlocks hZ (fun q hq => hZ.k 0 rfl hq) dX9_host_20

def f_X9_hostWithMark (n : Nat) (w : Wd) (this : Nat) (p0 : Int32) : Option (Option Nat × Wd) :=
  if 0 ≤ p0 then
    wd_b2 (f_X9_host n w this (p0 / (4 : Int32))) fun r4 w2 =>
    some (r4, w2)
  else
    some (none, w)
set_option maxHeartbeats 4000000 in
set_option maxRecDepth 100000 in
theorem c_X9_hostWithMark (l : Launch) (E : wd_E) (n : Nat) (w : Wd) (this : Nat) (p0 : Int32) (r' : Option Nat) (w' : Wd) (k_this : wd_K w this = 10) (hf : f_X9_hostWithMark n w this p0 = some (r', w')) : wd_C l E yX9_hostWithMark cX9_hostWithMark 2 (some (.object "SeamarkNet$Host")) 1 21 [.ref this, .int p0] w (some (va_rf r')) w' (∀ q, r' = some q → wd_K w' q = 3) := by
  refine wd_ofW (own := RX9) (nm := "hostWithMark") (ks := [(some this, 10)]) (lv := [(0, .ref this), (1, .int p0)]) (by decide) rfl rfl (Nat.le_of_ble_eq_true rfl) rfl (List.forall_mem_cons.mpr ⟨⟨Nat.succ_ne_zero _, fun q hq => by cases hq; exact k_this⟩, (fun _ hq => absurd hq List.not_mem_nil)⟩) ?_
  intro p e s m args below meth c R H locs cells slots ls C hR hZ hl
  obtain ⟨hx, hb, hr, hml, hts, hown, hlocks, hmn, hK⟩ := id C
  unfold f_X9_hostWithMark at hf
  refine lv_iload_n (i := 1) hx hb dX9_hostWithMark_0 rfl (lv_at hl 1 rfl) ?_
  refine lv_if_ge (tgt := 8) hx hb dX9_hostWithMark_1 (by decide) (fun h1 => ?_) (fun h1 => ?_)
  · replace hf := wd_ite_p h1 hf
    refine lv_aload_n (i := 0) hx hb dX9_hostWithMark_8 rfl (lv_at hl 0 rfl) ?_
    refine lv_iload_n (i := 1) hx hb dX9_hostWithMark_9 rfl (lv_at hl 1 rfl) ?_
    refine lv_iconst (v := 4) hx hb dX9_hostWithMark_10 (by decide) ?_
    refine lv_idiv hx hb dX9_hostWithMark_11 (by decide) ?_
    have hf9 := wd_b2_e hf; clear hf; obtain ⟨r4, w2, hc3, hf⟩ := hf9
    refine z_callV (ci := 9) (As := [.int (p0 / (4 : Int32))]) (rest := []) (c_X9_host l E n w this (p0 / (4 : Int32)) r4 w2 (hZ.k 0 rfl rfl) hc3) mo_X9_host rfl (by decide) rfl tw_451 tw_452 tw_884 hx hb hml hts hown hK ⟨Nat.le_trans (by decide) hR.1, Nat.le_trans (by decide) hR.2⟩ hZ (hZ.k 0 rfl rfl) rfl hl.1 rfl (Nat.le_of_ble_eq_true rfl) rfl dX9_hostWithMark_12 ?_; clear hZ; intro H locs cells slots hX hZ
    replace hZ := hZ.add (Nat.succ_ne_zero _) hX
    obtain ⟨rfl, rfl⟩ := Prod.mk.inj (Option.some.inj hf)
    exact z_aret rfl hx hb hr hlocks hZ (fun q hq => hZ.k 0 rfl hq) dX9_hostWithMark_15
  · replace hf := wd_ite_n h1 hf
    refine z_null hx hb dX9_hostWithMark_4 ?_
    refine lv_goto (tgt := 15) hx hb dX9_hostWithMark_5 (by decide) ?_
    obtain ⟨rfl, rfl⟩ := Prod.mk.inj (Option.some.inj hf)
    exact z_aret rfl hx hb hr hlocks hZ (fun q hq => by cases hq) dX9_hostWithMark_15

