/-! ===== meanings and contracts, laid by wip/p33/gen ===== -/
def f_X3_putTunnel (n : Nat) (w : Wd) (this : Nat) (p0 : Int32) : Option (Int32 × Wd) :=
  if (wd_I w 309 this) < (2 : Int32) then
    Option.bind (wd_R w 308 this) fun a2 =>
    wd_gd ((wd_I w 309 this) < 0 ∨ wd_N w a2 ≤ (wd_I w 309 this).toNatClampNeg) <|
    wd_let (wd_sA w a2 (wd_I w 309 this).toNatClampNeg p0) fun w4 =>
    wd_let (wd_sI w4 309 this ((wd_I w4 309 this) + (1 : Int32))) fun w6 =>
    some (((wd_I w6 309 this) - (1 : Int32)), w6)
  else
    some ((-1 : Int32), w)
set_option maxHeartbeats 4000000 in
set_option maxRecDepth 100000 in
theorem c_X3_putTunnel (l : Launch) (E : wd_E) (n : Nat) (w : Wd) (this : Nat) (p0 : Int32) (r' : Int32) (w' : Wd) (k_this : wd_K w this = 4) (hf : f_X3_putTunnel n w this p0 = some (r', w')) : wd_C l E yX3_putTunnel cX3_putTunnel 2 (some .int) 0 0 [.ref this, .int p0] w (some (.int r')) w' True := by
  refine wd_ofW (own := RX3) (nm := "putTunnel") (ks := [(some this, 4)]) (lv := [(0, .ref this), (1, .int p0)]) (by decide) rfl rfl (Nat.le_of_ble_eq_true rfl) rfl (List.forall_mem_cons.mpr ⟨⟨Nat.succ_ne_zero _, fun q hq => by cases hq; exact k_this⟩, (fun _ hq => absurd hq List.not_mem_nil)⟩) ?_
  intro p e s m args below meth c R H locs cells slots ls C hR hZ hl
  obtain ⟨hx, hb, hr, hml, hts, hown, hlocks, hmn, hK⟩ := id C
  unfold f_X3_putTunnel at hf
  refine lv_aload_n (i := 0) hx hb dX3_putTunnel_0 rfl (lv_at hl 0 rfl) ?_
  refine z_getI fd_309 rfl hx hb hts hown hK hZ (hZ.k 0 rfl rfl) tw_86 dX3_putTunnel_1 ?_
  refine lv_iconst (v := 2) hx hb dX3_putTunnel_4 (by decide) ?_
  refine lv_icmp_lt (tgt := 10) hx hb dX3_putTunnel_5 (by decide) (fun h1 => ?_) (fun h1 => ?_)
  · replace hf := wd_ite_p h1 hf
    refine lv_aload_n (i := 0) hx hb dX3_putTunnel_10 rfl (lv_at hl 0 rfl) ?_
    refine z_getR (tk := 20) fd_308 rfl hx hb hts hown hK hZ (hZ.k 0 rfl rfl) tw_85 dX3_putTunnel_11 ?_; clear hZ; intro hZ
    refine lv_aload_n (i := 0) hx hb dX3_putTunnel_14 rfl (lv_at hl 0 rfl) ?_
    refine z_getI fd_309 rfl hx hb hts hown hK hZ (hZ.k 1 rfl rfl) tw_86 dX3_putTunnel_15 ?_
    refine lv_iload_n (i := 1) hx hb dX3_putTunnel_18 rfl (lv_at hl 1 rfl) ?_
    have hf9 := Option.bind_eq_some_iff.mp hf; clear hf; obtain ⟨a2, ha2, hf⟩ := hf9
    replace hZ := hZ.add (r := some a2) (k := 21) (Nat.succ_ne_zero _) (fun q hq => by cases hq; exact hZ.k 0 rfl ha2)
    rw [ha2]
    have hf9 := wd_gd_e hf; clear hf; obtain ⟨h3, hf⟩ := hf9
    refine z_iast hx hb hK hZ (hZ.k 0 rfl rfl) h3 dX3_putTunnel_19 ?_; clear hZ; intro H locs hZ
    have hf9 := wd_let_e hf; clear hf; obtain ⟨w4, e5, hf⟩ := hf9
    rw [e5] at hZ
    refine lv_aload_n (i := 0) hx hb dX3_putTunnel_20 rfl (lv_at hl 0 rfl) ?_
    refine lv_dup hx hb dX3_putTunnel_21 rfl ?_
    refine z_getI fd_309 rfl hx hb hts hown hK hZ (hZ.k 2 rfl rfl) tw_86 dX3_putTunnel_22 ?_
    refine lv_iconst (v := 1) hx hb dX3_putTunnel_25 (by decide) ?_
    refine lv_iadd hx hb dX3_putTunnel_26 ?_
    refine z_putI fd_309 cok_3 rfl rfl rfl rfl rfl hx hb hts hown hK hZ (hZ.k 2 rfl rfl) tw_86 dX3_putTunnel_27 ?_; clear hZ; intro H locs hZ
    have hf9 := wd_let_e hf; clear hf; obtain ⟨w6, e7, hf⟩ := hf9
    rw [e7] at hZ
    refine lv_aload_n (i := 0) hx hb dX3_putTunnel_30 rfl (lv_at hl 0 rfl) ?_
    refine z_getI fd_309 rfl hx hb hts hown hK hZ (hZ.k 2 rfl rfl) tw_86 dX3_putTunnel_31 ?_
    refine lv_iconst (v := 1) hx hb dX3_putTunnel_34 (by decide) ?_
    refine lv_isub hx hb dX3_putTunnel_35 ?_
    obtain ⟨rfl, rfl⟩ := Prod.mk.inj (Option.some.inj hf)
    exact z_iret hx hb hr hlocks hZ trivial dX3_putTunnel_36
  · replace hf := wd_ite_n h1 hf
    refine lv_iconst (v := -1) hx hb dX3_putTunnel_8 (by decide) ?_
    obtain ⟨rfl, rfl⟩ := Prod.mk.inj (Option.some.inj hf)
    exact z_iret hx hb hr hlocks hZ trivial dX3_putTunnel_9

def f_X3_putRoute (n : Nat) (w : Wd) (this : Nat) (p0 : Int32) (p1 : Int32) (p2 : Int32) : Option (Int32 × Wd) :=
  if (wd_I w 307 this) < (6 : Int32) then
    Option.bind (wd_R w 304 this) fun a2 =>
    wd_gd ((wd_I w 307 this) < 0 ∨ wd_N w a2 ≤ (wd_I w 307 this).toNatClampNeg) <|
    wd_let (wd_sA w a2 (wd_I w 307 this).toNatClampNeg p0) fun w4 =>
    Option.bind (wd_R w4 305 this) fun a6 =>
    wd_gd ((wd_I w4 307 this) < 0 ∨ wd_N w4 a6 ≤ (wd_I w4 307 this).toNatClampNeg) <|
    wd_let (wd_sA w4 a6 (wd_I w4 307 this).toNatClampNeg p1) fun w8 =>
    Option.bind (wd_R w8 306 this) fun a10 =>
    wd_gd ((wd_I w8 307 this) < 0 ∨ wd_N w8 a10 ≤ (wd_I w8 307 this).toNatClampNeg) <|
    wd_let (wd_sA w8 a10 (wd_I w8 307 this).toNatClampNeg p2) fun w12 =>
    wd_let (wd_sI w12 307 this ((wd_I w12 307 this) + (1 : Int32))) fun w14 =>
    Option.bind (f_X3_layWays n w14 this) fun w16 =>
    some (((wd_I w16 307 this) - (1 : Int32)), w16)
  else
    some ((-1 : Int32), w)
set_option maxHeartbeats 4000000 in
set_option maxRecDepth 100000 in
theorem c_X3_putRoute (l : Launch) (E : wd_E) (n : Nat) (w : Wd) (this : Nat) (p0 : Int32) (p1 : Int32) (p2 : Int32) (r' : Int32) (w' : Wd) (k_this : wd_K w this = 4) (hf : f_X3_putRoute n w this p0 p1 p2 = some (r', w')) : wd_C l E yX3_putRoute cX3_putRoute 4 (some .int) 4 96 [.ref this, .int p0, .int p1, .int p2] w (some (.int r')) w' True := by
  refine wd_ofW (own := RX3) (nm := "putRoute") (ks := [(some this, 4)]) (lv := [(0, .ref this), (1, .int p0), (2, .int p1), (3, .int p2)]) (by decide) rfl rfl (Nat.le_of_ble_eq_true rfl) rfl (List.forall_mem_cons.mpr ⟨⟨Nat.succ_ne_zero _, fun q hq => by cases hq; exact k_this⟩, (fun _ hq => absurd hq List.not_mem_nil)⟩) ?_
  intro p e s m args below meth c R H locs cells slots ls C hR hZ hl
  obtain ⟨hx, hb, hr, hml, hts, hown, hlocks, hmn, hK⟩ := id C
  unfold f_X3_putRoute at hf
  refine lv_aload_n (i := 0) hx hb dX3_putRoute_0 rfl (lv_at hl 0 rfl) ?_
  refine z_getI fd_307 rfl hx hb hts hown hK hZ (hZ.k 0 rfl rfl) tw_84 dX3_putRoute_1 ?_
  refine lv_bipush (v := 6) hx hb dX3_putRoute_4 (by decide) ?_
  refine lv_icmp_lt (tgt := 11) hx hb dX3_putRoute_6 (by decide) (fun h1 => ?_) (fun h1 => ?_)
  · replace hf := wd_ite_p h1 hf
    refine lv_aload_n (i := 0) hx hb dX3_putRoute_11 rfl (lv_at hl 0 rfl) ?_
    refine z_getR (tk := 20) fd_304 rfl hx hb hts hown hK hZ (hZ.k 0 rfl rfl) tw_81 dX3_putRoute_12 ?_; clear hZ; intro hZ
    refine lv_aload_n (i := 0) hx hb dX3_putRoute_15 rfl (lv_at hl 0 rfl) ?_
    refine z_getI fd_307 rfl hx hb hts hown hK hZ (hZ.k 1 rfl rfl) tw_84 dX3_putRoute_16 ?_
    refine lv_iload_n (i := 1) hx hb dX3_putRoute_19 rfl (lv_at hl 1 rfl) ?_
    have hf9 := Option.bind_eq_some_iff.mp hf; clear hf; obtain ⟨a2, ha2, hf⟩ := hf9
    replace hZ := hZ.add (r := some a2) (k := 21) (Nat.succ_ne_zero _) (fun q hq => by cases hq; exact hZ.k 0 rfl ha2)
    rw [ha2]
    have hf9 := wd_gd_e hf; clear hf; obtain ⟨h3, hf⟩ := hf9
    refine z_iast hx hb hK hZ (hZ.k 0 rfl rfl) h3 dX3_putRoute_20 ?_; clear hZ; intro H locs hZ
    have hf9 := wd_let_e hf; clear hf; obtain ⟨w4, e5, hf⟩ := hf9
    rw [e5] at hZ
    refine lv_aload_n (i := 0) hx hb dX3_putRoute_21 rfl (lv_at hl 0 rfl) ?_
    refine z_getR (tk := 20) fd_305 rfl hx hb hts hown hK hZ (hZ.k 2 rfl rfl) tw_82 dX3_putRoute_22 ?_; clear hZ; intro hZ
    refine lv_aload_n (i := 0) hx hb dX3_putRoute_25 rfl (lv_at hl 0 rfl) ?_
    refine z_getI fd_307 rfl hx hb hts hown hK hZ (hZ.k 3 rfl rfl) tw_84 dX3_putRoute_26 ?_
    refine lv_iload_n (i := 2) hx hb dX3_putRoute_29 rfl (lv_at hl 2 rfl) ?_
    have hf9 := Option.bind_eq_some_iff.mp hf; clear hf; obtain ⟨a6, ha6, hf⟩ := hf9
    replace hZ := hZ.add (r := some a6) (k := 21) (Nat.succ_ne_zero _) (fun q hq => by cases hq; exact hZ.k 0 rfl ha6)
    rw [ha6]
    have hf9 := wd_gd_e hf; clear hf; obtain ⟨h7, hf⟩ := hf9
    refine z_iast hx hb hK hZ (hZ.k 0 rfl rfl) h7 dX3_putRoute_30 ?_; clear hZ; intro H locs hZ
    have hf9 := wd_let_e hf; clear hf; obtain ⟨w8, e9, hf⟩ := hf9
    rw [e9] at hZ
    refine lv_aload_n (i := 0) hx hb dX3_putRoute_31 rfl (lv_at hl 0 rfl) ?_
    refine z_getR (tk := 20) fd_306 rfl hx hb hts hown hK hZ (hZ.k 4 rfl rfl) tw_83 dX3_putRoute_32 ?_; clear hZ; intro hZ
    refine lv_aload_n (i := 0) hx hb dX3_putRoute_35 rfl (lv_at hl 0 rfl) ?_
    refine z_getI fd_307 rfl hx hb hts hown hK hZ (hZ.k 5 rfl rfl) tw_84 dX3_putRoute_36 ?_
    refine lv_iload_n (i := 3) hx hb dX3_putRoute_39 rfl (lv_at hl 3 rfl) ?_
    have hf9 := Option.bind_eq_some_iff.mp hf; clear hf; obtain ⟨a10, ha10, hf⟩ := hf9
    replace hZ := hZ.add (r := some a10) (k := 21) (Nat.succ_ne_zero _) (fun q hq => by cases hq; exact hZ.k 0 rfl ha10)
    rw [ha10]
    have hf9 := wd_gd_e hf; clear hf; obtain ⟨h11, hf⟩ := hf9
    refine z_iast hx hb hK hZ (hZ.k 0 rfl rfl) h11 dX3_putRoute_40 ?_; clear hZ; intro H locs hZ
    have hf9 := wd_let_e hf; clear hf; obtain ⟨w12, e13, hf⟩ := hf9
    rw [e13] at hZ
    refine lv_aload_n (i := 0) hx hb dX3_putRoute_41 rfl (lv_at hl 0 rfl) ?_
    refine lv_dup hx hb dX3_putRoute_42 rfl ?_
    refine z_getI fd_307 rfl hx hb hts hown hK hZ (hZ.k 6 rfl rfl) tw_84 dX3_putRoute_43 ?_
    refine lv_iconst (v := 1) hx hb dX3_putRoute_46 (by decide) ?_
    refine lv_iadd hx hb dX3_putRoute_47 ?_
    refine z_putI fd_307 cok_3 rfl rfl rfl rfl rfl hx hb hts hown hK hZ (hZ.k 6 rfl rfl) tw_84 dX3_putRoute_48 ?_; clear hZ; intro H locs hZ
    have hf9 := wd_let_e hf; clear hf; obtain ⟨w14, e15, hf⟩ := hf9
    rw [e15] at hZ
    refine lv_aload_n (i := 0) hx hb dX3_putRoute_51 rfl (lv_at hl 0 rfl) ?_
    have hf9 := Option.bind_eq_some_iff.mp hf; clear hf; obtain ⟨w16, hc17, hf⟩ := hf9
    refine z_callV (ci := 3) (As := []) (rest := []) (c_X3_layWays l E n w14 this w16 (hZ.k 6 rfl rfl) hc17) mo_X3_layWays rfl (by decide) rfl tw_583 tw_5 tw_581 hx hb hml hts hown hK ⟨Nat.le_trans (by decide) hR.1, Nat.le_trans (by decide) hR.2⟩ hZ (hZ.k 6 rfl rfl) rfl hl.1 rfl (Nat.le_of_ble_eq_true rfl) rfl dX3_putRoute_52 ?_; clear hZ; intro H locs cells slots hX hZ
    refine lv_aload_n (i := 0) hx hb dX3_putRoute_55 rfl (lv_at hl 0 rfl) ?_
    refine z_getI fd_307 rfl hx hb hts hown hK hZ (hZ.k 6 rfl rfl) tw_84 dX3_putRoute_56 ?_
    refine lv_iconst (v := 1) hx hb dX3_putRoute_59 (by decide) ?_
    refine lv_isub hx hb dX3_putRoute_60 ?_
    obtain ⟨rfl, rfl⟩ := Prod.mk.inj (Option.some.inj hf)
    exact z_iret hx hb hr hlocks hZ trivial dX3_putRoute_61
  · replace hf := wd_ite_n h1 hf
    refine lv_iconst (v := -1) hx hb dX3_putRoute_9 (by decide) ?_
    obtain ⟨rfl, rfl⟩ := Prod.mk.inj (Option.some.inj hf)
    exact z_iret hx hb hr hlocks hZ trivial dX3_putRoute_10

def f_X3_mayLeadVia (n : Nat) (w : Wd) (this : Nat) (p0 : Int32) : Option (Int32 × Wd) :=
  if p0 < 0 then
    if (wd_I w 309 this) ≤ ((-1 : Int32) - p0) then
      some ((0 : Int32), w)
    else
      some ((1 : Int32), w)
  else
    if (256 : Int32) ≤ p0 then
      some ((0 : Int32), w)
    else
      some ((1 : Int32), w)
set_option maxHeartbeats 4000000 in
set_option maxRecDepth 100000 in
theorem c_X3_mayLeadVia (l : Launch) (E : wd_E) (n : Nat) (w : Wd) (this : Nat) (p0 : Int32) (r' : Int32) (w' : Wd) (k_this : wd_K w this = 4) (hf : f_X3_mayLeadVia n w this p0 = some (r', w')) : wd_C l E yX3_mayLeadVia cX3_mayLeadVia 2 (some .boolean) 0 0 [.ref this, .int p0] w (some (.int r')) w' True := by
  refine wd_ofW (own := RX3) (nm := "mayLeadVia") (ks := [(some this, 4)]) (lv := [(0, .ref this), (1, .int p0)]) (by decide) rfl rfl (Nat.le_of_ble_eq_true rfl) rfl (List.forall_mem_cons.mpr ⟨⟨Nat.succ_ne_zero _, fun q hq => by cases hq; exact k_this⟩, (fun _ hq => absurd hq List.not_mem_nil)⟩) ?_
  intro p e s m args below meth c R H locs cells slots ls C hR hZ hl
  obtain ⟨hx, hb, hr, hml, hts, hown, hlocks, hmn, hK⟩ := id C
  unfold f_X3_mayLeadVia at hf
  refine lv_iload_n (i := 1) hx hb dX3_mayLeadVia_0 rfl (lv_at hl 1 rfl) ?_
  refine lv_if_lt (tgt := 19) hx hb dX3_mayLeadVia_1 (by decide) (fun h1 => ?_) (fun h1 => ?_)
  · replace hf := wd_ite_p h1 hf
    refine lv_iconst (v := -1) hx hb dX3_mayLeadVia_19 (by decide) ?_
    refine lv_iload_n (i := 1) hx hb dX3_mayLeadVia_20 rfl (lv_at hl 1 rfl) ?_
    refine lv_isub hx hb dX3_mayLeadVia_21 ?_
    refine lv_aload_n (i := 0) hx hb dX3_mayLeadVia_22 rfl (lv_at hl 0 rfl) ?_
    refine z_getI fd_309 rfl hx hb hts hown hK hZ (hZ.k 0 rfl rfl) tw_86 dX3_mayLeadVia_23 ?_
    refine lv_icmp_ge (tgt := 33) hx hb dX3_mayLeadVia_26 (by decide) (fun h2 => ?_) (fun h2 => ?_)
    · replace hf := wd_ite_p h2 hf
      refine lv_iconst (v := 0) hx hb dX3_mayLeadVia_33 (by decide) ?_
      obtain ⟨rfl, rfl⟩ := Prod.mk.inj (Option.some.inj hf)
      exact z_zret (by decide) hx hb hr hlocks hZ trivial dX3_mayLeadVia_34
    · replace hf := wd_ite_n h2 hf
      refine lv_iconst (v := 1) hx hb dX3_mayLeadVia_29 (by decide) ?_
      refine lv_goto (tgt := 34) hx hb dX3_mayLeadVia_30 (by decide) ?_
      obtain ⟨rfl, rfl⟩ := Prod.mk.inj (Option.some.inj hf)
      exact z_zret (by decide) hx hb hr hlocks hZ trivial dX3_mayLeadVia_34
  · replace hf := wd_ite_n h1 hf
    refine lv_iload_n (i := 1) hx hb dX3_mayLeadVia_4 rfl (lv_at hl 1 rfl) ?_
    refine lv_sipush (v := 256) hx hb dX3_mayLeadVia_5 (by decide) ?_
    refine lv_icmp_ge (tgt := 15) hx hb dX3_mayLeadVia_8 (by decide) (fun h3 => ?_) (fun h3 => ?_)
    · replace hf := wd_ite_p h3 hf
      refine lv_iconst (v := 0) hx hb dX3_mayLeadVia_15 (by decide) ?_
      refine lv_goto (tgt := 34) hx hb dX3_mayLeadVia_16 (by decide) ?_
      obtain ⟨rfl, rfl⟩ := Prod.mk.inj (Option.some.inj hf)
      exact z_zret (by decide) hx hb hr hlocks hZ trivial dX3_mayLeadVia_34
    · replace hf := wd_ite_n h3 hf
      refine lv_iconst (v := 1) hx hb dX3_mayLeadVia_11 (by decide) ?_
      refine lv_goto (tgt := 34) hx hb dX3_mayLeadVia_12 (by decide) ?_
      obtain ⟨rfl, rfl⟩ := Prod.mk.inj (Option.some.inj hf)
      exact z_zret (by decide) hx hb hr hlocks hZ trivial dX3_mayLeadVia_34

def f_X3_owns_j28 (n : Nat) (rec2 : Nat → Int32 → Int32 → Wd → Option (Int32 × Wd)) (x0 : Nat) (x1 : Int32) (x2 : Int32) (w : Wd) : Option (Int32 × Wd) :=
  wd_let (x2 + 1) fun v7 =>
  rec2 x0 x1 v7 w
def f_X3_owns_l2 (n : Nat) (rec2 : Nat → Int32 → Int32 → Wd → Option (Int32 × Wd)) (x0 : Nat) (x1 : Int32) (x2 : Int32) (w : Wd) : Option (Int32 × Wd) :=
  if (4 : Int32) ≤ x2 then
    some ((0 : Int32), w)
  else
    Option.bind (wd_R w 302 x0) fun a2 =>
    wd_gd (x2 < 0 ∨ wd_N w a2 ≤ x2.toNatClampNeg) <|
    wd_let (wd_Q w a2 x2.toNatClampNeg) fun v4 =>
    wd_on v4 (
      f_X3_owns_j28 n rec2 x0 x1 x2 w)
      (fun a6 =>
      if (wd_I w 702 a6) = x1 then
        some ((1 : Int32), w)
      else
        f_X3_owns_j28 n rec2 x0 x1 x2 w)
def f_X3_owns (n : Nat) (w : Wd) (this : Nat) (p0 : Int32) : Option (Int32 × Wd) :=
  wd_lp4 (f_X3_owns_l2 n) n this p0 (0 : Int32) w
set_option maxHeartbeats 4000000 in
set_option maxRecDepth 100000 in
theorem v_X3_owns_j28 {p : Program} {l : Launch} {e : Env} {R : Room} {s : State} {m : MethodId} {args : Array Value} {below : List Frame} {meth : Method} {c : Code} {E : wd_E} {w0 : Wd} {r' : Int32} {w' : Wd} (n : Nat) (C : wd_X p s m args meth c cX3_owns RX3 4 (some .boolean) "owns" E) (hR : 0 ≤ R.frames ∧ 0 ≤ R.locals) (rec2 : Nat → Int32 → Int32 → Wd → Option (Int32 × Wd)) (hrec2 : ∀ (x0_ : Nat) (x1_ : Int32) (x2_ : Int32) (w_ : Wd) (H : Heap) (locs : List Loc) (cells slots : Nat) (ls : Array Slot), wd_Z E w0 R s w_ H locs cells slots [(some x0_, 4)] → lv_has ls 4 [(0, .ref x0_), (1, .int x1_), (2, .int x2_)] → rec2 x0_ x1_ x2_ w_ = some (r', w') → W p l e R s m args below meth c H locs cells slots (wd_fin E w0 (some (.int r')) w' True R args s below) (F0 m 2 ls [])) (x0 : Nat) (x1 : Int32) (x2 : Int32) (w : Wd) (H : Heap) (locs : List Loc) (cells slots : Nat) (ls : Array Slot) (hZ : wd_Z E w0 R s w H locs cells slots [(some x0, 4)]) (hl : lv_has ls 4 [(0, .ref x0), (1, .int x1), (2, .int x2)]) (hf : f_X3_owns_j28 n rec2 x0 x1 x2 w = some (r', w')) : W p l e R s m args below meth c H locs cells slots (wd_fin E w0 (some (.int r')) w' True R args s below) (F0 m 28 ls []) := by
  obtain ⟨hx, hb, hr, hml, hts, hown, hlocks, hmn, hK⟩ := id C
  unfold f_X3_owns_j28 at hf
  have hf9 := wd_let_e hf; clear hf; obtain ⟨v7, e8, hf⟩ := hf9
  refine lv_iinc (k := 2) (v := v7) (lv' := [(2, .int v7), (0, .ref x0), (1, .int x1)]) hx hb dX3_owns_28 hl rfl (by rw [← e8]; rfl) (by decide) rfl ?_; clear hl; intro ls hl
  refine lv_goto (tgt := 2) hx hb dX3_owns_31 (by decide) ?_
  exact hrec2 x0 x1 v7 w _ _ _ _ _ ⟨hZ.1, hZ.2.1, hZ.2.2.1, hZ.2.2.2.1, (List.forall_mem_cons.mpr ⟨⟨Nat.succ_ne_zero _, (fun q hq => by cases hq; exact (hZ.k 0 rfl rfl))⟩, (fun _ hq => absurd hq List.not_mem_nil)⟩), hZ.2.2.2.2.2⟩ (lv_sub hl [1, 2, 0] rfl) hf

set_option maxHeartbeats 4000000 in
set_option maxRecDepth 100000 in
theorem v_X3_owns_b2 {p : Program} {l : Launch} {e : Env} {R : Room} {s : State} {m : MethodId} {args : Array Value} {below : List Frame} {meth : Method} {c : Code} {E : wd_E} {w0 : Wd} {r' : Int32} {w' : Wd} (n : Nat) (C : wd_X p s m args meth c cX3_owns RX3 4 (some .boolean) "owns" E) (hR : 0 ≤ R.frames ∧ 0 ≤ R.locals) (rec2 : Nat → Int32 → Int32 → Wd → Option (Int32 × Wd)) (hrec2 : ∀ (x0_ : Nat) (x1_ : Int32) (x2_ : Int32) (w_ : Wd) (H : Heap) (locs : List Loc) (cells slots : Nat) (ls : Array Slot), wd_Z E w0 R s w_ H locs cells slots [(some x0_, 4)] → lv_has ls 4 [(0, .ref x0_), (1, .int x1_), (2, .int x2_)] → rec2 x0_ x1_ x2_ w_ = some (r', w') → W p l e R s m args below meth c H locs cells slots (wd_fin E w0 (some (.int r')) w' True R args s below) (F0 m 2 ls [])) (x0 : Nat) (x1 : Int32) (x2 : Int32) (w : Wd) (H : Heap) (locs : List Loc) (cells slots : Nat) (ls : Array Slot) (hZ : wd_Z E w0 R s w H locs cells slots [(some x0, 4)]) (hl : lv_has ls 4 [(0, .ref x0), (1, .int x1), (2, .int x2)]) (hf : f_X3_owns_l2 n rec2 x0 x1 x2 w = some (r', w')) : W p l e R s m args below meth c H locs cells slots (wd_fin E w0 (some (.int r')) w' True R args s below) (F0 m 2 ls []) := by
  obtain ⟨hx, hb, hr, hml, hts, hown, hlocks, hmn, hK⟩ := id C
  unfold f_X3_owns_l2 at hf
  refine lv_iload_n (i := 2) hx hb dX3_owns_2 rfl (lv_at hl 2 rfl) ?_
  refine lv_iconst (v := 4) hx hb dX3_owns_3 (by decide) ?_
  refine lv_icmp_ge (tgt := 34) hx hb dX3_owns_4 (by decide) (fun h1 => ?_) (fun h1 => ?_)
  · replace hf := wd_ite_p h1 hf
    refine lv_iconst (v := 0) hx hb dX3_owns_34 (by decide) ?_
    obtain ⟨rfl, rfl⟩ := Prod.mk.inj (Option.some.inj hf)
    exact z_zret (by decide) hx hb hr hlocks hZ trivial dX3_owns_35
  · replace hf := wd_ite_n h1 hf
    refine lv_aload_n (i := 0) hx hb dX3_owns_7 rfl (lv_at hl 0 rfl) ?_
    refine z_getR (tk := 21) fd_302 rfl hx hb hts hown hK hZ (hZ.k 0 rfl rfl) tw_79 dX3_owns_8 ?_; clear hZ; intro hZ
    refine lv_iload_n (i := 2) hx hb dX3_owns_11 rfl (lv_at hl 2 rfl) ?_
    have hf9 := Option.bind_eq_some_iff.mp hf; clear hf; obtain ⟨a2, ha2, hf⟩ := hf9
    replace hZ := hZ.add (r := some a2) (k := 22) (Nat.succ_ne_zero _) (fun q hq => by cases hq; exact hZ.k 0 rfl ha2)
    rw [ha2]
    have hf9 := wd_gd_e hf; clear hf; obtain ⟨h3, hf⟩ := hf9
    refine z_aald (k := 22) (by decide) (by decide) (tk := 7) rfl hx hb hK hZ (hZ.k 0 rfl rfl) h3 dX3_owns_12 ?_; clear hZ; intro hZ
    have hf9 := wd_let_e hf; clear hf; obtain ⟨v4, e5, hf⟩ := hf9
    rw [e5]
    rw [e5] at hZ
    refine z_astore_n (i := 3) (lv' := [(3, va_rf v4), (0, .ref x0), (1, .int x1), (2, .int x2)]) hx hb dX3_owns_13 rfl hl (by decide) rfl ?_; clear hl; intro ls hl
    refine z_aload_n (i := 3) hx hb dX3_owns_14 rfl (lv_at hl 0 rfl) ?_
    refine z_ifnull (tgt := 28) hx hb dX3_owns_15 (by decide) (fun hn => ?_) (fun a6 ha6 => ?_)
    · replace hf := wd_on_n hn hf
      subst hn
      replace hl : lv_has ls 4 [(3, va_rf none), (0, .ref x0), (1, .int x1), (2, .int x2)] := hl
      replace hZ : wd_Z E w0 R s w H locs cells slots [(none, 8), (some a2, 22), ((wd_R w 302 x0), 22), (some x0, 4)] := hZ
      exact v_X3_owns_j28 n C hR rec2 hrec2 x0 x1 x2 w _ _ _ _ _ ⟨hZ.1, hZ.2.1, hZ.2.2.1, hZ.2.2.2.1, (List.forall_mem_cons.mpr ⟨⟨Nat.succ_ne_zero _, (fun q hq => by cases hq; exact (hZ.k 3 rfl rfl))⟩, (fun _ hq => absurd hq List.not_mem_nil)⟩), hZ.2.2.2.2.2⟩ (lv_sub hl [1, 2, 3] rfl) hf
    · replace hf := wd_on_s ha6 hf
      subst ha6
      replace hl : lv_has ls 4 [(3, .ref a6), (0, .ref x0), (1, .int x1), (2, .int x2)] := hl
      replace hZ : wd_Z E w0 R s w H locs cells slots [(some a6, 8), (some a2, 22), ((wd_R w 302 x0), 22), (some x0, 4)] := hZ
      refine lv_aload_n (i := 3) hx hb dX3_owns_18 rfl (lv_at hl 0 rfl) ?_
      refine z_getI fd_702 rfl hx hb hts hown hK hZ (hZ.k 0 rfl rfl) tw_567 dX3_owns_19 ?_
      refine lv_iload_n (i := 1) hx hb dX3_owns_22 rfl (lv_at hl 2 rfl) ?_
      refine lv_icmp_ne (tgt := 28) hx hb dX3_owns_23 (by decide) (fun h9 => ?_) (fun h9 => ?_)
      · replace hf := wd_ite_n h9 hf
        exact v_X3_owns_j28 n C hR rec2 hrec2 x0 x1 x2 w _ _ _ _ _ ⟨hZ.1, hZ.2.1, hZ.2.2.1, hZ.2.2.2.1, (List.forall_mem_cons.mpr ⟨⟨Nat.succ_ne_zero _, (fun q hq => by cases hq; exact (hZ.k 3 rfl rfl))⟩, (fun _ hq => absurd hq List.not_mem_nil)⟩), hZ.2.2.2.2.2⟩ (lv_sub hl [1, 2, 3] rfl) hf
      · replace hf := wd_ite_p h9 hf
        refine lv_iconst (v := 1) hx hb dX3_owns_26 (by decide) ?_
        obtain ⟨rfl, rfl⟩ := Prod.mk.inj (Option.some.inj hf)
        exact z_zret (by decide) hx hb hr hlocks hZ trivial dX3_owns_27

theorem v_X3_owns_l2 {p : Program} {l : Launch} {e : Env} {R : Room} {s : State} {m : MethodId} {args : Array Value} {below : List Frame} {meth : Method} {c : Code} {E : wd_E} {w0 : Wd} {r' : Int32} {w' : Wd} (n : Nat) (C : wd_X p s m args meth c cX3_owns RX3 4 (some .boolean) "owns" E) (hR : 0 ≤ R.frames ∧ 0 ≤ R.locals) : ∀ (k : Nat) (x0 : Nat) (x1 : Int32) (x2 : Int32) (w : Wd) (H : Heap) (locs : List Loc) (cells slots : Nat) (ls : Array Slot), wd_Z E w0 R s w H locs cells slots [(some x0, 4)] → lv_has ls 4 [(0, .ref x0), (1, .int x1), (2, .int x2)] → wd_lp4 (f_X3_owns_l2 n) k x0 x1 x2 w = some (r', w') → W p l e R s m args below meth c H locs cells slots (wd_fin E w0 (some (.int r')) w' True R args s below) (F0 m 2 ls []) := by
  intro k
  induction k with
  | zero => intro _ _ _ _ _ _ _ _ _ _ _ hf; cases hf
  | succ k ih =>
    intro x0 x1 x2 w H locs cells slots ls hZ hl hf
    exact v_X3_owns_b2 n C hR (wd_lp4 (f_X3_owns_l2 n) k) ih x0 x1 x2 w H locs cells slots ls hZ hl hf

set_option maxHeartbeats 4000000 in
set_option maxRecDepth 100000 in
theorem c_X3_owns (l : Launch) (E : wd_E) (n : Nat) (w : Wd) (this : Nat) (p0 : Int32) (r' : Int32) (w' : Wd) (k_this : wd_K w this = 4) (hf : f_X3_owns n w this p0 = some (r', w')) : wd_C l E yX3_owns cX3_owns 4 (some .boolean) 0 0 [.ref this, .int p0] w (some (.int r')) w' True := by
  refine wd_ofW (own := RX3) (nm := "owns") (ks := [(some this, 4)]) (lv := [(0, .ref this), (1, .int p0)]) (by decide) rfl rfl (Nat.le_of_ble_eq_true rfl) rfl (List.forall_mem_cons.mpr ⟨⟨Nat.succ_ne_zero _, fun q hq => by cases hq; exact k_this⟩, (fun _ hq => absurd hq List.not_mem_nil)⟩) ?_
  intro p e s m args below meth c R H locs cells slots ls C hR hZ hl
  obtain ⟨hx, hb, hr, hml, hts, hown, hlocks, hmn, hK⟩ := id C
  unfold f_X3_owns at hf
  refine lv_iconst (v := 0) hx hb dX3_owns_0 (by decide) ?_
  refine lv_istore_n (i := 2) (lv' := [(2, .int (0 : Int32)), (0, .ref this), (1, .int p0)]) hx hb dX3_owns_1 rfl hl (by decide) rfl ?_; clear hl; intro ls hl
  exact v_X3_owns_l2 n C hR n this p0 (0 : Int32) w _ _ _ _ _ ⟨hZ.1, hZ.2.1, hZ.2.2.1, hZ.2.2.2.1, (List.forall_mem_cons.mpr ⟨⟨Nat.succ_ne_zero _, (fun q hq => by cases hq; exact (hZ.k 0 rfl rfl))⟩, (fun _ hq => absurd hq List.not_mem_nil)⟩), hZ.2.2.2.2.2⟩ (lv_sub hl [1, 2, 0] rfl) hf

def f_X3_farOf_j21 (n : Nat) (w : Wd) : Option (Int32 × Wd) :=
  some ((-1 : Int32), w)
def f_X3_farOf (n : Nat) (w : Wd) (this : Nat) (p0 : Int32) : Option (Int32 × Wd) :=
  if p0 < 0 then
    f_X3_farOf_j21 n w
  else
    if (wd_I w 309 this) ≤ p0 then
      f_X3_farOf_j21 n w
    else
      Option.bind (wd_R w 308 this) fun a3 =>
      wd_gd (p0 < 0 ∨ wd_N w a3 ≤ p0.toNatClampNeg) <|
      some ((wd_A w a3 p0.toNatClampNeg), w)
set_option maxHeartbeats 4000000 in
set_option maxRecDepth 100000 in
theorem v_X3_farOf_j21 {p : Program} {l : Launch} {e : Env} {R : Room} {s : State} {m : MethodId} {args : Array Value} {below : List Frame} {meth : Method} {c : Code} {E : wd_E} {w0 : Wd} {r' : Int32} {w' : Wd} (n : Nat) (C : wd_X p s m args meth c cX3_farOf RX3 2 (some .int) "farOf" E) (hR : 0 ≤ R.frames ∧ 0 ≤ R.locals) (w : Wd) (H : Heap) (locs : List Loc) (cells slots : Nat) (ls : Array Slot) (hZ : wd_Z E w0 R s w H locs cells slots []) (hl : lv_has ls 2 []) (hf : f_X3_farOf_j21 n w = some (r', w')) : W p l e R s m args below meth c H locs cells slots (wd_fin E w0 (some (.int r')) w' True R args s below) (F0 m 21 ls []) := by
  obtain ⟨hx, hb, hr, hml, hts, hown, hlocks, hmn, hK⟩ := id C
  unfold f_X3_farOf_j21 at hf
  refine lv_iconst (v := -1) hx hb dX3_farOf_21 (by decide) ?_
  obtain ⟨rfl, rfl⟩ := Prod.mk.inj (Option.some.inj hf)
  exact z_iret hx hb hr hlocks hZ trivial dX3_farOf_22

set_option maxHeartbeats 4000000 in
set_option maxRecDepth 100000 in
theorem c_X3_farOf (l : Launch) (E : wd_E) (n : Nat) (w : Wd) (this : Nat) (p0 : Int32) (r' : Int32) (w' : Wd) (k_this : wd_K w this = 4) (hf : f_X3_farOf n w this p0 = some (r', w')) : wd_C l E yX3_farOf cX3_farOf 2 (some .int) 0 0 [.ref this, .int p0] w (some (.int r')) w' True := by
  refine wd_ofW (own := RX3) (nm := "farOf") (ks := [(some this, 4)]) (lv := [(0, .ref this), (1, .int p0)]) (by decide) rfl rfl (Nat.le_of_ble_eq_true rfl) rfl (List.forall_mem_cons.mpr ⟨⟨Nat.succ_ne_zero _, fun q hq => by cases hq; exact k_this⟩, (fun _ hq => absurd hq List.not_mem_nil)⟩) ?_
  intro p e s m args below meth c R H locs cells slots ls C hR hZ hl
  obtain ⟨hx, hb, hr, hml, hts, hown, hlocks, hmn, hK⟩ := id C
  unfold f_X3_farOf at hf
  refine lv_iload_n (i := 1) hx hb dX3_farOf_0 rfl (lv_at hl 1 rfl) ?_
  refine lv_if_lt (tgt := 21) hx hb dX3_farOf_1 (by decide) (fun h1 => ?_) (fun h1 => ?_)
  · replace hf := wd_ite_p h1 hf
    exact v_X3_farOf_j21 n C hR w _ _ _ _ _ ⟨hZ.1, hZ.2.1, hZ.2.2.1, hZ.2.2.2.1, (fun _ hq => absurd hq List.not_mem_nil), hZ.2.2.2.2.2⟩ (lv_sub hl [] rfl) hf
  · replace hf := wd_ite_n h1 hf
    refine lv_iload_n (i := 1) hx hb dX3_farOf_4 rfl (lv_at hl 1 rfl) ?_
    refine lv_aload_n (i := 0) hx hb dX3_farOf_5 rfl (lv_at hl 0 rfl) ?_
    refine z_getI fd_309 rfl hx hb hts hown hK hZ (hZ.k 0 rfl rfl) tw_86 dX3_farOf_6 ?_
    refine lv_icmp_ge (tgt := 21) hx hb dX3_farOf_9 (by decide) (fun h2 => ?_) (fun h2 => ?_)
    · replace hf := wd_ite_p h2 hf
      exact v_X3_farOf_j21 n C hR w _ _ _ _ _ ⟨hZ.1, hZ.2.1, hZ.2.2.1, hZ.2.2.2.1, (fun _ hq => absurd hq List.not_mem_nil), hZ.2.2.2.2.2⟩ (lv_sub hl [] rfl) hf
    · replace hf := wd_ite_n h2 hf
      refine lv_aload_n (i := 0) hx hb dX3_farOf_12 rfl (lv_at hl 0 rfl) ?_
      refine z_getR (tk := 20) fd_308 rfl hx hb hts hown hK hZ (hZ.k 0 rfl rfl) tw_85 dX3_farOf_13 ?_; clear hZ; intro hZ
      refine lv_iload_n (i := 1) hx hb dX3_farOf_16 rfl (lv_at hl 1 rfl) ?_
      have hf9 := Option.bind_eq_some_iff.mp hf; clear hf; obtain ⟨a3, ha3, hf⟩ := hf9
      replace hZ := hZ.add (r := some a3) (k := 21) (Nat.succ_ne_zero _) (fun q hq => by cases hq; exact hZ.k 0 rfl ha3)
      rw [ha3]
      have hf9 := wd_gd_e hf; clear hf; obtain ⟨h4, hf⟩ := hf9
      refine z_iald hx hb hK hZ (hZ.k 0 rfl rfl) h4 dX3_farOf_17 ?_
      refine lv_goto (tgt := 22) hx hb dX3_farOf_18 (by decide) ?_
      obtain ⟨rfl, rfl⟩ := Prod.mk.inj (Option.some.inj hf)
      exact z_iret hx hb hr hlocks hZ trivial dX3_farOf_22

def f_X3_portTo_j20 (n : Nat) (w : Wd) : Option (Int32 × Wd) :=
  some ((-1 : Int32), w)
def f_X3_portTo (n : Nat) (w : Wd) (this : Nat) (p0 : Int32) : Option (Int32 × Wd) :=
  if p0 < 0 then
    f_X3_portTo_j20 n w
  else
    if (256 : Int32) ≤ p0 then
      f_X3_portTo_j20 n w
    else
      Option.bind (wd_R w 310 this) fun a3 =>
      wd_gd (p0 < 0 ∨ wd_N w a3 ≤ p0.toNatClampNeg) <|
      some ((wd_A w a3 p0.toNatClampNeg), w)
set_option maxHeartbeats 4000000 in
set_option maxRecDepth 100000 in
theorem v_X3_portTo_j20 {p : Program} {l : Launch} {e : Env} {R : Room} {s : State} {m : MethodId} {args : Array Value} {below : List Frame} {meth : Method} {c : Code} {E : wd_E} {w0 : Wd} {r' : Int32} {w' : Wd} (n : Nat) (C : wd_X p s m args meth c cX3_portTo RX3 2 (some .int) "portTo" E) (hR : 0 ≤ R.frames ∧ 0 ≤ R.locals) (w : Wd) (H : Heap) (locs : List Loc) (cells slots : Nat) (ls : Array Slot) (hZ : wd_Z E w0 R s w H locs cells slots []) (hl : lv_has ls 2 []) (hf : f_X3_portTo_j20 n w = some (r', w')) : W p l e R s m args below meth c H locs cells slots (wd_fin E w0 (some (.int r')) w' True R args s below) (F0 m 20 ls []) := by
  obtain ⟨hx, hb, hr, hml, hts, hown, hlocks, hmn, hK⟩ := id C
  unfold f_X3_portTo_j20 at hf
  refine lv_iconst (v := -1) hx hb dX3_portTo_20 (by decide) ?_
  obtain ⟨rfl, rfl⟩ := Prod.mk.inj (Option.some.inj hf)
  exact z_iret hx hb hr hlocks hZ trivial dX3_portTo_21

set_option maxHeartbeats 4000000 in
set_option maxRecDepth 100000 in
theorem c_X3_portTo (l : Launch) (E : wd_E) (n : Nat) (w : Wd) (this : Nat) (p0 : Int32) (r' : Int32) (w' : Wd) (k_this : wd_K w this = 4) (hf : f_X3_portTo n w this p0 = some (r', w')) : wd_C l E yX3_portTo cX3_portTo 2 (some .int) 0 0 [.ref this, .int p0] w (some (.int r')) w' True := by
  refine wd_ofW (own := RX3) (nm := "portTo") (ks := [(some this, 4)]) (lv := [(0, .ref this), (1, .int p0)]) (by decide) rfl rfl (Nat.le_of_ble_eq_true rfl) rfl (List.forall_mem_cons.mpr ⟨⟨Nat.succ_ne_zero _, fun q hq => by cases hq; exact k_this⟩, (fun _ hq => absurd hq List.not_mem_nil)⟩) ?_
  intro p e s m args below meth c R H locs cells slots ls C hR hZ hl
  obtain ⟨hx, hb, hr, hml, hts, hown, hlocks, hmn, hK⟩ := id C
  unfold f_X3_portTo at hf
  refine lv_iload_n (i := 1) hx hb dX3_portTo_0 rfl (lv_at hl 1 rfl) ?_
  refine lv_if_lt (tgt := 20) hx hb dX3_portTo_1 (by decide) (fun h1 => ?_) (fun h1 => ?_)
  · replace hf := wd_ite_p h1 hf
    exact v_X3_portTo_j20 n C hR w _ _ _ _ _ ⟨hZ.1, hZ.2.1, hZ.2.2.1, hZ.2.2.2.1, (fun _ hq => absurd hq List.not_mem_nil), hZ.2.2.2.2.2⟩ (lv_sub hl [] rfl) hf
  · replace hf := wd_ite_n h1 hf
    refine lv_iload_n (i := 1) hx hb dX3_portTo_4 rfl (lv_at hl 1 rfl) ?_
    refine lv_sipush (v := 256) hx hb dX3_portTo_5 (by decide) ?_
    refine lv_icmp_ge (tgt := 20) hx hb dX3_portTo_8 (by decide) (fun h2 => ?_) (fun h2 => ?_)
    · replace hf := wd_ite_p h2 hf
      exact v_X3_portTo_j20 n C hR w _ _ _ _ _ ⟨hZ.1, hZ.2.1, hZ.2.2.1, hZ.2.2.2.1, (fun _ hq => absurd hq List.not_mem_nil), hZ.2.2.2.2.2⟩ (lv_sub hl [] rfl) hf
    · replace hf := wd_ite_n h2 hf
      refine lv_aload_n (i := 0) hx hb dX3_portTo_11 rfl (lv_at hl 0 rfl) ?_
      refine z_getR (tk := 20) fd_310 rfl hx hb hts hown hK hZ (hZ.k 0 rfl rfl) tw_87 dX3_portTo_12 ?_; clear hZ; intro hZ
      refine lv_iload_n (i := 1) hx hb dX3_portTo_15 rfl (lv_at hl 1 rfl) ?_
      have hf9 := Option.bind_eq_some_iff.mp hf; clear hf; obtain ⟨a3, ha3, hf⟩ := hf9
      replace hZ := hZ.add (r := some a3) (k := 21) (Nat.succ_ne_zero _) (fun q hq => by cases hq; exact hZ.k 0 rfl ha3)
      rw [ha3]
      have hf9 := wd_gd_e hf; clear hf; obtain ⟨h4, hf⟩ := hf9
      refine z_iald hx hb hK hZ (hZ.k 0 rfl rfl) h4 dX3_portTo_16 ?_
      refine lv_goto (tgt := 21) hx hb dX3_portTo_17 (by decide) ?_
      obtain ⟨rfl, rfl⟩ := Prod.mk.inj (Option.some.inj hf)
      exact z_iret hx hb hr hlocks hZ trivial dX3_portTo_21

def f_X3_hopTo_j20 (n : Nat) (w : Wd) : Option (Int32 × Wd) :=
  some ((-1 : Int32), w)
def f_X3_hopTo (n : Nat) (w : Wd) (this : Nat) (p0 : Int32) : Option (Int32 × Wd) :=
  if p0 < 0 then
    f_X3_hopTo_j20 n w
  else
    if (256 : Int32) ≤ p0 then
      f_X3_hopTo_j20 n w
    else
      Option.bind (wd_R w 311 this) fun a3 =>
      wd_gd (p0 < 0 ∨ wd_N w a3 ≤ p0.toNatClampNeg) <|
      some ((wd_A w a3 p0.toNatClampNeg), w)
set_option maxHeartbeats 4000000 in
set_option maxRecDepth 100000 in
theorem v_X3_hopTo_j20 {p : Program} {l : Launch} {e : Env} {R : Room} {s : State} {m : MethodId} {args : Array Value} {below : List Frame} {meth : Method} {c : Code} {E : wd_E} {w0 : Wd} {r' : Int32} {w' : Wd} (n : Nat) (C : wd_X p s m args meth c cX3_hopTo RX3 2 (some .int) "hopTo" E) (hR : 0 ≤ R.frames ∧ 0 ≤ R.locals) (w : Wd) (H : Heap) (locs : List Loc) (cells slots : Nat) (ls : Array Slot) (hZ : wd_Z E w0 R s w H locs cells slots []) (hl : lv_has ls 2 []) (hf : f_X3_hopTo_j20 n w = some (r', w')) : W p l e R s m args below meth c H locs cells slots (wd_fin E w0 (some (.int r')) w' True R args s below) (F0 m 20 ls []) := by
  obtain ⟨hx, hb, hr, hml, hts, hown, hlocks, hmn, hK⟩ := id C
  unfold f_X3_hopTo_j20 at hf
  refine lv_iconst (v := -1) hx hb dX3_hopTo_20 (by decide) ?_
  obtain ⟨rfl, rfl⟩ := Prod.mk.inj (Option.some.inj hf)
  exact z_iret hx hb hr hlocks hZ trivial dX3_hopTo_21

set_option maxHeartbeats 4000000 in
set_option maxRecDepth 100000 in
theorem c_X3_hopTo (l : Launch) (E : wd_E) (n : Nat) (w : Wd) (this : Nat) (p0 : Int32) (r' : Int32) (w' : Wd) (k_this : wd_K w this = 4) (hf : f_X3_hopTo n w this p0 = some (r', w')) : wd_C l E yX3_hopTo cX3_hopTo 2 (some .int) 0 0 [.ref this, .int p0] w (some (.int r')) w' True := by
  refine wd_ofW (own := RX3) (nm := "hopTo") (ks := [(some this, 4)]) (lv := [(0, .ref this), (1, .int p0)]) (by decide) rfl rfl (Nat.le_of_ble_eq_true rfl) rfl (List.forall_mem_cons.mpr ⟨⟨Nat.succ_ne_zero _, fun q hq => by cases hq; exact k_this⟩, (fun _ hq => absurd hq List.not_mem_nil)⟩) ?_
  intro p e s m args below meth c R H locs cells slots ls C hR hZ hl
  obtain ⟨hx, hb, hr, hml, hts, hown, hlocks, hmn, hK⟩ := id C
  unfold f_X3_hopTo at hf
  refine lv_iload_n (i := 1) hx hb dX3_hopTo_0 rfl (lv_at hl 1 rfl) ?_
  refine lv_if_lt (tgt := 20) hx hb dX3_hopTo_1 (by decide) (fun h1 => ?_) (fun h1 => ?_)
  · replace hf := wd_ite_p h1 hf
    exact v_X3_hopTo_j20 n C hR w _ _ _ _ _ ⟨hZ.1, hZ.2.1, hZ.2.2.1, hZ.2.2.2.1, (fun _ hq => absurd hq List.not_mem_nil), hZ.2.2.2.2.2⟩ (lv_sub hl [] rfl) hf
  · replace hf := wd_ite_n h1 hf
    refine lv_iload_n (i := 1) hx hb dX3_hopTo_4 rfl (lv_at hl 1 rfl) ?_
    refine lv_sipush (v := 256) hx hb dX3_hopTo_5 (by decide) ?_
    refine lv_icmp_ge (tgt := 20) hx hb dX3_hopTo_8 (by decide) (fun h2 => ?_) (fun h2 => ?_)
    · replace hf := wd_ite_p h2 hf
      exact v_X3_hopTo_j20 n C hR w _ _ _ _ _ ⟨hZ.1, hZ.2.1, hZ.2.2.1, hZ.2.2.2.1, (fun _ hq => absurd hq List.not_mem_nil), hZ.2.2.2.2.2⟩ (lv_sub hl [] rfl) hf
    · replace hf := wd_ite_n h2 hf
      refine lv_aload_n (i := 0) hx hb dX3_hopTo_11 rfl (lv_at hl 0 rfl) ?_
      refine z_getR (tk := 20) fd_311 rfl hx hb hts hown hK hZ (hZ.k 0 rfl rfl) tw_88 dX3_hopTo_12 ?_; clear hZ; intro hZ
      refine lv_iload_n (i := 1) hx hb dX3_hopTo_15 rfl (lv_at hl 1 rfl) ?_
      have hf9 := Option.bind_eq_some_iff.mp hf; clear hf; obtain ⟨a3, ha3, hf⟩ := hf9
      replace hZ := hZ.add (r := some a3) (k := 21) (Nat.succ_ne_zero _) (fun q hq => by cases hq; exact hZ.k 0 rfl ha3)
      rw [ha3]
      have hf9 := wd_gd_e hf; clear hf; obtain ⟨h4, hf⟩ := hf9
      refine z_iald hx hb hK hZ (hZ.k 0 rfl rfl) h4 dX3_hopTo_16 ?_
      refine lv_goto (tgt := 21) hx hb dX3_hopTo_17 (by decide) ?_
      obtain ⟨rfl, rfl⟩ := Prod.mk.inj (Option.some.inj hf)
      exact z_iret hx hb hr hlocks hZ trivial dX3_hopTo_21

def f_X3_lengthTo_j20 (n : Nat) (w : Wd) : Option (Int32 × Wd) :=
  some ((-1 : Int32), w)
def f_X3_lengthTo (n : Nat) (w : Wd) (this : Nat) (p0 : Int32) : Option (Int32 × Wd) :=
  if p0 < 0 then
    f_X3_lengthTo_j20 n w
  else
    if (256 : Int32) ≤ p0 then
      f_X3_lengthTo_j20 n w
    else
      Option.bind (wd_R w 312 this) fun a3 =>
      wd_gd (p0 < 0 ∨ wd_N w a3 ≤ p0.toNatClampNeg) <|
      some ((wd_A w a3 p0.toNatClampNeg), w)
set_option maxHeartbeats 4000000 in
set_option maxRecDepth 100000 in
theorem v_X3_lengthTo_j20 {p : Program} {l : Launch} {e : Env} {R : Room} {s : State} {m : MethodId} {args : Array Value} {below : List Frame} {meth : Method} {c : Code} {E : wd_E} {w0 : Wd} {r' : Int32} {w' : Wd} (n : Nat) (C : wd_X p s m args meth c cX3_lengthTo RX3 2 (some .int) "lengthTo" E) (hR : 0 ≤ R.frames ∧ 0 ≤ R.locals) (w : Wd) (H : Heap) (locs : List Loc) (cells slots : Nat) (ls : Array Slot) (hZ : wd_Z E w0 R s w H locs cells slots []) (hl : lv_has ls 2 []) (hf : f_X3_lengthTo_j20 n w = some (r', w')) : W p l e R s m args below meth c H locs cells slots (wd_fin E w0 (some (.int r')) w' True R args s below) (F0 m 20 ls []) := by
  obtain ⟨hx, hb, hr, hml, hts, hown, hlocks, hmn, hK⟩ := id C
  unfold f_X3_lengthTo_j20 at hf
  refine lv_iconst (v := -1) hx hb dX3_lengthTo_20 (by decide) ?_
  obtain ⟨rfl, rfl⟩ := Prod.mk.inj (Option.some.inj hf)
  exact z_iret hx hb hr hlocks hZ trivial dX3_lengthTo_21

set_option maxHeartbeats 4000000 in
set_option maxRecDepth 100000 in
theorem c_X3_lengthTo (l : Launch) (E : wd_E) (n : Nat) (w : Wd) (this : Nat) (p0 : Int32) (r' : Int32) (w' : Wd) (k_this : wd_K w this = 4) (hf : f_X3_lengthTo n w this p0 = some (r', w')) : wd_C l E yX3_lengthTo cX3_lengthTo 2 (some .int) 0 0 [.ref this, .int p0] w (some (.int r')) w' True := by
  refine wd_ofW (own := RX3) (nm := "lengthTo") (ks := [(some this, 4)]) (lv := [(0, .ref this), (1, .int p0)]) (by decide) rfl rfl (Nat.le_of_ble_eq_true rfl) rfl (List.forall_mem_cons.mpr ⟨⟨Nat.succ_ne_zero _, fun q hq => by cases hq; exact k_this⟩, (fun _ hq => absurd hq List.not_mem_nil)⟩) ?_
  intro p e s m args below meth c R H locs cells slots ls C hR hZ hl
  obtain ⟨hx, hb, hr, hml, hts, hown, hlocks, hmn, hK⟩ := id C
  unfold f_X3_lengthTo at hf
  refine lv_iload_n (i := 1) hx hb dX3_lengthTo_0 rfl (lv_at hl 1 rfl) ?_
  refine lv_if_lt (tgt := 20) hx hb dX3_lengthTo_1 (by decide) (fun h1 => ?_) (fun h1 => ?_)
  · replace hf := wd_ite_p h1 hf
    exact v_X3_lengthTo_j20 n C hR w _ _ _ _ _ ⟨hZ.1, hZ.2.1, hZ.2.2.1, hZ.2.2.2.1, (fun _ hq => absurd hq List.not_mem_nil), hZ.2.2.2.2.2⟩ (lv_sub hl [] rfl) hf
  · replace hf := wd_ite_n h1 hf
    refine lv_iload_n (i := 1) hx hb dX3_lengthTo_4 rfl (lv_at hl 1 rfl) ?_
    refine lv_sipush (v := 256) hx hb dX3_lengthTo_5 (by decide) ?_
    refine lv_icmp_ge (tgt := 20) hx hb dX3_lengthTo_8 (by decide) (fun h2 => ?_) (fun h2 => ?_)
    · replace hf := wd_ite_p h2 hf
      exact v_X3_lengthTo_j20 n C hR w _ _ _ _ _ ⟨hZ.1, hZ.2.1, hZ.2.2.1, hZ.2.2.2.1, (fun _ hq => absurd hq List.not_mem_nil), hZ.2.2.2.2.2⟩ (lv_sub hl [] rfl) hf
    · replace hf := wd_ite_n h2 hf
      refine lv_aload_n (i := 0) hx hb dX3_lengthTo_11 rfl (lv_at hl 0 rfl) ?_
      refine z_getR (tk := 20) fd_312 rfl hx hb hts hown hK hZ (hZ.k 0 rfl rfl) tw_89 dX3_lengthTo_12 ?_; clear hZ; intro hZ
      refine lv_iload_n (i := 1) hx hb dX3_lengthTo_15 rfl (lv_at hl 1 rfl) ?_
      have hf9 := Option.bind_eq_some_iff.mp hf; clear hf; obtain ⟨a3, ha3, hf⟩ := hf9
      replace hZ := hZ.add (r := some a3) (k := 21) (Nat.succ_ne_zero _) (fun q hq => by cases hq; exact hZ.k 0 rfl ha3)
      rw [ha3]
      have hf9 := wd_gd_e hf; clear hf; obtain ⟨h4, hf⟩ := hf9
      refine z_iald hx hb hK hZ (hZ.k 0 rfl rfl) h4 dX3_lengthTo_16 ?_
      refine lv_goto (tgt := 21) hx hb dX3_lengthTo_17 (by decide) ?_
      obtain ⟨rfl, rfl⟩ := Prod.mk.inj (Option.some.inj hf)
      exact z_iret hx hb hr hlocks hZ trivial dX3_lengthTo_21

def f_X4_init (n : Nat) (w : Wd) (this : Nat) : Option Wd :=
  some w
set_option maxHeartbeats 4000000 in
set_option maxRecDepth 100000 in
theorem c_X4_init (l : Launch) (E : wd_E) (n : Nat) (w : Wd) (this : Nat) (w' : Wd) (k_this : wd_K w this = 5) (hf : f_X4_init n w this = some w') : wd_C l E yX4_init cX4_init 1 none 1 24 [.ref this] w none w' True := by
  refine wd_ofW (own := RX4) (nm := "<init>") (ks := [(some this, 5)]) (lv := [(0, .ref this)]) (by decide) rfl rfl (Nat.le_of_ble_eq_true rfl) rfl (List.forall_mem_cons.mpr ⟨⟨Nat.succ_ne_zero _, fun q hq => by cases hq; exact k_this⟩, (fun _ hq => absurd hq List.not_mem_nil)⟩) ?_
  intro p e s m args below meth c R H locs cells slots ls C hR hZ hl
  obtain ⟨hx, hb, hr, hml, hts, hown, hlocks, hmn, hK⟩ := id C
  unfold f_X4_init at hf
  refine lv_aload_n (i := 0) hx hb dX4_init_0 rfl (lv_at hl 0 rfl) ?_
  refine W.objInit hx hb hown (hts _ tw_678) (hts _ tw_54) (hts _ tw_55) rfl (by rw [hml]; exact hl.1) rfl dX4_init_1 (Nat.le_trans (by decide) hR.1) (Nat.le_trans (Nat.le_of_ble_eq_true rfl) hR.2) ?_
  refine W.eq (g2 := F0 m 4 ls []) rfl ?_
  obtain rfl := Option.some.inj hf
  exact z_vret hx hb hr hlocks hZ trivial dX4_init_4

def f_X4_isComplaint_j24 (n : Nat) (w : Wd) : Option (Int32 × Wd) :=
  some ((1 : Int32), w)
def f_X4_isComplaint (n : Nat) (w : Wd) (this : Nat) : Option (Int32 × Wd) :=
  if (wd_I w 400 this) = (3 : Int32) then
    f_X4_isComplaint_j24 n w
  else
    if (wd_I w 400 this) = (4 : Int32) then
      f_X4_isComplaint_j24 n w
    else
      if (wd_I w 400 this) = (5 : Int32) then
        f_X4_isComplaint_j24 n w
      else
        some ((0 : Int32), w)
set_option maxHeartbeats 4000000 in
set_option maxRecDepth 100000 in
theorem v_X4_isComplaint_j24 {p : Program} {l : Launch} {e : Env} {R : Room} {s : State} {m : MethodId} {args : Array Value} {below : List Frame} {meth : Method} {c : Code} {E : wd_E} {w0 : Wd} {r' : Int32} {w' : Wd} (n : Nat) (C : wd_X p s m args meth c cX4_isComplaint RX4 1 (some .boolean) "isComplaint" E) (hR : 0 ≤ R.frames ∧ 0 ≤ R.locals) (w : Wd) (H : Heap) (locs : List Loc) (cells slots : Nat) (ls : Array Slot) (hZ : wd_Z E w0 R s w H locs cells slots []) (hl : lv_has ls 1 []) (hf : f_X4_isComplaint_j24 n w = some (r', w')) : W p l e R s m args below meth c H locs cells slots (wd_fin E w0 (some (.int r')) w' True R args s below) (F0 m 24 ls []) := by
  obtain ⟨hx, hb, hr, hml, hts, hown, hlocks, hmn, hK⟩ := id C
  unfold f_X4_isComplaint_j24 at hf
  refine lv_iconst (v := 1) hx hb dX4_isComplaint_24 (by decide) ?_
  refine lv_goto (tgt := 29) hx hb dX4_isComplaint_25 (by decide) ?_
  obtain ⟨rfl, rfl⟩ := Prod.mk.inj (Option.some.inj hf)
  exact z_zret (by decide) hx hb hr hlocks hZ trivial dX4_isComplaint_29

set_option maxHeartbeats 4000000 in
set_option maxRecDepth 100000 in
theorem c_X4_isComplaint (l : Launch) (E : wd_E) (n : Nat) (w : Wd) (this : Nat) (r' : Int32) (w' : Wd) (k_this : wd_K w this = 5) (hf : f_X4_isComplaint n w this = some (r', w')) : wd_C l E yX4_isComplaint cX4_isComplaint 1 (some .boolean) 0 0 [.ref this] w (some (.int r')) w' True := by
  refine wd_ofW (own := RX4) (nm := "isComplaint") (ks := [(some this, 5)]) (lv := [(0, .ref this)]) (by decide) rfl rfl (Nat.le_of_ble_eq_true rfl) rfl (List.forall_mem_cons.mpr ⟨⟨Nat.succ_ne_zero _, fun q hq => by cases hq; exact k_this⟩, (fun _ hq => absurd hq List.not_mem_nil)⟩) ?_
  intro p e s m args below meth c R H locs cells slots ls C hR hZ hl
  obtain ⟨hx, hb, hr, hml, hts, hown, hlocks, hmn, hK⟩ := id C
  unfold f_X4_isComplaint at hf
  refine lv_aload_n (i := 0) hx hb dX4_isComplaint_0 rfl (lv_at hl 0 rfl) ?_
  refine z_getI fd_400 rfl hx hb hts hown hK hZ (hZ.k 0 rfl rfl) tw_679 dX4_isComplaint_1 ?_
  refine lv_iconst (v := 3) hx hb dX4_isComplaint_4 (by decide) ?_
  refine lv_icmp_eq (tgt := 24) hx hb dX4_isComplaint_5 (by decide) (fun h1 => ?_) (fun h1 => ?_)
  · replace hf := wd_ite_p h1 hf
    exact v_X4_isComplaint_j24 n C hR w _ _ _ _ _ ⟨hZ.1, hZ.2.1, hZ.2.2.1, hZ.2.2.2.1, (fun _ hq => absurd hq List.not_mem_nil), hZ.2.2.2.2.2⟩ (lv_sub hl [] rfl) hf
  · replace hf := wd_ite_n h1 hf
    refine lv_aload_n (i := 0) hx hb dX4_isComplaint_8 rfl (lv_at hl 0 rfl) ?_
    refine z_getI fd_400 rfl hx hb hts hown hK hZ (hZ.k 0 rfl rfl) tw_679 dX4_isComplaint_9 ?_
    refine lv_iconst (v := 4) hx hb dX4_isComplaint_12 (by decide) ?_
    refine lv_icmp_eq (tgt := 24) hx hb dX4_isComplaint_13 (by decide) (fun h2 => ?_) (fun h2 => ?_)
    · replace hf := wd_ite_p h2 hf
      exact v_X4_isComplaint_j24 n C hR w _ _ _ _ _ ⟨hZ.1, hZ.2.1, hZ.2.2.1, hZ.2.2.2.1, (fun _ hq => absurd hq List.not_mem_nil), hZ.2.2.2.2.2⟩ (lv_sub hl [] rfl) hf
    · replace hf := wd_ite_n h2 hf
      refine lv_aload_n (i := 0) hx hb dX4_isComplaint_16 rfl (lv_at hl 0 rfl) ?_
      refine z_getI fd_400 rfl hx hb hts hown hK hZ (hZ.k 0 rfl rfl) tw_679 dX4_isComplaint_17 ?_
      refine lv_iconst (v := 5) hx hb dX4_isComplaint_20 (by decide) ?_
      refine lv_icmp_ne (tgt := 28) hx hb dX4_isComplaint_21 (by decide) (fun h3 => ?_) (fun h3 => ?_)
      · replace hf := wd_ite_n h3 hf
        refine lv_iconst (v := 0) hx hb dX4_isComplaint_28 (by decide) ?_
        obtain ⟨rfl, rfl⟩ := Prod.mk.inj (Option.some.inj hf)
        exact z_zret (by decide) hx hb hr hlocks hZ trivial dX4_isComplaint_29
      · replace hf := wd_ite_p h3 hf
        exact v_X4_isComplaint_j24 n C hR w _ _ _ _ _ ⟨hZ.1, hZ.2.1, hZ.2.2.1, hZ.2.2.2.1, (fun _ hq => absurd hq List.not_mem_nil), hZ.2.2.2.2.2⟩ (lv_sub hl [] rfl) hf

def f_X4_cutFrom_j103 (n : Nat) (y0 : Int32) (y1 : Nat) (x0 : Nat) (x1 : Option Nat) (w : Wd) : Option Wd :=
  wd_gd (¬ (y0 = 0 ∨ y0 = 1)) <|
  wd_let (wd_sI w 409 y1 y0) fun w25 =>
  Option.bind x1 fun a27 =>
  wd_let (wd_sR w25 410 x0 (wd_R w25 410 a27)) fun w28 =>
  some w28
def f_X4_cutFrom_j98 (n : Nat) (y0 : Nat) (x0 : Nat) (x1 : Option Nat) (w : Wd) : Option Wd :=
  f_X4_cutFrom_j103 n (1 : Int32) y0 x0 x1 w
def f_X4_cutFrom (n : Nat) (w : Wd) (this : Nat) (p0 : Option Nat) (p1 : Int32) (p2 : Int32) : Option Wd :=
  Option.bind p0 fun a1 =>
  wd_let ((wd_I w 403 a1) - p1) fun v2 =>
  wd_let (wd_sI w 400 this (wd_I w 400 a1)) fun w4 =>
  wd_let (wd_sI w4 401 this (wd_I w4 401 a1)) fun w6 =>
  wd_let (wd_sI w6 402 this (wd_I w6 402 a1)) fun w8 =>
  wd_let (wd_sI w8 403 this (if v2 < p2 then v2 else p2)) fun w10 =>
  wd_let (wd_sI w10 404 this (wd_I w10 404 a1)) fun w12 =>
  wd_let (wd_sI w12 405 this (wd_I w12 405 a1)) fun w14 =>
  wd_let (wd_sI w14 406 this (wd_I w14 406 a1)) fun w16 =>
  wd_let (wd_sI w16 407 this ((wd_I w16 407 a1) + p1)) fun w18 =>
  wd_gd (¬ ((wd_I w18 408 a1) = 0 ∨ (wd_I w18 408 a1) = 1)) <|
  wd_let (wd_sI w18 408 this (wd_I w18 408 a1)) fun w21 =>
  if (wd_I w21 409 a1) = 0 then
    if v2 ≤ p2 then
      f_X4_cutFrom_j103 n (0 : Int32) this this (some a1) w21
    else
      f_X4_cutFrom_j98 n this this (some a1) w21
  else
    f_X4_cutFrom_j98 n this this (some a1) w21
set_option maxHeartbeats 4000000 in
set_option maxRecDepth 100000 in
theorem v_X4_cutFrom_j103 {p : Program} {l : Launch} {e : Env} {R : Room} {s : State} {m : MethodId} {args : Array Value} {below : List Frame} {meth : Method} {c : Code} {E : wd_E} {w0 : Wd} {w' : Wd} (n : Nat) (C : wd_X p s m args meth c cX4_cutFrom RX4 5 none "cutFrom" E) (hR : 1 ≤ R.frames ∧ 24 ≤ R.locals) (y0 : Int32) (y1 : Nat) (x0 : Nat) (x1 : Option Nat) (w : Wd) (H : Heap) (locs : List Loc) (cells slots : Nat) (ls : Array Slot) (hZ : wd_Z E w0 R s w H locs cells slots [(some y1, 5), (some x0, 5), (x1, 5)]) (hl : lv_has ls 5 [(0, .ref x0), (1, va_rf x1)]) (hf : f_X4_cutFrom_j103 n y0 y1 x0 x1 w = some w') : W p l e R s m args below meth c H locs cells slots (wd_fin E w0 none w' True R args s below) (F0 m 103 ls [.int y0, .ref y1]) := by
  obtain ⟨hx, hb, hr, hml, hts, hown, hlocks, hmn, hK⟩ := id C
  unfold f_X4_cutFrom_j103 at hf
  have hf9 := wd_gd_e hf; clear hf; obtain ⟨h24, hf⟩ := hf9
  refine z_putI fd_409 cok_4 rfl rfl rfl (wd_zn h24) (wd_zf h24) hx hb hts hown hK hZ (hZ.k 0 rfl rfl) tw_712 dX4_cutFrom_103 ?_; clear hZ; intro H locs hZ
  have hf9 := wd_let_e hf; clear hf; obtain ⟨w25, e26, hf⟩ := hf9
  rw [e26] at hZ
  refine lv_aload_n (i := 0) hx hb dX4_cutFrom_106 rfl (lv_at hl 0 rfl) ?_
  refine z_aload_n (i := 1) hx hb dX4_cutFrom_107 rfl (lv_at hl 1 rfl) ?_
  have hf9 := Option.bind_eq_some_iff.mp hf; clear hf; obtain ⟨a27, ha27, hf⟩ := hf9
  subst ha27
  replace hl : lv_has ls 5 [(0, .ref x0), (1, .ref a27)] := hl
  replace hZ : wd_Z E w0 R s w25 H locs cells slots [(some y1, 5), (some x0, 5), (some a27, 5)] := hZ
  refine z_getR (tk := 4) fd_410 rfl hx hb hts hown hK hZ (hZ.k 2 rfl rfl) tw_716 dX4_cutFrom_108 ?_; clear hZ; intro hZ
  refine z_putR (r := (wd_R w25 410 a27)) rfl fd_410 cok_4 (tk := 4) rfl (fun q hq => hZ.k 0 rfl hq) rfl rfl (wd_obO _) hx hb hts hown hK hZ (hZ.k 2 rfl rfl) tw_716 dX4_cutFrom_111 ?_; clear hZ; intro H locs hZ
  have hf9 := wd_let_e hf; clear hf; obtain ⟨w28, e29, hf⟩ := hf9
  rw [e29] at hZ
  obtain rfl := Option.some.inj hf
  exact z_vret hx hb hr hlocks hZ trivial dX4_cutFrom_114

set_option maxHeartbeats 4000000 in
set_option maxRecDepth 100000 in
theorem v_X4_cutFrom_j98 {p : Program} {l : Launch} {e : Env} {R : Room} {s : State} {m : MethodId} {args : Array Value} {below : List Frame} {meth : Method} {c : Code} {E : wd_E} {w0 : Wd} {w' : Wd} (n : Nat) (C : wd_X p s m args meth c cX4_cutFrom RX4 5 none "cutFrom" E) (hR : 1 ≤ R.frames ∧ 24 ≤ R.locals) (y0 : Nat) (x0 : Nat) (x1 : Option Nat) (w : Wd) (H : Heap) (locs : List Loc) (cells slots : Nat) (ls : Array Slot) (hZ : wd_Z E w0 R s w H locs cells slots [(some y0, 5), (some x0, 5), (x1, 5)]) (hl : lv_has ls 5 [(0, .ref x0), (1, va_rf x1)]) (hf : f_X4_cutFrom_j98 n y0 x0 x1 w = some w') : W p l e R s m args below meth c H locs cells slots (wd_fin E w0 none w' True R args s below) (F0 m 98 ls [.ref y0]) := by
  obtain ⟨hx, hb, hr, hml, hts, hown, hlocks, hmn, hK⟩ := id C
  unfold f_X4_cutFrom_j98 at hf
  refine lv_iconst (v := 1) hx hb dX4_cutFrom_98 (by decide) ?_
  refine lv_goto (tgt := 103) hx hb dX4_cutFrom_99 (by decide) ?_
  exact v_X4_cutFrom_j103 n C hR (1 : Int32) y0 x0 x1 w _ _ _ _ _ ⟨hZ.1, hZ.2.1, hZ.2.2.1, hZ.2.2.2.1, (List.forall_mem_cons.mpr ⟨⟨Nat.succ_ne_zero _, (fun q hq => by cases hq; exact (hZ.k 0 rfl rfl))⟩, (List.forall_mem_cons.mpr ⟨⟨Nat.succ_ne_zero _, (fun q hq => by cases hq; exact (hZ.k 1 rfl rfl))⟩, (List.forall_mem_cons.mpr ⟨⟨Nat.succ_ne_zero _, (fun q hq => hZ.k 2 rfl hq)⟩, (fun _ hq => absurd hq List.not_mem_nil)⟩)⟩)⟩), hZ.2.2.2.2.2⟩ (lv_sub hl [0, 1] rfl) hf

set_option maxHeartbeats 4000000 in
set_option maxRecDepth 100000 in
theorem c_X4_cutFrom (l : Launch) (E : wd_E) (n : Nat) (w : Wd) (this : Nat) (p0 : Option Nat) (p1 : Int32) (p2 : Int32) (w' : Wd) (k_this : wd_K w this = 5) (k_p0 : ∀ q, p0 = some q → wd_K w q = 5) (hf : f_X4_cutFrom n w this p0 p1 p2 = some w') : wd_C l E yX4_cutFrom cX4_cutFrom 5 none 1 24 [.ref this, va_rf p0, .int p1, .int p2] w none w' True := by
  refine wd_ofW (own := RX4) (nm := "cutFrom") (ks := [(some this, 5), (p0, 5)]) (lv := [(0, .ref this), (1, va_rf p0), (2, .int p1), (3, .int p2)]) (by decide) rfl rfl (by simp [lg_sl, va_rf_cat, va_cat_r, va_cat_i, va_cat_l, va_cat_d]) (by simp [lv_args, va_rf_cat, va_cat_r, va_cat_i, va_cat_l, va_cat_d]) (List.forall_mem_cons.mpr ⟨⟨Nat.succ_ne_zero _, fun q hq => by cases hq; exact k_this⟩, (List.forall_mem_cons.mpr ⟨⟨Nat.succ_ne_zero _, k_p0⟩, (fun _ hq => absurd hq List.not_mem_nil)⟩)⟩) ?_
  intro p e s m args below meth c R H locs cells slots ls C hR hZ hl
  obtain ⟨hx, hb, hr, hml, hts, hown, hlocks, hmn, hK⟩ := id C
  unfold f_X4_cutFrom at hf
  refine z_aload_n (i := 1) hx hb dX4_cutFrom_0 rfl (lv_at hl 1 rfl) ?_
  have hf9 := Option.bind_eq_some_iff.mp hf; clear hf; obtain ⟨a1, ha1, hf⟩ := hf9
  subst ha1
  replace hl : lv_has ls 5 [(0, .ref this), (1, .ref a1), (2, .int p1), (3, .int p2)] := hl
  replace hZ : wd_Z E w R s w H locs cells slots [(some this, 5), (some a1, 5)] := hZ
  refine z_getI fd_403 rfl hx hb hts hown hK hZ (hZ.k 1 rfl rfl) tw_689 dX4_cutFrom_1 ?_
  refine lv_iload_n (i := 2) hx hb dX4_cutFrom_4 rfl (lv_at hl 2 rfl) ?_
  refine lv_isub hx hb dX4_cutFrom_5 ?_
  have hf9 := wd_let_e hf; clear hf; obtain ⟨v2, e3, hf⟩ := hf9
  rw [e3]
  refine lv_istore (i := 4) (lv' := [(4, .int v2), (0, .ref this), (1, .ref a1), (2, .int p1), (3, .int p2)]) hx hb dX4_cutFrom_6 hl (by decide) rfl ?_; clear hl; intro ls hl
  refine lv_aload_n (i := 0) hx hb dX4_cutFrom_8 rfl (lv_at hl 1 rfl) ?_
  refine lv_aload_n (i := 1) hx hb dX4_cutFrom_9 rfl (lv_at hl 2 rfl) ?_
  refine z_getI fd_400 rfl hx hb hts hown hK hZ (hZ.k 1 rfl rfl) tw_679 dX4_cutFrom_10 ?_
  refine z_putI fd_400 cok_4 rfl rfl rfl rfl rfl hx hb hts hown hK hZ (hZ.k 0 rfl rfl) tw_679 dX4_cutFrom_13 ?_; clear hZ; intro H locs hZ
  have hf9 := wd_let_e hf; clear hf; obtain ⟨w4, e5, hf⟩ := hf9
  rw [e5] at hZ
  refine lv_aload_n (i := 0) hx hb dX4_cutFrom_16 rfl (lv_at hl 1 rfl) ?_
  refine lv_aload_n (i := 1) hx hb dX4_cutFrom_17 rfl (lv_at hl 2 rfl) ?_
  refine z_getI fd_401 rfl hx hb hts hown hK hZ (hZ.k 1 rfl rfl) tw_684 dX4_cutFrom_18 ?_
  refine z_putI fd_401 cok_4 rfl rfl rfl rfl rfl hx hb hts hown hK hZ (hZ.k 0 rfl rfl) tw_684 dX4_cutFrom_21 ?_; clear hZ; intro H locs hZ
  have hf9 := wd_let_e hf; clear hf; obtain ⟨w6, e7, hf⟩ := hf9
  rw [e7] at hZ
  refine lv_aload_n (i := 0) hx hb dX4_cutFrom_24 rfl (lv_at hl 1 rfl) ?_
  refine lv_aload_n (i := 1) hx hb dX4_cutFrom_25 rfl (lv_at hl 2 rfl) ?_
  refine z_getI fd_402 rfl hx hb hts hown hK hZ (hZ.k 1 rfl rfl) tw_687 dX4_cutFrom_26 ?_
  refine z_putI fd_402 cok_4 rfl rfl rfl rfl rfl hx hb hts hown hK hZ (hZ.k 0 rfl rfl) tw_687 dX4_cutFrom_29 ?_; clear hZ; intro H locs hZ
  have hf9 := wd_let_e hf; clear hf; obtain ⟨w8, e9, hf⟩ := hf9
  rw [e9] at hZ
  refine lv_aload_n (i := 0) hx hb dX4_cutFrom_32 rfl (lv_at hl 1 rfl) ?_
  refine lv_iload_n (i := 3) hx hb dX4_cutFrom_33 rfl (lv_at hl 4 rfl) ?_
  refine lv_iload hx hb dX4_cutFrom_34 (lv_at hl 0 rfl) ?_
  have hb3 := hZ.2.2.1
  refine va_mmin hx hb (hml.trans hl.1.symm) hown (hts _ tw_858) (hts _ tw_859) (hts _ tw_46) (hts _ tw_860) (Nat.le_trans (by decide) hR.1) (Nat.le_trans (Nat.le_of_ble_eq_true rfl) hR.2) (by omega) (by omega) dX4_cutFrom_36 ?_
  refine z_putI fd_403 cok_4 rfl rfl rfl rfl rfl hx hb hts hown hK hZ (hZ.k 0 rfl rfl) tw_689 dX4_cutFrom_39 ?_; clear hZ; intro H locs hZ
  have hf9 := wd_let_e hf; clear hf; obtain ⟨w10, e11, hf⟩ := hf9
  rw [e11] at hZ
  refine lv_aload_n (i := 0) hx hb dX4_cutFrom_42 rfl (lv_at hl 1 rfl) ?_
  refine lv_aload_n (i := 1) hx hb dX4_cutFrom_43 rfl (lv_at hl 2 rfl) ?_
  refine z_getI fd_404 rfl hx hb hts hown hK hZ (hZ.k 1 rfl rfl) tw_694 dX4_cutFrom_44 ?_
  refine z_putI fd_404 cok_4 rfl rfl rfl rfl rfl hx hb hts hown hK hZ (hZ.k 0 rfl rfl) tw_694 dX4_cutFrom_47 ?_; clear hZ; intro H locs hZ
  have hf9 := wd_let_e hf; clear hf; obtain ⟨w12, e13, hf⟩ := hf9
  rw [e13] at hZ
  refine lv_aload_n (i := 0) hx hb dX4_cutFrom_50 rfl (lv_at hl 1 rfl) ?_
  refine lv_aload_n (i := 1) hx hb dX4_cutFrom_51 rfl (lv_at hl 2 rfl) ?_
  refine z_getI fd_405 rfl hx hb hts hown hK hZ (hZ.k 1 rfl rfl) tw_699 dX4_cutFrom_52 ?_
  refine z_putI fd_405 cok_4 rfl rfl rfl rfl rfl hx hb hts hown hK hZ (hZ.k 0 rfl rfl) tw_699 dX4_cutFrom_55 ?_; clear hZ; intro H locs hZ
  have hf9 := wd_let_e hf; clear hf; obtain ⟨w14, e15, hf⟩ := hf9
  rw [e15] at hZ
  refine lv_aload_n (i := 0) hx hb dX4_cutFrom_58 rfl (lv_at hl 1 rfl) ?_
  refine lv_aload_n (i := 1) hx hb dX4_cutFrom_59 rfl (lv_at hl 2 rfl) ?_
  refine z_getI fd_406 rfl hx hb hts hown hK hZ (hZ.k 1 rfl rfl) tw_702 dX4_cutFrom_60 ?_
  refine z_putI fd_406 cok_4 rfl rfl rfl rfl rfl hx hb hts hown hK hZ (hZ.k 0 rfl rfl) tw_702 dX4_cutFrom_63 ?_; clear hZ; intro H locs hZ
  have hf9 := wd_let_e hf; clear hf; obtain ⟨w16, e17, hf⟩ := hf9
  rw [e17] at hZ
  refine lv_aload_n (i := 0) hx hb dX4_cutFrom_66 rfl (lv_at hl 1 rfl) ?_
  refine lv_aload_n (i := 1) hx hb dX4_cutFrom_67 rfl (lv_at hl 2 rfl) ?_
  refine z_getI fd_407 rfl hx hb hts hown hK hZ (hZ.k 1 rfl rfl) tw_705 dX4_cutFrom_68 ?_
  refine lv_iload_n (i := 2) hx hb dX4_cutFrom_71 rfl (lv_at hl 3 rfl) ?_
  refine lv_iadd hx hb dX4_cutFrom_72 ?_
  refine z_putI fd_407 cok_4 rfl rfl rfl rfl rfl hx hb hts hown hK hZ (hZ.k 0 rfl rfl) tw_705 dX4_cutFrom_73 ?_; clear hZ; intro H locs hZ
  have hf9 := wd_let_e hf; clear hf; obtain ⟨w18, e19, hf⟩ := hf9
  rw [e19] at hZ
  refine lv_aload_n (i := 0) hx hb dX4_cutFrom_76 rfl (lv_at hl 1 rfl) ?_
  refine lv_aload_n (i := 1) hx hb dX4_cutFrom_77 rfl (lv_at hl 2 rfl) ?_
  refine z_getI fd_408 rfl hx hb hts hown hK hZ (hZ.k 1 rfl rfl) tw_710 dX4_cutFrom_78 ?_
  have hf9 := wd_gd_e hf; clear hf; obtain ⟨h20, hf⟩ := hf9
  refine z_putI fd_408 cok_4 rfl rfl rfl (wd_zn h20) (wd_zf h20) hx hb hts hown hK hZ (hZ.k 0 rfl rfl) tw_710 dX4_cutFrom_81 ?_; clear hZ; intro H locs hZ
  have hf9 := wd_let_e hf; clear hf; obtain ⟨w21, e22, hf⟩ := hf9
  rw [e22] at hZ
  refine lv_aload_n (i := 0) hx hb dX4_cutFrom_84 rfl (lv_at hl 1 rfl) ?_
  refine lv_aload_n (i := 1) hx hb dX4_cutFrom_85 rfl (lv_at hl 2 rfl) ?_
  refine z_getI fd_409 rfl hx hb hts hown hK hZ (hZ.k 1 rfl rfl) tw_712 dX4_cutFrom_86 ?_
  refine lv_if_ne (tgt := 98) hx hb dX4_cutFrom_89 (by decide) (fun h23 => ?_) (fun h23 => ?_)
  · replace hf := wd_ite_n h23 hf
    exact v_X4_cutFrom_j98 n C hR this this (some a1) w21 _ _ _ _ _ ⟨hZ.1, hZ.2.1, hZ.2.2.1, hZ.2.2.2.1, (List.forall_mem_cons.mpr ⟨⟨Nat.succ_ne_zero _, (fun q hq => by cases hq; exact (hZ.k 0 rfl rfl))⟩, (List.forall_mem_cons.mpr ⟨⟨Nat.succ_ne_zero _, (fun q hq => by cases hq; exact (hZ.k 0 rfl rfl))⟩, (List.forall_mem_cons.mpr ⟨⟨Nat.succ_ne_zero _, (fun q hq => by cases hq; exact (hZ.k 1 rfl rfl))⟩, (fun _ hq => absurd hq List.not_mem_nil)⟩)⟩)⟩), hZ.2.2.2.2.2⟩ (lv_sub hl [1, 2] rfl) hf
  · replace hf := wd_ite_p h23 hf
    refine lv_iload hx hb dX4_cutFrom_92 (lv_at hl 0 rfl) ?_
    refine lv_iload_n (i := 3) hx hb dX4_cutFrom_94 rfl (lv_at hl 4 rfl) ?_
    refine lv_icmp_le (tgt := 102) hx hb dX4_cutFrom_95 (by decide) (fun h30 => ?_) (fun h30 => ?_)
    · replace hf := wd_ite_p h30 hf
      refine lv_iconst (v := 0) hx hb dX4_cutFrom_102 (by decide) ?_
      exact v_X4_cutFrom_j103 n C hR (0 : Int32) this this (some a1) w21 _ _ _ _ _ ⟨hZ.1, hZ.2.1, hZ.2.2.1, hZ.2.2.2.1, (List.forall_mem_cons.mpr ⟨⟨Nat.succ_ne_zero _, (fun q hq => by cases hq; exact (hZ.k 0 rfl rfl))⟩, (List.forall_mem_cons.mpr ⟨⟨Nat.succ_ne_zero _, (fun q hq => by cases hq; exact (hZ.k 0 rfl rfl))⟩, (List.forall_mem_cons.mpr ⟨⟨Nat.succ_ne_zero _, (fun q hq => by cases hq; exact (hZ.k 1 rfl rfl))⟩, (fun _ hq => absurd hq List.not_mem_nil)⟩)⟩)⟩), hZ.2.2.2.2.2⟩ (lv_sub hl [1, 2] rfl) hf
    · replace hf := wd_ite_n h30 hf
      exact v_X4_cutFrom_j98 n C hR this this (some a1) w21 _ _ _ _ _ ⟨hZ.1, hZ.2.1, hZ.2.2.1, hZ.2.2.2.1, (List.forall_mem_cons.mpr ⟨⟨Nat.succ_ne_zero _, (fun q hq => by cases hq; exact (hZ.k 0 rfl rfl))⟩, (List.forall_mem_cons.mpr ⟨⟨Nat.succ_ne_zero _, (fun q hq => by cases hq; exact (hZ.k 0 rfl rfl))⟩, (List.forall_mem_cons.mpr ⟨⟨Nat.succ_ne_zero _, (fun q hq => by cases hq; exact (hZ.k 1 rfl rfl))⟩, (fun _ hq => absurd hq List.not_mem_nil)⟩)⟩)⟩), hZ.2.2.2.2.2⟩ (lv_sub hl [1, 2] rfl) hf

def f_X5_init_l33 (n : Nat) (rec33 : Nat → Int32 → Wd → Option Wd) (x0 : Nat) (x1 : Int32) (w : Wd) : Option Wd :=
  if (8 : Int32) ≤ x1 then
    some w
  else
    wd_gd (wd_M w = 0 ∨ wd_S w < 13) <|
    wd_let (wd_H w) fun a24 =>
    wd_let (wd_nw w 4 0 13) fun w26 =>
    Option.bind (f_X3_init n w26 a24 x1) fun w28 =>
    Option.bind (wd_R w 502 x0) fun a30 =>
    wd_gd (x1 < 0 ∨ wd_N w28 a30 ≤ x1.toNatClampNeg) <|
    wd_let (wd_sQ w28 a30 x1.toNatClampNeg (some a24)) fun w32 =>
    wd_let (x1 + 1) fun v34 =>
    rec33 x0 v34 w32
def f_X5_init (n : Nat) (w : Wd) (this : Nat) : Option Wd :=
  wd_gd (wd_M w = 0 ∨ wd_S w < 8) <|
  wd_let (wd_H w) fun a2 =>
  wd_let (wd_nw w 21 8 8) fun w4 =>
  wd_let (wd_sR w4 500 this (some a2)) fun w6 =>
  wd_gd (wd_M w6 = 0 ∨ wd_S w6 < 8) <|
  wd_let (wd_H w6) fun a9 =>
  wd_let (wd_nw w6 23 8 8) fun w11 =>
  wd_let (wd_sR w11 502 this (some a9)) fun w13 =>
  wd_gd (wd_M w13 = 0 ∨ wd_S w13 < 256) <|
  wd_let (wd_H w13) fun a16 =>
  wd_let (wd_nw w13 22 256 256) fun w18 =>
  wd_let (wd_sR w18 504 this (some a16)) fun w20 =>
  wd_lp3 (f_X5_init_l33 n) n this (0 : Int32) w20
set_option maxHeartbeats 4000000 in
set_option maxRecDepth 100000 in
theorem v_X5_init_b33 {p : Program} {l : Launch} {e : Env} {R : Room} {s : State} {m : MethodId} {args : Array Value} {below : List Frame} {meth : Method} {c : Code} {E : wd_E} {w0 : Wd} {w' : Wd} (n : Nat) (C : wd_X p s m args meth c cX5_init RX5 2 none "<init>" E) (hR : 2 ≤ R.frames ∧ 45 ≤ R.locals) (rec33 : Nat → Int32 → Wd → Option Wd) (hrec33 : ∀ (x0_ : Nat) (x1_ : Int32) (w_ : Wd) (H : Heap) (locs : List Loc) (cells slots : Nat) (ls : Array Slot), wd_Z E w0 R s w_ H locs cells slots [(some x0_, 6)] → lv_has ls 2 [(0, .ref x0_), (1, .int x1_)] → rec33 x0_ x1_ w_ = some w' → W p l e R s m args below meth c H locs cells slots (wd_fin E w0 none w' True R args s below) (F0 m 33 ls [])) (x0 : Nat) (x1 : Int32) (w : Wd) (H : Heap) (locs : List Loc) (cells slots : Nat) (ls : Array Slot) (hZ : wd_Z E w0 R s w H locs cells slots [(some x0, 6)]) (hl : lv_has ls 2 [(0, .ref x0), (1, .int x1)]) (hf : f_X5_init_l33 n rec33 x0 x1 w = some w') : W p l e R s m args below meth c H locs cells slots (wd_fin E w0 none w' True R args s below) (F0 m 33 ls []) := by
  obtain ⟨hx, hb, hr, hml, hts, hown, hlocks, hmn, hK⟩ := id C
  unfold f_X5_init_l33 at hf
  refine lv_iload_n (i := 1) hx hb dX5_init_33 rfl (lv_at hl 1 rfl) ?_
  refine lv_bipush (v := 8) hx hb dX5_init_34 (by decide) ?_
  refine lv_icmp_ge (tgt := 59) hx hb dX5_init_36 (by decide) (fun h22 => ?_) (fun h22 => ?_)
  · replace hf := wd_ite_p h22 hf
    obtain rfl := Option.some.inj hf
    exact z_vret hx hb hr hlocks hZ trivial dX5_init_59
  · replace hf := wd_ite_n h22 hf
    refine lv_aload_n (i := 0) hx hb dX5_init_39 rfl (lv_at hl 0 rfl) ?_
    refine z_getR (tk := 22) fd_502 rfl hx hb hts hown hK hZ (hZ.k 0 rfl rfl) tw_121 dX5_init_40 ?_; clear hZ; intro hZ
    refine lv_iload_n (i := 1) hx hb dX5_init_43 rfl (lv_at hl 1 rfl) ?_
    have hf9 := wd_gd_e hf; clear hf; obtain ⟨h23, hf⟩ := hf9
    refine z_new cok_3 hx hb hts hown hK hZ tw_62 tw_66 tw_29 h23 dX5_init_44 ?_; clear hZ; intro H cells slots hZ
    have hf9 := wd_let_e hf; clear hf; obtain ⟨a24, e25, hf⟩ := hf9
    rw [e25]
    rw [e25] at hZ
    have hf9 := wd_let_e hf; clear hf; obtain ⟨w26, e27, hf⟩ := hf9
    rw [e27] at hZ
    refine lv_dup hx hb dX5_init_47 rfl ?_
    refine lv_iload_n (i := 1) hx hb dX5_init_48 rfl (lv_at hl 1 rfl) ?_
    have hf9 := Option.bind_eq_some_iff.mp hf; clear hf; obtain ⟨w28, hc29, hf⟩ := hf9
    refine z_callI (As := [.int x1]) (rest := [.ref a24, .int x1, va_rf (wd_R w 502 x0)]) (c_X3_init l E n w26 a24 x1 w28 (hZ.k 0 rfl rfl) hc29) mo_X3_init rfl tw_68 tw_67 hx hb hml hts hown hK ⟨Nat.le_trans (by decide) hR.1, Nat.le_trans (by decide) hR.2⟩ hZ rfl hl.1 rfl (by simp [va_rf_cat, va_cat_r, va_cat_i, va_cat_l, va_cat_d]) dX5_init_49 ?_; clear hZ; intro H locs cells slots hX hZ
    have hf9 := Option.bind_eq_some_iff.mp hf; clear hf; obtain ⟨a30, ha30, hf⟩ := hf9
    replace hZ := hZ.add (r := some a30) (k := 23) (Nat.succ_ne_zero _) (fun q hq => by cases hq; exact hZ.k 1 rfl ha30)
    rw [ha30]
    have hf9 := wd_gd_e hf; clear hf; obtain ⟨h31, hf⟩ := hf9
    refine z_aast (k := 23) (ci := 3) (by decide) (by decide) rfl rfl (by decide) rfl hx hb hK hZ (hZ.k 0 rfl rfl) (hZ.k 1 rfl rfl) h31 dX5_init_52 ?_; clear hZ; intro H locs hZ
    have hf9 := wd_let_e hf; clear hf; obtain ⟨w32, e33, hf⟩ := hf9
    rw [e33] at hZ
    have hf9 := wd_let_e hf; clear hf; obtain ⟨v34, e35, hf⟩ := hf9
    refine lv_iinc (k := 1) (v := v34) (lv' := [(1, .int v34), (0, .ref x0)]) hx hb dX5_init_53 hl rfl (by rw [← e35]; rfl) (by decide) rfl ?_; clear hl; intro ls hl
    refine lv_goto (tgt := 33) hx hb dX5_init_56 (by decide) ?_
    exact hrec33 x0 v34 w32 _ _ _ _ _ ⟨hZ.1, hZ.2.1, hZ.2.2.1, hZ.2.2.2.1, (List.forall_mem_cons.mpr ⟨⟨Nat.succ_ne_zero _, (fun q hq => by cases hq; exact (hZ.k 3 rfl rfl))⟩, (fun _ hq => absurd hq List.not_mem_nil)⟩), hZ.2.2.2.2.2⟩ (lv_sub hl [1, 0] rfl) hf

theorem v_X5_init_l33 {p : Program} {l : Launch} {e : Env} {R : Room} {s : State} {m : MethodId} {args : Array Value} {below : List Frame} {meth : Method} {c : Code} {E : wd_E} {w0 : Wd} {w' : Wd} (n : Nat) (C : wd_X p s m args meth c cX5_init RX5 2 none "<init>" E) (hR : 2 ≤ R.frames ∧ 45 ≤ R.locals) : ∀ (k : Nat) (x0 : Nat) (x1 : Int32) (w : Wd) (H : Heap) (locs : List Loc) (cells slots : Nat) (ls : Array Slot), wd_Z E w0 R s w H locs cells slots [(some x0, 6)] → lv_has ls 2 [(0, .ref x0), (1, .int x1)] → wd_lp3 (f_X5_init_l33 n) k x0 x1 w = some w' → W p l e R s m args below meth c H locs cells slots (wd_fin E w0 none w' True R args s below) (F0 m 33 ls []) := by
  intro k
  induction k with
  | zero => intro _ _ _ _ _ _ _ _ _ _ hf; cases hf
  | succ k ih =>
    intro x0 x1 w H locs cells slots ls hZ hl hf
    exact v_X5_init_b33 n C hR (wd_lp3 (f_X5_init_l33 n) k) ih x0 x1 w H locs cells slots ls hZ hl hf

set_option maxHeartbeats 4000000 in
set_option maxRecDepth 100000 in
theorem c_X5_init (l : Launch) (E : wd_E) (n : Nat) (w : Wd) (this : Nat) (w' : Wd) (k_this : wd_K w this = 6) (hf : f_X5_init n w this = some w') : wd_C l E yX5_init cX5_init 2 none 2 45 [.ref this] w none w' True := by
  refine wd_ofW (own := RX5) (nm := "<init>") (ks := [(some this, 6)]) (lv := [(0, .ref this)]) (by decide) rfl rfl (Nat.le_of_ble_eq_true rfl) rfl (List.forall_mem_cons.mpr ⟨⟨Nat.succ_ne_zero _, fun q hq => by cases hq; exact k_this⟩, (fun _ hq => absurd hq List.not_mem_nil)⟩) ?_
  intro p e s m args below meth c R H locs cells slots ls C hR hZ hl
  obtain ⟨hx, hb, hr, hml, hts, hown, hlocks, hmn, hK⟩ := id C
  unfold f_X5_init at hf
  refine lv_aload_n (i := 0) hx hb dX5_init_0 rfl (lv_at hl 0 rfl) ?_
  refine W.objInit hx hb hown (hts _ tw_61) (hts _ tw_54) (hts _ tw_55) rfl (by rw [hml]; exact hl.1) rfl dX5_init_1 (Nat.le_trans (by decide) hR.1) (Nat.le_trans (Nat.le_of_ble_eq_true rfl) hR.2) ?_
  refine W.eq (g2 := F0 m 4 ls []) rfl ?_
  refine lv_aload_n (i := 0) hx hb dX5_init_4 rfl (lv_at hl 0 rfl) ?_
  refine lv_bipush (v := 8) hx hb dX5_init_5 (by decide) ?_
  have hf9 := wd_gd_e hf; clear hf; obtain ⟨h1, hf⟩ := hf9
  refine z_newa (N := 8) hx hb hts hK hZ tw_117 (by decide) (by decide) (by decide) h1 dX5_init_7 ?_; clear hZ; intro H cells slots hZ
  have hf9 := wd_let_e hf; clear hf; obtain ⟨a2, e3, hf⟩ := hf9
  rw [e3]
  rw [e3] at hZ
  have hf9 := wd_let_e hf; clear hf; obtain ⟨w4, e5, hf⟩ := hf9
  rw [e5] at hZ
  refine z_putFR (r := (some a2)) rfl hmn rfl fd_500 cok_5 (tk := 20) rfl (fun q hq => by cases hq; exact (hZ.k 0 rfl rfl)) rfl rfl (wd_obA _) hx hb hts hown hK hZ (hZ.k 1 rfl rfl) tw_118 dX5_init_9 ?_; clear hZ; intro H locs hZ
  have hf9 := wd_let_e hf; clear hf; obtain ⟨w6, e7, hf⟩ := hf9
  rw [e7] at hZ
  refine lv_aload_n (i := 0) hx hb dX5_init_12 rfl (lv_at hl 0 rfl) ?_
  refine lv_bipush (v := 8) hx hb dX5_init_13 (by decide) ?_
  have hf9 := wd_gd_e hf; clear hf; obtain ⟨h8, hf⟩ := hf9
  refine z_anew (k := 23) (N := 8) (by decide) (by decide) rfl hK.2.2.1.2.1 hx hb hts hown hK hZ tw_62 (by decide) (by decide) (by decide) h8 dX5_init_15 ?_; clear hZ; intro H cells slots hZ
  have hf9 := wd_let_e hf; clear hf; obtain ⟨a9, e10, hf⟩ := hf9
  rw [e10]
  rw [e10] at hZ
  have hf9 := wd_let_e hf; clear hf; obtain ⟨w11, e12, hf⟩ := hf9
  rw [e12] at hZ
  refine z_putFR (r := (some a9)) rfl hmn rfl fd_502 cok_5 (tk := 22) rfl (fun q hq => by cases hq; exact (hZ.k 0 rfl rfl)) rfl rfl (wd_obA _) hx hb hts hown hK hZ (hZ.k 2 rfl rfl) tw_121 dX5_init_18 ?_; clear hZ; intro H locs hZ
  have hf9 := wd_let_e hf; clear hf; obtain ⟨w13, e14, hf⟩ := hf9
  rw [e14] at hZ
  refine lv_aload_n (i := 0) hx hb dX5_init_21 rfl (lv_at hl 0 rfl) ?_
  refine lv_sipush (v := 256) hx hb dX5_init_22 (by decide) ?_
  have hf9 := wd_gd_e hf; clear hf; obtain ⟨h15, hf⟩ := hf9
  refine z_anew (k := 22) (N := 256) (by decide) (by decide) rfl hK.2.2.1.1 hx hb hts hown hK hZ tw_64 (by decide) (by decide) (by decide) h15 dX5_init_25 ?_; clear hZ; intro H cells slots hZ
  have hf9 := wd_let_e hf; clear hf; obtain ⟨a16, e17, hf⟩ := hf9
  rw [e17]
  rw [e17] at hZ
  have hf9 := wd_let_e hf; clear hf; obtain ⟨w18, e19, hf⟩ := hf9
  rw [e19] at hZ
  refine z_putFR (r := (some a16)) rfl hmn rfl fd_504 cok_5 (tk := 21) rfl (fun q hq => by cases hq; exact (hZ.k 0 rfl rfl)) rfl rfl (wd_obA _) hx hb hts hown hK hZ (hZ.k 3 rfl rfl) tw_125 dX5_init_28 ?_; clear hZ; intro H locs hZ
  have hf9 := wd_let_e hf; clear hf; obtain ⟨w20, e21, hf⟩ := hf9
  rw [e21] at hZ
  refine lv_iconst (v := 0) hx hb dX5_init_31 (by decide) ?_
  refine lv_istore_n (i := 1) (lv' := [(1, .int (0 : Int32)), (0, .ref this)]) hx hb dX5_init_32 rfl hl (by decide) rfl ?_; clear hl; intro ls hl
  exact v_X5_init_l33 n C hR n this (0 : Int32) w20 _ _ _ _ _ ⟨hZ.1, hZ.2.1, hZ.2.2.1, hZ.2.2.2.1, (List.forall_mem_cons.mpr ⟨⟨Nat.succ_ne_zero _, (fun q hq => by cases hq; exact (hZ.k 3 rfl rfl))⟩, (fun _ hq => absurd hq List.not_mem_nil)⟩), hZ.2.2.2.2.2⟩ (lv_sub hl [1, 0] rfl) hf

def f_X5_putCable (n : Nat) (w : Wd) (this : Nat) (p0 : Int32) : Option (Int32 × Wd) :=
  if (wd_I w 501 this) < (8 : Int32) then
    Option.bind (wd_R w 500 this) fun a2 =>
    wd_gd ((wd_I w 501 this) < 0 ∨ wd_N w a2 ≤ (wd_I w 501 this).toNatClampNeg) <|
    wd_let (wd_sA w a2 (wd_I w 501 this).toNatClampNeg p0) fun w4 =>
    wd_let (wd_sI w4 501 this ((wd_I w4 501 this) + (1 : Int32))) fun w6 =>
    some (((wd_I w6 501 this) - (1 : Int32)), w6)
  else
    some ((-1 : Int32), w)
set_option maxHeartbeats 4000000 in
set_option maxRecDepth 100000 in
theorem c_X5_putCable (l : Launch) (E : wd_E) (n : Nat) (w : Wd) (this : Nat) (p0 : Int32) (r' : Int32) (w' : Wd) (k_this : wd_K w this = 6) (hf : f_X5_putCable n w this p0 = some (r', w')) : wd_C l E yX5_putCable cX5_putCable 2 (some .int) 0 0 [.ref this, .int p0] w (some (.int r')) w' True := by
  refine wd_ofW (own := RX5) (nm := "putCable") (ks := [(some this, 6)]) (lv := [(0, .ref this), (1, .int p0)]) (by decide) rfl rfl (Nat.le_of_ble_eq_true rfl) rfl (List.forall_mem_cons.mpr ⟨⟨Nat.succ_ne_zero _, fun q hq => by cases hq; exact k_this⟩, (fun _ hq => absurd hq List.not_mem_nil)⟩) ?_
  intro p e s m args below meth c R H locs cells slots ls C hR hZ hl
  obtain ⟨hx, hb, hr, hml, hts, hown, hlocks, hmn, hK⟩ := id C
  unfold f_X5_putCable at hf
  refine lv_aload_n (i := 0) hx hb dX5_putCable_0 rfl (lv_at hl 0 rfl) ?_
  refine z_getI fd_501 rfl hx hb hts hown hK hZ (hZ.k 0 rfl rfl) tw_119 dX5_putCable_1 ?_
  refine lv_bipush (v := 8) hx hb dX5_putCable_4 (by decide) ?_
  refine lv_icmp_lt (tgt := 11) hx hb dX5_putCable_6 (by decide) (fun h1 => ?_) (fun h1 => ?_)
  · replace hf := wd_ite_p h1 hf
    refine lv_aload_n (i := 0) hx hb dX5_putCable_11 rfl (lv_at hl 0 rfl) ?_
    refine z_getR (tk := 20) fd_500 rfl hx hb hts hown hK hZ (hZ.k 0 rfl rfl) tw_118 dX5_putCable_12 ?_; clear hZ; intro hZ
    refine lv_aload_n (i := 0) hx hb dX5_putCable_15 rfl (lv_at hl 0 rfl) ?_
    refine z_getI fd_501 rfl hx hb hts hown hK hZ (hZ.k 1 rfl rfl) tw_119 dX5_putCable_16 ?_
    refine lv_iload_n (i := 1) hx hb dX5_putCable_19 rfl (lv_at hl 1 rfl) ?_
    have hf9 := Option.bind_eq_some_iff.mp hf; clear hf; obtain ⟨a2, ha2, hf⟩ := hf9
    replace hZ := hZ.add (r := some a2) (k := 21) (Nat.succ_ne_zero _) (fun q hq => by cases hq; exact hZ.k 0 rfl ha2)
    rw [ha2]
    have hf9 := wd_gd_e hf; clear hf; obtain ⟨h3, hf⟩ := hf9
    refine z_iast hx hb hK hZ (hZ.k 0 rfl rfl) h3 dX5_putCable_20 ?_; clear hZ; intro H locs hZ
    have hf9 := wd_let_e hf; clear hf; obtain ⟨w4, e5, hf⟩ := hf9
    rw [e5] at hZ
    refine lv_aload_n (i := 0) hx hb dX5_putCable_21 rfl (lv_at hl 0 rfl) ?_
    refine lv_dup hx hb dX5_putCable_22 rfl ?_
    refine z_getI fd_501 rfl hx hb hts hown hK hZ (hZ.k 2 rfl rfl) tw_119 dX5_putCable_23 ?_
    refine lv_iconst (v := 1) hx hb dX5_putCable_26 (by decide) ?_
    refine lv_iadd hx hb dX5_putCable_27 ?_
    refine z_putI fd_501 cok_5 rfl rfl rfl rfl rfl hx hb hts hown hK hZ (hZ.k 2 rfl rfl) tw_119 dX5_putCable_28 ?_; clear hZ; intro H locs hZ
    have hf9 := wd_let_e hf; clear hf; obtain ⟨w6, e7, hf⟩ := hf9
    rw [e7] at hZ
    refine lv_aload_n (i := 0) hx hb dX5_putCable_31 rfl (lv_at hl 0 rfl) ?_
    refine z_getI fd_501 rfl hx hb hts hown hK hZ (hZ.k 2 rfl rfl) tw_119 dX5_putCable_32 ?_
    refine lv_iconst (v := 1) hx hb dX5_putCable_35 (by decide) ?_
    refine lv_isub hx hb dX5_putCable_36 ?_
    obtain ⟨rfl, rfl⟩ := Prod.mk.inj (Option.some.inj hf)
    exact z_iret hx hb hr hlocks hZ trivial dX5_putCable_37
  · replace hf := wd_ite_n h1 hf
    refine lv_iconst (v := -1) hx hb dX5_putCable_9 (by decide) ?_
    obtain ⟨rfl, rfl⟩ := Prod.mk.inj (Option.some.inj hf)
    exact z_iret hx hb hr hlocks hZ trivial dX5_putCable_10

def f_X5_widthOf_j21 (n : Nat) (w : Wd) : Option (Int32 × Wd) :=
  some ((200 : Int32), w)
def f_X5_widthOf (n : Nat) (w : Wd) (this : Nat) (p0 : Int32) : Option (Int32 × Wd) :=
  if p0 < 0 then
    f_X5_widthOf_j21 n w
  else
    if (wd_I w 501 this) ≤ p0 then
      f_X5_widthOf_j21 n w
    else
      Option.bind (wd_R w 500 this) fun a3 =>
      wd_gd (p0 < 0 ∨ wd_N w a3 ≤ p0.toNatClampNeg) <|
      some ((wd_A w a3 p0.toNatClampNeg), w)
set_option maxHeartbeats 4000000 in
set_option maxRecDepth 100000 in
theorem v_X5_widthOf_j21 {p : Program} {l : Launch} {e : Env} {R : Room} {s : State} {m : MethodId} {args : Array Value} {below : List Frame} {meth : Method} {c : Code} {E : wd_E} {w0 : Wd} {r' : Int32} {w' : Wd} (n : Nat) (C : wd_X p s m args meth c cX5_widthOf RX5 2 (some .int) "widthOf" E) (hR : 0 ≤ R.frames ∧ 0 ≤ R.locals) (w : Wd) (H : Heap) (locs : List Loc) (cells slots : Nat) (ls : Array Slot) (hZ : wd_Z E w0 R s w H locs cells slots []) (hl : lv_has ls 2 []) (hf : f_X5_widthOf_j21 n w = some (r', w')) : W p l e R s m args below meth c H locs cells slots (wd_fin E w0 (some (.int r')) w' True R args s below) (F0 m 21 ls []) := by
  obtain ⟨hx, hb, hr, hml, hts, hown, hlocks, hmn, hK⟩ := id C
  unfold f_X5_widthOf_j21 at hf
  refine lv_sipush (v := 200) hx hb dX5_widthOf_21 (by decide) ?_
  obtain ⟨rfl, rfl⟩ := Prod.mk.inj (Option.some.inj hf)
  exact z_iret hx hb hr hlocks hZ trivial dX5_widthOf_24

set_option maxHeartbeats 4000000 in
set_option maxRecDepth 100000 in
theorem c_X5_widthOf (l : Launch) (E : wd_E) (n : Nat) (w : Wd) (this : Nat) (p0 : Int32) (r' : Int32) (w' : Wd) (k_this : wd_K w this = 6) (hf : f_X5_widthOf n w this p0 = some (r', w')) : wd_C l E yX5_widthOf cX5_widthOf 2 (some .int) 0 0 [.ref this, .int p0] w (some (.int r')) w' True := by
  refine wd_ofW (own := RX5) (nm := "widthOf") (ks := [(some this, 6)]) (lv := [(0, .ref this), (1, .int p0)]) (by decide) rfl rfl (Nat.le_of_ble_eq_true rfl) rfl (List.forall_mem_cons.mpr ⟨⟨Nat.succ_ne_zero _, fun q hq => by cases hq; exact k_this⟩, (fun _ hq => absurd hq List.not_mem_nil)⟩) ?_
  intro p e s m args below meth c R H locs cells slots ls C hR hZ hl
  obtain ⟨hx, hb, hr, hml, hts, hown, hlocks, hmn, hK⟩ := id C
  unfold f_X5_widthOf at hf
  refine lv_iload_n (i := 1) hx hb dX5_widthOf_0 rfl (lv_at hl 1 rfl) ?_
  refine lv_if_lt (tgt := 21) hx hb dX5_widthOf_1 (by decide) (fun h1 => ?_) (fun h1 => ?_)
  · replace hf := wd_ite_p h1 hf
    exact v_X5_widthOf_j21 n C hR w _ _ _ _ _ ⟨hZ.1, hZ.2.1, hZ.2.2.1, hZ.2.2.2.1, (fun _ hq => absurd hq List.not_mem_nil), hZ.2.2.2.2.2⟩ (lv_sub hl [] rfl) hf
  · replace hf := wd_ite_n h1 hf
    refine lv_iload_n (i := 1) hx hb dX5_widthOf_4 rfl (lv_at hl 1 rfl) ?_
    refine lv_aload_n (i := 0) hx hb dX5_widthOf_5 rfl (lv_at hl 0 rfl) ?_
    refine z_getI fd_501 rfl hx hb hts hown hK hZ (hZ.k 0 rfl rfl) tw_119 dX5_widthOf_6 ?_
    refine lv_icmp_ge (tgt := 21) hx hb dX5_widthOf_9 (by decide) (fun h2 => ?_) (fun h2 => ?_)
    · replace hf := wd_ite_p h2 hf
      exact v_X5_widthOf_j21 n C hR w _ _ _ _ _ ⟨hZ.1, hZ.2.1, hZ.2.2.1, hZ.2.2.2.1, (fun _ hq => absurd hq List.not_mem_nil), hZ.2.2.2.2.2⟩ (lv_sub hl [] rfl) hf
    · replace hf := wd_ite_n h2 hf
      refine lv_aload_n (i := 0) hx hb dX5_widthOf_12 rfl (lv_at hl 0 rfl) ?_
      refine z_getR (tk := 20) fd_500 rfl hx hb hts hown hK hZ (hZ.k 0 rfl rfl) tw_118 dX5_widthOf_13 ?_; clear hZ; intro hZ
      refine lv_iload_n (i := 1) hx hb dX5_widthOf_16 rfl (lv_at hl 1 rfl) ?_
      have hf9 := Option.bind_eq_some_iff.mp hf; clear hf; obtain ⟨a3, ha3, hf⟩ := hf9
      replace hZ := hZ.add (r := some a3) (k := 21) (Nat.succ_ne_zero _) (fun q hq => by cases hq; exact hZ.k 0 rfl ha3)
      rw [ha3]
      have hf9 := wd_gd_e hf; clear hf; obtain ⟨h4, hf⟩ := hf9
      refine z_iald hx hb hK hZ (hZ.k 0 rfl rfl) h4 dX5_widthOf_17 ?_
      refine lv_goto (tgt := 24) hx hb dX5_widthOf_18 (by decide) ?_
      obtain ⟨rfl, rfl⟩ := Prod.mk.inj (Option.some.inj hf)
      exact z_iret hx hb hr hlocks hZ trivial dX5_widthOf_24

def f_X5_changeWidth_j25 (n : Nat) (x3 : Int32) (w : Wd) : Option (Int32 × Wd) :=
  some (x3, w)
def f_X5_changeWidth (n : Nat) (w : Wd) (this : Nat) (p0 : Int32) (p1 : Int32) : Option (Int32 × Wd) :=
  wd_b2 (f_X5_widthOf n w this p0) fun r3 w1 =>
  if p0 < 0 then
    f_X5_changeWidth_j25 n r3 w1
  else
    if (wd_I w1 501 this) ≤ p0 then
      f_X5_changeWidth_j25 n r3 w1
    else
      Option.bind (wd_R w1 500 this) fun a6 =>
      wd_gd (p0 < 0 ∨ wd_N w1 a6 ≤ p0.toNatClampNeg) <|
      wd_let (wd_sA w1 a6 p0.toNatClampNeg p1) fun w8 =>
      f_X5_changeWidth_j25 n r3 w8
set_option maxHeartbeats 4000000 in
set_option maxRecDepth 100000 in
theorem v_X5_changeWidth_j25 {p : Program} {l : Launch} {e : Env} {R : Room} {s : State} {m : MethodId} {args : Array Value} {below : List Frame} {meth : Method} {c : Code} {E : wd_E} {w0 : Wd} {r' : Int32} {w' : Wd} (n : Nat) (C : wd_X p s m args meth c cX5_changeWidth RX5 4 (some .int) "changeWidth" E) (hR : 1 ≤ R.frames ∧ 21 ≤ R.locals) (x3 : Int32) (w : Wd) (H : Heap) (locs : List Loc) (cells slots : Nat) (ls : Array Slot) (hZ : wd_Z E w0 R s w H locs cells slots []) (hl : lv_has ls 4 [(3, .int x3)]) (hf : f_X5_changeWidth_j25 n x3 w = some (r', w')) : W p l e R s m args below meth c H locs cells slots (wd_fin E w0 (some (.int r')) w' True R args s below) (F0 m 25 ls []) := by
  obtain ⟨hx, hb, hr, hml, hts, hown, hlocks, hmn, hK⟩ := id C
  unfold f_X5_changeWidth_j25 at hf
  refine lv_iload_n (i := 3) hx hb dX5_changeWidth_25 rfl (lv_at hl 0 rfl) ?_
  obtain ⟨rfl, rfl⟩ := Prod.mk.inj (Option.some.inj hf)
  exact z_iret hx hb hr hlocks hZ trivial dX5_changeWidth_26

set_option maxHeartbeats 4000000 in
set_option maxRecDepth 100000 in
theorem c_X5_changeWidth (l : Launch) (E : wd_E) (n : Nat) (w : Wd) (this : Nat) (p0 : Int32) (p1 : Int32) (r' : Int32) (w' : Wd) (k_this : wd_K w this = 6) (hf : f_X5_changeWidth n w this p0 p1 = some (r', w')) : wd_C l E yX5_changeWidth cX5_changeWidth 4 (some .int) 1 21 [.ref this, .int p0, .int p1] w (some (.int r')) w' True := by
  refine wd_ofW (own := RX5) (nm := "changeWidth") (ks := [(some this, 6)]) (lv := [(0, .ref this), (1, .int p0), (2, .int p1)]) (by decide) rfl rfl (Nat.le_of_ble_eq_true rfl) rfl (List.forall_mem_cons.mpr ⟨⟨Nat.succ_ne_zero _, fun q hq => by cases hq; exact k_this⟩, (fun _ hq => absurd hq List.not_mem_nil)⟩) ?_
  intro p e s m args below meth c R H locs cells slots ls C hR hZ hl
  obtain ⟨hx, hb, hr, hml, hts, hown, hlocks, hmn, hK⟩ := id C
  unfold f_X5_changeWidth at hf
  refine lv_aload_n (i := 0) hx hb dX5_changeWidth_0 rfl (lv_at hl 0 rfl) ?_
  refine lv_iload_n (i := 1) hx hb dX5_changeWidth_1 rfl (lv_at hl 1 rfl) ?_
  have hf9 := wd_b2_e hf; clear hf; obtain ⟨r3, w1, hc2, hf⟩ := hf9
  refine z_callV (ci := 5) (As := [.int p0]) (rest := []) (c_X5_widthOf l E n w this p0 r3 w1 (hZ.k 0 rfl rfl) hc2) mo_X5_widthOf rfl (by decide) rfl tw_786 tw_787 tw_977 hx hb hml hts hown hK ⟨Nat.le_trans (by decide) hR.1, Nat.le_trans (by decide) hR.2⟩ hZ (hZ.k 0 rfl rfl) rfl hl.1 rfl (Nat.le_of_ble_eq_true rfl) rfl dX5_changeWidth_2 ?_; clear hZ; intro H locs cells slots hX hZ
  refine lv_istore_n (i := 3) (lv' := [(3, .int r3), (0, .ref this), (1, .int p0), (2, .int p1)]) hx hb dX5_changeWidth_5 rfl hl (by decide) rfl ?_; clear hl; intro ls hl
  refine lv_iload_n (i := 1) hx hb dX5_changeWidth_6 rfl (lv_at hl 2 rfl) ?_
  refine lv_if_lt (tgt := 25) hx hb dX5_changeWidth_7 (by decide) (fun h4 => ?_) (fun h4 => ?_)
  · replace hf := wd_ite_p h4 hf
    exact v_X5_changeWidth_j25 n C hR r3 w1 _ _ _ _ _ ⟨hZ.1, hZ.2.1, hZ.2.2.1, hZ.2.2.2.1, (fun _ hq => absurd hq List.not_mem_nil), hZ.2.2.2.2.2⟩ (lv_sub hl [0] rfl) hf
  · replace hf := wd_ite_n h4 hf
    refine lv_iload_n (i := 1) hx hb dX5_changeWidth_10 rfl (lv_at hl 2 rfl) ?_
    refine lv_aload_n (i := 0) hx hb dX5_changeWidth_11 rfl (lv_at hl 1 rfl) ?_
    refine z_getI fd_501 rfl hx hb hts hown hK hZ (hZ.k 0 rfl rfl) tw_119 dX5_changeWidth_12 ?_
    refine lv_icmp_ge (tgt := 25) hx hb dX5_changeWidth_15 (by decide) (fun h5 => ?_) (fun h5 => ?_)
    · replace hf := wd_ite_p h5 hf
      exact v_X5_changeWidth_j25 n C hR r3 w1 _ _ _ _ _ ⟨hZ.1, hZ.2.1, hZ.2.2.1, hZ.2.2.2.1, (fun _ hq => absurd hq List.not_mem_nil), hZ.2.2.2.2.2⟩ (lv_sub hl [0] rfl) hf
    · replace hf := wd_ite_n h5 hf
      refine lv_aload_n (i := 0) hx hb dX5_changeWidth_18 rfl (lv_at hl 1 rfl) ?_
      refine z_getR (tk := 20) fd_500 rfl hx hb hts hown hK hZ (hZ.k 0 rfl rfl) tw_118 dX5_changeWidth_19 ?_; clear hZ; intro hZ
      refine lv_iload_n (i := 1) hx hb dX5_changeWidth_22 rfl (lv_at hl 2 rfl) ?_
      refine lv_iload_n (i := 2) hx hb dX5_changeWidth_23 rfl (lv_at hl 3 rfl) ?_
      have hf9 := Option.bind_eq_some_iff.mp hf; clear hf; obtain ⟨a6, ha6, hf⟩ := hf9
      replace hZ := hZ.add (r := some a6) (k := 21) (Nat.succ_ne_zero _) (fun q hq => by cases hq; exact hZ.k 0 rfl ha6)
      rw [ha6]
      have hf9 := wd_gd_e hf; clear hf; obtain ⟨h7, hf⟩ := hf9
      refine z_iast hx hb hK hZ (hZ.k 0 rfl rfl) h7 dX5_changeWidth_24 ?_; clear hZ; intro H locs hZ
      have hf9 := wd_let_e hf; clear hf; obtain ⟨w8, e9, hf⟩ := hf9
      rw [e9] at hZ
      exact v_X5_changeWidth_j25 n C hR r3 w8 _ _ _ _ _ ⟨hZ.1, hZ.2.1, hZ.2.2.1, hZ.2.2.2.1, (fun _ hq => absurd hq List.not_mem_nil), hZ.2.2.2.2.2⟩ (lv_sub hl [0] rfl) hf

def f_X5_putMachine (n : Nat) (w : Wd) (this : Nat) (p0 : Int32) : Option (Int32 × Wd) :=
  if (wd_I w 503 this) < (8 : Int32) then
    Option.bind (wd_R w 502 this) fun a2 =>
    wd_gd ((wd_I w 503 this) < 0 ∨ wd_N w a2 ≤ (wd_I w 503 this).toNatClampNeg) <|
    Option.bind (wd_Q w a2 (wd_I w 503 this).toNatClampNeg) fun a4 =>
    wd_gd (¬ (p0 = 0 ∨ p0 = 1)) <|
    wd_let (wd_sI w 301 a4 p0) fun w6 =>
    wd_let (wd_sI w6 503 this ((wd_I w6 503 this) + (1 : Int32))) fun w8 =>
    some (((wd_I w8 503 this) - (1 : Int32)), w8)
  else
    some ((-1 : Int32), w)
set_option maxHeartbeats 4000000 in
set_option maxRecDepth 100000 in
theorem c_X5_putMachine (l : Launch) (E : wd_E) (n : Nat) (w : Wd) (this : Nat) (p0 : Int32) (r' : Int32) (w' : Wd) (k_this : wd_K w this = 6) (hf : f_X5_putMachine n w this p0 = some (r', w')) : wd_C l E yX5_putMachine cX5_putMachine 2 (some .int) 0 0 [.ref this, .int p0] w (some (.int r')) w' True := by
  refine wd_ofW (own := RX5) (nm := "putMachine") (ks := [(some this, 6)]) (lv := [(0, .ref this), (1, .int p0)]) (by decide) rfl rfl (Nat.le_of_ble_eq_true rfl) rfl (List.forall_mem_cons.mpr ⟨⟨Nat.succ_ne_zero _, fun q hq => by cases hq; exact k_this⟩, (fun _ hq => absurd hq List.not_mem_nil)⟩) ?_
  intro p e s m args below meth c R H locs cells slots ls C hR hZ hl
  obtain ⟨hx, hb, hr, hml, hts, hown, hlocks, hmn, hK⟩ := id C
  unfold f_X5_putMachine at hf
  refine lv_aload_n (i := 0) hx hb dX5_putMachine_0 rfl (lv_at hl 0 rfl) ?_
  refine z_getI fd_503 rfl hx hb hts hown hK hZ (hZ.k 0 rfl rfl) tw_123 dX5_putMachine_1 ?_
  refine lv_bipush (v := 8) hx hb dX5_putMachine_4 (by decide) ?_
  refine lv_icmp_lt (tgt := 11) hx hb dX5_putMachine_6 (by decide) (fun h1 => ?_) (fun h1 => ?_)
  · replace hf := wd_ite_p h1 hf
    refine lv_aload_n (i := 0) hx hb dX5_putMachine_11 rfl (lv_at hl 0 rfl) ?_
    refine z_getR (tk := 22) fd_502 rfl hx hb hts hown hK hZ (hZ.k 0 rfl rfl) tw_121 dX5_putMachine_12 ?_; clear hZ; intro hZ
    refine lv_aload_n (i := 0) hx hb dX5_putMachine_15 rfl (lv_at hl 0 rfl) ?_
    refine z_getI fd_503 rfl hx hb hts hown hK hZ (hZ.k 1 rfl rfl) tw_123 dX5_putMachine_16 ?_
    have hf9 := Option.bind_eq_some_iff.mp hf; clear hf; obtain ⟨a2, ha2, hf⟩ := hf9
    replace hZ := hZ.add (r := some a2) (k := 23) (Nat.succ_ne_zero _) (fun q hq => by cases hq; exact hZ.k 0 rfl ha2)
    rw [ha2]
    have hf9 := wd_gd_e hf; clear hf; obtain ⟨h3, hf⟩ := hf9
    refine z_aald (k := 23) (by decide) (by decide) (tk := 3) rfl hx hb hK hZ (hZ.k 0 rfl rfl) h3 dX5_putMachine_19 ?_; clear hZ; intro hZ
    refine lv_iload_n (i := 1) hx hb dX5_putMachine_20 rfl (lv_at hl 1 rfl) ?_
    have hf9 := Option.bind_eq_some_iff.mp hf; clear hf; obtain ⟨a4, ha4, hf⟩ := hf9
    replace hZ := hZ.add (r := some a4) (k := 4) (Nat.succ_ne_zero _) (fun q hq => by cases hq; exact hZ.k 0 rfl ha4)
    rw [ha4]
    have hf9 := wd_gd_e hf; clear hf; obtain ⟨h5, hf⟩ := hf9
    refine z_putI fd_301 cok_3 rfl rfl rfl (wd_zn h5) (wd_zf h5) hx hb hts hown hK hZ (hZ.k 0 rfl rfl) tw_76 dX5_putMachine_21 ?_; clear hZ; intro H locs hZ
    have hf9 := wd_let_e hf; clear hf; obtain ⟨w6, e7, hf⟩ := hf9
    rw [e7] at hZ
    refine lv_aload_n (i := 0) hx hb dX5_putMachine_24 rfl (lv_at hl 0 rfl) ?_
    refine lv_dup hx hb dX5_putMachine_25 rfl ?_
    refine z_getI fd_503 rfl hx hb hts hown hK hZ (hZ.k 4 rfl rfl) tw_123 dX5_putMachine_26 ?_
    refine lv_iconst (v := 1) hx hb dX5_putMachine_29 (by decide) ?_
    refine lv_iadd hx hb dX5_putMachine_30 ?_
    refine z_putI fd_503 cok_5 rfl rfl rfl rfl rfl hx hb hts hown hK hZ (hZ.k 4 rfl rfl) tw_123 dX5_putMachine_31 ?_; clear hZ; intro H locs hZ
    have hf9 := wd_let_e hf; clear hf; obtain ⟨w8, e9, hf⟩ := hf9
    rw [e9] at hZ
    refine lv_aload_n (i := 0) hx hb dX5_putMachine_34 rfl (lv_at hl 0 rfl) ?_
    refine z_getI fd_503 rfl hx hb hts hown hK hZ (hZ.k 4 rfl rfl) tw_123 dX5_putMachine_35 ?_
    refine lv_iconst (v := 1) hx hb dX5_putMachine_38 (by decide) ?_
    refine lv_isub hx hb dX5_putMachine_39 ?_
    obtain ⟨rfl, rfl⟩ := Prod.mk.inj (Option.some.inj hf)
    exact z_iret hx hb hr hlocks hZ trivial dX5_putMachine_40
  · replace hf := wd_ite_n h1 hf
    refine lv_iconst (v := -1) hx hb dX5_putMachine_9 (by decide) ?_
    obtain ⟨rfl, rfl⟩ := Prod.mk.inj (Option.some.inj hf)
    exact z_iret hx hb hr hlocks hZ trivial dX5_putMachine_10

def f_X5_portWithAddress_j20 (n : Nat) (w : Wd) : Option (Option Nat × Wd) :=
  some (none, w)
def f_X5_portWithAddress (n : Nat) (w : Wd) (this : Nat) (p0 : Int32) : Option (Option Nat × Wd) :=
  if p0 < 0 then
    f_X5_portWithAddress_j20 n w
  else
    if (256 : Int32) ≤ p0 then
      f_X5_portWithAddress_j20 n w
    else
      Option.bind (wd_R w 504 this) fun a3 =>
      wd_gd (p0 < 0 ∨ wd_N w a3 ≤ p0.toNatClampNeg) <|
      some ((wd_Q w a3 p0.toNatClampNeg), w)
set_option maxHeartbeats 4000000 in
set_option maxRecDepth 100000 in
theorem v_X5_portWithAddress_j20 {p : Program} {l : Launch} {e : Env} {R : Room} {s : State} {m : MethodId} {args : Array Value} {below : List Frame} {meth : Method} {c : Code} {E : wd_E} {w0 : Wd} {r' : Option Nat} {w' : Wd} (n : Nat) (C : wd_X p s m args meth c cX5_portWithAddress RX5 2 (some (.object "SeamarkNet$Port")) "portWithAddress" E) (hR : 0 ≤ R.frames ∧ 0 ≤ R.locals) (w : Wd) (H : Heap) (locs : List Loc) (cells slots : Nat) (ls : Array Slot) (hZ : wd_Z E w0 R s w H locs cells slots []) (hl : lv_has ls 2 []) (hf : f_X5_portWithAddress_j20 n w = some (r', w')) : W p l e R s m args below meth c H locs cells slots (wd_fin E w0 (some (va_rf r')) w' (∀ q, r' = some q → wd_K w' q = 8) R args s below) (F0 m 20 ls []) := by
  obtain ⟨hx, hb, hr, hml, hts, hown, hlocks, hmn, hK⟩ := id C
  unfold f_X5_portWithAddress_j20 at hf
  refine z_null hx hb dX5_portWithAddress_20 ?_
  obtain ⟨rfl, rfl⟩ := Prod.mk.inj (Option.some.inj hf)
  exact z_aret rfl hx hb hr hlocks hZ (fun q hq => by cases hq) dX5_portWithAddress_21

set_option maxHeartbeats 4000000 in
set_option maxRecDepth 100000 in
theorem c_X5_portWithAddress (l : Launch) (E : wd_E) (n : Nat) (w : Wd) (this : Nat) (p0 : Int32) (r' : Option Nat) (w' : Wd) (k_this : wd_K w this = 6) (hf : f_X5_portWithAddress n w this p0 = some (r', w')) : wd_C l E yX5_portWithAddress cX5_portWithAddress 2 (some (.object "SeamarkNet$Port")) 0 0 [.ref this, .int p0] w (some (va_rf r')) w' (∀ q, r' = some q → wd_K w' q = 8) := by
  refine wd_ofW (own := RX5) (nm := "portWithAddress") (ks := [(some this, 6)]) (lv := [(0, .ref this), (1, .int p0)]) (by decide) rfl rfl (Nat.le_of_ble_eq_true rfl) rfl (List.forall_mem_cons.mpr ⟨⟨Nat.succ_ne_zero _, fun q hq => by cases hq; exact k_this⟩, (fun _ hq => absurd hq List.not_mem_nil)⟩) ?_
  intro p e s m args below meth c R H locs cells slots ls C hR hZ hl
  obtain ⟨hx, hb, hr, hml, hts, hown, hlocks, hmn, hK⟩ := id C
  unfold f_X5_portWithAddress at hf
  refine lv_iload_n (i := 1) hx hb dX5_portWithAddress_0 rfl (lv_at hl 1 rfl) ?_
  refine lv_if_lt (tgt := 20) hx hb dX5_portWithAddress_1 (by decide) (fun h1 => ?_) (fun h1 => ?_)
  · replace hf := wd_ite_p h1 hf
    exact v_X5_portWithAddress_j20 n C hR w _ _ _ _ _ ⟨hZ.1, hZ.2.1, hZ.2.2.1, hZ.2.2.2.1, (fun _ hq => absurd hq List.not_mem_nil), hZ.2.2.2.2.2⟩ (lv_sub hl [] rfl) hf
  · replace hf := wd_ite_n h1 hf
    refine lv_iload_n (i := 1) hx hb dX5_portWithAddress_4 rfl (lv_at hl 1 rfl) ?_
    refine lv_sipush (v := 256) hx hb dX5_portWithAddress_5 (by decide) ?_
    refine lv_icmp_ge (tgt := 20) hx hb dX5_portWithAddress_8 (by decide) (fun h2 => ?_) (fun h2 => ?_)
    · replace hf := wd_ite_p h2 hf
      exact v_X5_portWithAddress_j20 n C hR w _ _ _ _ _ ⟨hZ.1, hZ.2.1, hZ.2.2.1, hZ.2.2.2.1, (fun _ hq => absurd hq List.not_mem_nil), hZ.2.2.2.2.2⟩ (lv_sub hl [] rfl) hf
    · replace hf := wd_ite_n h2 hf
      refine lv_aload_n (i := 0) hx hb dX5_portWithAddress_11 rfl (lv_at hl 0 rfl) ?_
      refine z_getR (tk := 21) fd_504 rfl hx hb hts hown hK hZ (hZ.k 0 rfl rfl) tw_125 dX5_portWithAddress_12 ?_; clear hZ; intro hZ
      refine lv_iload_n (i := 1) hx hb dX5_portWithAddress_15 rfl (lv_at hl 1 rfl) ?_
      have hf9 := Option.bind_eq_some_iff.mp hf; clear hf; obtain ⟨a3, ha3, hf⟩ := hf9
      replace hZ := hZ.add (r := some a3) (k := 22) (Nat.succ_ne_zero _) (fun q hq => by cases hq; exact hZ.k 0 rfl ha3)
      rw [ha3]
      have hf9 := wd_gd_e hf; clear hf; obtain ⟨h4, hf⟩ := hf9
      refine z_aald (k := 22) (by decide) (by decide) (tk := 7) rfl hx hb hK hZ (hZ.k 0 rfl rfl) h4 dX5_portWithAddress_16 ?_; clear hZ; intro hZ
      refine lv_goto (tgt := 21) hx hb dX5_portWithAddress_17 (by decide) ?_
      obtain ⟨rfl, rfl⟩ := Prod.mk.inj (Option.some.inj hf)
      exact z_aret rfl hx hb hr hlocks hZ (fun q hq => hZ.k 0 rfl hq) dX5_portWithAddress_21

