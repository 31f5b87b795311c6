/-! ===== meanings and contracts, laid by wip/p33/gen ===== -/
def f_X0_init (n : Nat) (w : Wd) (this : Nat) : Option Wd :=
  some w
set_option maxHeartbeats 4000000 in
set_option maxRecDepth 100000 in
theorem c_X0_init (l : Launch) (E : wd_E) (n : Nat) (w : Wd) (this : Nat) (w' : Wd) (k_this : wd_K w this = 1) (hf : f_X0_init n w this = some w') : wd_C l E yX0_init cX0_init 1 none 1 24 [.ref this] w none w' True := by
  refine wd_ofW (own := RX0) (nm := "<init>") (ks := [(some this, 1)]) (lv := [(0, .ref this)]) (by decide) rfl rfl (Nat.le_of_ble_eq_true rfl) rfl (List.forall_mem_cons.mpr ⟨⟨Nat.succ_ne_zero _, fun q hq => by cases hq; exact k_this⟩, (fun _ hq => absurd hq List.not_mem_nil)⟩) ?_
  intro p e s m args below meth c R H locs cells slots ls C hR hZ hl
  obtain ⟨hx, hb, hr, hml, hts, hown, hlocks, hmn, hK⟩ := id C
  unfold f_X0_init at hf
  refine lv_aload_n (i := 0) hx hb dX0_init_0 rfl (lv_at hl 0 rfl) ?_
  refine W.objInit hx hb hown (hts _ tw_806) (hts _ tw_54) (hts _ tw_55) rfl (by rw [hml]; exact hl.1) rfl dX0_init_1 (Nat.le_trans (by decide) hR.1) (Nat.le_trans (Nat.le_of_ble_eq_true rfl) hR.2) ?_
  refine W.eq (g2 := F0 m 4 ls []) rfl ?_
  obtain rfl := Option.some.inj hf
  exact z_vret hx hb hr hlocks hZ trivial dX0_init_4

def f_X0_partWithout (n : Nat) (w : Wd) (this : Nat) (p0 : Int32) : Option (Int32 × Wd) :=
  if p0 = (4 : Int32) then
    some ((wd_I w 4 this), w)
  else
    if p0 = (7 : Int32) then
      some ((-1 : Int32), w)
    else
      some ((0 : Int32), w)
set_option maxHeartbeats 4000000 in
set_option maxRecDepth 100000 in
theorem c_X0_partWithout (l : Launch) (E : wd_E) (n : Nat) (w : Wd) (this : Nat) (p0 : Int32) (r' : Int32) (w' : Wd) (k_this : wd_K w this = 1) (hf : f_X0_partWithout n w this p0 = some (r', w')) : wd_C l E yX0_partWithout cX0_partWithout 2 (some .int) 0 0 [.ref this, .int p0] w (some (.int r')) w' True := by
  refine wd_ofW (own := RX0) (nm := "partWithout") (ks := [(some this, 1)]) (lv := [(0, .ref this), (1, .int p0)]) (by decide) rfl rfl (Nat.le_of_ble_eq_true rfl) rfl (List.forall_mem_cons.mpr ⟨⟨Nat.succ_ne_zero _, fun q hq => by cases hq; exact k_this⟩, (fun _ hq => absurd hq List.not_mem_nil)⟩) ?_
  intro p e s m args below meth c R H locs cells slots ls C hR hZ hl
  obtain ⟨hx, hb, hr, hml, hts, hown, hlocks, hmn, hK⟩ := id C
  unfold f_X0_partWithout at hf
  refine lv_iload_n (i := 1) hx hb dX0_partWithout_0 rfl (lv_at hl 1 rfl) ?_
  refine lv_iconst (v := 4) hx hb dX0_partWithout_1 (by decide) ?_
  refine lv_icmp_ne (tgt := 10) hx hb dX0_partWithout_2 (by decide) (fun h1 => ?_) (fun h1 => ?_)
  · replace hf := wd_ite_n h1 hf
    refine lv_iload_n (i := 1) hx hb dX0_partWithout_10 rfl (lv_at hl 1 rfl) ?_
    refine lv_bipush (v := 7) hx hb dX0_partWithout_11 (by decide) ?_
    refine lv_icmp_ne (tgt := 20) hx hb dX0_partWithout_13 (by decide) (fun h2 => ?_) (fun h2 => ?_)
    · replace hf := wd_ite_n h2 hf
      refine lv_iconst (v := 0) hx hb dX0_partWithout_20 (by decide) ?_
      obtain ⟨rfl, rfl⟩ := Prod.mk.inj (Option.some.inj hf)
      exact z_iret hx hb hr hlocks hZ trivial dX0_partWithout_21
    · replace hf := wd_ite_p h2 hf
      refine lv_iconst (v := -1) hx hb dX0_partWithout_16 (by decide) ?_
      refine lv_goto (tgt := 21) hx hb dX0_partWithout_17 (by decide) ?_
      obtain ⟨rfl, rfl⟩ := Prod.mk.inj (Option.some.inj hf)
      exact z_iret hx hb hr hlocks hZ trivial dX0_partWithout_21
  · replace hf := wd_ite_p h1 hf
    refine lv_aload_n (i := 0) hx hb dX0_partWithout_5 rfl (lv_at hl 0 rfl) ?_
    refine z_getI fd_4 rfl hx hb hts hown hK hZ (hZ.k 0 rfl rfl) tw_820 dX0_partWithout_6 ?_
    obtain ⟨rfl, rfl⟩ := Prod.mk.inj (Option.some.inj hf)
    exact z_iret hx hb hr hlocks hZ trivial dX0_partWithout_9

def f_X0_partOf (n : Nat) (w : Wd) (p0 : Option Nat) (p1 : Int32) : Option (Int32 × Wd) :=
  if p1 = 4 then
    Option.bind p0 fun a2 =>
    some ((wd_I w 405 a2), w)
  else if p1 = 5 then
    Option.bind p0 fun a4 =>
    some ((wd_I w 403 a4), w)
  else if p1 = 6 then
    Option.bind p0 fun a6 =>
    some ((wd_I w 407 a6), w)
  else 
    Option.bind p0 fun a7 =>
    some ((wd_I w 400 a7), w)
set_option maxHeartbeats 4000000 in
set_option maxRecDepth 100000 in
theorem c_X0_partOf (l : Launch) (E : wd_E) (n : Nat) (w : Wd) (p0 : Option Nat) (p1 : Int32) (r' : Int32) (w' : Wd) (k_p0 : ∀ q, p0 = some q → wd_K w q = 5) (hf : f_X0_partOf n w p0 p1 = some (r', w')) : wd_C l E yX0_partOf cX0_partOf 2 (some .int) 0 0 [va_rf p0, .int p1] w (some (.int r')) w' True := by
  refine wd_ofW (own := RX0) (nm := "partOf") (ks := [(p0, 5)]) (lv := [(0, va_rf p0), (1, .int p1)]) (by decide) rfl rfl (by simp [lg_sl, va_rf_cat, va_cat_r, va_cat_i, va_cat_l, va_cat_d]) (by simp [lv_args, va_rf_cat, va_cat_r, va_cat_i, va_cat_l, va_cat_d]) (List.forall_mem_cons.mpr ⟨⟨Nat.succ_ne_zero _, k_p0⟩, (fun _ hq => absurd hq List.not_mem_nil)⟩) ?_
  intro p e s m args below meth c R H locs cells slots ls C hR hZ hl
  obtain ⟨hx, hb, hr, hml, hts, hown, hlocks, hmn, hK⟩ := id C
  unfold f_X0_partOf at hf
  refine lv_iload_n (i := 1) hx hb dX0_partOf_0 rfl (lv_at hl 1 rfl) ?_
  by_cases h1 : p1 = 4
  · replace hf := wd_ite_p h1 hf
    refine lv_tableIn (off := 27) (tgt := 28) hx hb dX0_partOf_1 (by rw [h1]; decide) (by rw [h1]; decide) (by rw [h1]; rfl) (by decide) ?_
    refine z_aload_n (i := 0) hx hb dX0_partOf_28 rfl (lv_at hl 0 rfl) ?_
    have hf9 := Option.bind_eq_some_iff.mp hf; clear hf; obtain ⟨a2, ha2, hf⟩ := hf9
    subst ha2
    replace hl : lv_has ls 2 [(0, .ref a2), (1, .int p1)] := hl
    replace hZ : wd_Z E w R s w H locs cells slots [(some a2, 5)] := hZ
    refine z_getI fd_405 rfl hx hb hts hown hK hZ (hZ.k 0 rfl rfl) tw_698 dX0_partOf_29 ?_
    obtain ⟨rfl, rfl⟩ := Prod.mk.inj (Option.some.inj hf)
    exact z_iret hx hb hr hlocks hZ trivial dX0_partOf_32
  replace hf := wd_ite_n h1 hf
  by_cases h3 : p1 = 5
  · replace hf := wd_ite_p h3 hf
    refine lv_tableIn (off := 32) (tgt := 33) hx hb dX0_partOf_1 (by rw [h3]; decide) (by rw [h3]; decide) (by rw [h3]; rfl) (by decide) ?_
    refine z_aload_n (i := 0) hx hb dX0_partOf_33 rfl (lv_at hl 0 rfl) ?_
    have hf9 := Option.bind_eq_some_iff.mp hf; clear hf; obtain ⟨a4, ha4, hf⟩ := hf9
    subst ha4
    replace hl : lv_has ls 2 [(0, .ref a4), (1, .int p1)] := hl
    replace hZ : wd_Z E w R s w H locs cells slots [(some a4, 5)] := hZ
    refine z_getI fd_403 rfl hx hb hts hown hK hZ (hZ.k 0 rfl rfl) tw_691 dX0_partOf_34 ?_
    obtain ⟨rfl, rfl⟩ := Prod.mk.inj (Option.some.inj hf)
    exact z_iret hx hb hr hlocks hZ trivial dX0_partOf_37
  replace hf := wd_ite_n h3 hf
  by_cases h5 : p1 = 6
  · replace hf := wd_ite_p h5 hf
    refine lv_tableIn (off := 37) (tgt := 38) hx hb dX0_partOf_1 (by rw [h5]; decide) (by rw [h5]; decide) (by rw [h5]; rfl) (by decide) ?_
    refine z_aload_n (i := 0) hx hb dX0_partOf_38 rfl (lv_at hl 0 rfl) ?_
    have hf9 := Option.bind_eq_some_iff.mp hf; clear hf; obtain ⟨a6, ha6, hf⟩ := hf9
    subst ha6
    replace hl : lv_has ls 2 [(0, .ref a6), (1, .int p1)] := hl
    replace hZ : wd_Z E w R s w H locs cells slots [(some a6, 5)] := hZ
    refine z_getI fd_407 rfl hx hb hts hown hK hZ (hZ.k 0 rfl rfl) tw_707 dX0_partOf_39 ?_
    obtain ⟨rfl, rfl⟩ := Prod.mk.inj (Option.some.inj hf)
    exact z_iret hx hb hr hlocks hZ trivial dX0_partOf_42
  replace hf := wd_ite_n h5 hf
  refine lv_tableOut (tgt := 43) hx hb dX0_partOf_1 (wd_tb4_6 h1 h3 h5) (by decide) ?_
  refine z_aload_n (i := 0) hx hb dX0_partOf_43 rfl (lv_at hl 0 rfl) ?_
  have hf9 := Option.bind_eq_some_iff.mp hf; clear hf; obtain ⟨a7, ha7, hf⟩ := hf9
  subst ha7
  replace hl : lv_has ls 2 [(0, .ref a7), (1, .int p1)] := hl
  replace hZ : wd_Z E w R s w H locs cells slots [(some a7, 5)] := hZ
  refine z_getI fd_400 rfl hx hb hts hown hK hZ (hZ.k 0 rfl rfl) tw_680 dX0_partOf_44 ?_
  obtain ⟨rfl, rfl⟩ := Prod.mk.inj (Option.some.inj hf)
  exact z_iret hx hb hr hlocks hZ trivial dX0_partOf_47

def f_X0_part (n : Nat) (w : Wd) (this : Nat) (p0 : Int32) : Option (Int32 × Wd) :=
  if p0 = 0 then
    some ((wd_I w 0 this), w)
  else if p0 = 1 then
    some ((wd_I w 1 this), w)
  else if p0 = 2 then
    some ((wd_I w 2 this), w)
  else if p0 = 3 then
    some ((wd_I w 3 this), w)
  else 
    wd_on (wd_R w 5 this) (
      wd_b2 (f_X0_partWithout n w this p0) fun r11 w9 =>
      some (r11, w9))
      (fun a5 =>
      wd_b2 (f_X0_partOf n w (wd_R w 5 this) p0) fun r8 w6 =>
      some (r8, w6))
set_option maxHeartbeats 4000000 in
set_option maxRecDepth 100000 in
theorem c_X0_part (l : Launch) (E : wd_E) (n : Nat) (w : Wd) (this : Nat) (p0 : Int32) (r' : Int32) (w' : Wd) (k_this : wd_K w this = 1) (hf : f_X0_part n w this p0 = some (r', w')) : wd_C l E yX0_part cX0_part 2 (some .int) 1 21 [.ref this, .int p0] w (some (.int r')) w' True := by
  refine wd_ofW (own := RX0) (nm := "part") (ks := [(some this, 1)]) (lv := [(0, .ref this), (1, .int p0)]) (by decide) rfl rfl (Nat.le_of_ble_eq_true rfl) rfl (List.forall_mem_cons.mpr ⟨⟨Nat.succ_ne_zero _, fun q hq => by cases hq; exact k_this⟩, (fun _ hq => absurd hq List.not_mem_nil)⟩) ?_
  intro p e s m args below meth c R H locs cells slots ls C hR hZ hl
  obtain ⟨hx, hb, hr, hml, hts, hown, hlocks, hmn, hK⟩ := id C
  unfold f_X0_part at hf
  refine lv_iload_n (i := 1) hx hb dX0_part_0 rfl (lv_at hl 1 rfl) ?_
  by_cases h1 : p0 = 0
  · replace hf := wd_ite_p h1 hf
    refine lv_tableIn (off := 31) (tgt := 32) hx hb dX0_part_1 (by rw [h1]; decide) (by rw [h1]; decide) (by rw [h1]; rfl) (by decide) ?_
    refine lv_aload_n (i := 0) hx hb dX0_part_32 rfl (lv_at hl 0 rfl) ?_
    refine z_getI fd_0 rfl hx hb hts hown hK hZ (hZ.k 0 rfl rfl) tw_807 dX0_part_33 ?_
    obtain ⟨rfl, rfl⟩ := Prod.mk.inj (Option.some.inj hf)
    exact z_iret hx hb hr hlocks hZ trivial dX0_part_36
  replace hf := wd_ite_n h1 hf
  by_cases h2 : p0 = 1
  · replace hf := wd_ite_p h2 hf
    refine lv_tableIn (off := 36) (tgt := 37) hx hb dX0_part_1 (by rw [h2]; decide) (by rw [h2]; decide) (by rw [h2]; rfl) (by decide) ?_
    refine lv_aload_n (i := 0) hx hb dX0_part_37 rfl (lv_at hl 0 rfl) ?_
    refine z_getI fd_1 rfl hx hb hts hown hK hZ (hZ.k 0 rfl rfl) tw_810 dX0_part_38 ?_
    obtain ⟨rfl, rfl⟩ := Prod.mk.inj (Option.some.inj hf)
    exact z_iret hx hb hr hlocks hZ trivial dX0_part_41
  replace hf := wd_ite_n h2 hf
  by_cases h3 : p0 = 2
  · replace hf := wd_ite_p h3 hf
    refine lv_tableIn (off := 41) (tgt := 42) hx hb dX0_part_1 (by rw [h3]; decide) (by rw [h3]; decide) (by rw [h3]; rfl) (by decide) ?_
    refine lv_aload_n (i := 0) hx hb dX0_part_42 rfl (lv_at hl 0 rfl) ?_
    refine z_getI fd_2 rfl hx hb hts hown hK hZ (hZ.k 0 rfl rfl) tw_813 dX0_part_43 ?_
    obtain ⟨rfl, rfl⟩ := Prod.mk.inj (Option.some.inj hf)
    exact z_iret hx hb hr hlocks hZ trivial dX0_part_46
  replace hf := wd_ite_n h3 hf
  by_cases h4 : p0 = 3
  · replace hf := wd_ite_p h4 hf
    refine lv_tableIn (off := 46) (tgt := 47) hx hb dX0_part_1 (by rw [h4]; decide) (by rw [h4]; decide) (by rw [h4]; rfl) (by decide) ?_
    refine lv_aload_n (i := 0) hx hb dX0_part_47 rfl (lv_at hl 0 rfl) ?_
    refine z_getI fd_3 rfl hx hb hts hown hK hZ (hZ.k 0 rfl rfl) tw_817 dX0_part_48 ?_
    obtain ⟨rfl, rfl⟩ := Prod.mk.inj (Option.some.inj hf)
    exact z_iret hx hb hr hlocks hZ trivial dX0_part_51
  replace hf := wd_ite_n h4 hf
  refine lv_tableOut (tgt := 52) hx hb dX0_part_1 (wd_tb0_3 h1 h2 h3 h4) (by decide) ?_
  refine lv_aload_n (i := 0) hx hb dX0_part_52 rfl (lv_at hl 0 rfl) ?_
  refine z_getR (tk := 4) fd_5 rfl hx hb hts hown hK hZ (hZ.k 0 rfl rfl) tw_822 dX0_part_53 ?_; clear hZ; intro hZ
  refine z_ifnonnull (tgt := 67) hx hb dX0_part_56 (by decide) (fun a5 ha5 => ?_) (fun hn => ?_)
  · replace hf := wd_on_s ha5 hf
    refine lv_aload_n (i := 0) hx hb dX0_part_67 rfl (lv_at hl 0 rfl) ?_
    refine z_getR (tk := 4) fd_5 rfl hx hb hts hown hK hZ (hZ.k 1 rfl rfl) tw_822 dX0_part_68 ?_; clear hZ; intro hZ
    refine lv_iload_n (i := 1) hx hb dX0_part_71 rfl (lv_at hl 1 rfl) ?_
    have hf9 := wd_b2_e hf; clear hf; obtain ⟨r8, w6, hc7, hf⟩ := hf9
    refine z_callS (As := [va_rf (wd_R w 5 this), .int p0]) (rest := []) (c_X0_partOf l E n w (wd_R w 5 this) p0 r8 w6 (fun q hq => hZ.k 0 rfl hq) hc7) mo_X0_partOf tw_440 tw_439 hx hb hml hts hown hK ⟨Nat.le_trans (by decide) hR.1, Nat.le_trans (by decide) hR.2⟩ hZ rfl hl.1 rfl (Nat.le_of_ble_eq_true rfl) rfl dX0_part_72 ?_; clear hZ; intro H locs cells slots hX hZ
    obtain ⟨rfl, rfl⟩ := Prod.mk.inj (Option.some.inj hf)
    exact z_iret hx hb hr hlocks hZ trivial dX0_part_75
  · replace hf := wd_on_n hn hf
    refine lv_aload_n (i := 0) hx hb dX0_part_59 rfl (lv_at hl 0 rfl) ?_
    refine lv_iload_n (i := 1) hx hb dX0_part_60 rfl (lv_at hl 1 rfl) ?_
    have hf9 := wd_b2_e hf; clear hf; obtain ⟨r11, w9, hc10, hf⟩ := hf9
    refine z_callV (ci := 0) (As := [.int p0]) (rest := []) (c_X0_partWithout l E n w this p0 r11 w9 (hZ.k 1 rfl rfl) hc10) mo_X0_partWithout rfl (by decide) rfl tw_436 tw_1 tw_434 hx hb hml hts hown hK ⟨Nat.le_trans (by decide) hR.1, Nat.le_trans (by decide) hR.2⟩ hZ (hZ.k 1 rfl rfl) rfl hl.1 rfl (Nat.le_of_ble_eq_true rfl) rfl dX0_part_61 ?_; clear hZ; intro H locs cells slots hX hZ
    refine lv_goto (tgt := 75) hx hb dX0_part_64 (by decide) ?_
    obtain ⟨rfl, rfl⟩ := Prod.mk.inj (Option.some.inj hf)
    exact z_iret hx hb hr hlocks hZ trivial dX0_part_75

def f_X1_init (n : Nat) (w : Wd) (this : Nat) : Option Wd :=
  some w
set_option maxHeartbeats 4000000 in
set_option maxRecDepth 100000 in
theorem c_X1_init (l : Launch) (E : wd_E) (n : Nat) (w : Wd) (this : Nat) (w' : Wd) (k_this : wd_K w this = 2) (hf : f_X1_init n w this = some w') : wd_C l E yX1_init cX1_init 1 none 1 24 [.ref this] w none w' True := by
  refine wd_ofW (own := RX1) (nm := "<init>") (ks := [(some this, 2)]) (lv := [(0, .ref this)]) (by decide) rfl rfl (Nat.le_of_ble_eq_true rfl) rfl (List.forall_mem_cons.mpr ⟨⟨Nat.succ_ne_zero _, fun q hq => by cases hq; exact k_this⟩, (fun _ hq => absurd hq List.not_mem_nil)⟩) ?_
  intro p e s m args below meth c R H locs cells slots ls C hR hZ hl
  obtain ⟨hx, hb, hr, hml, hts, hown, hlocks, hmn, hK⟩ := id C
  unfold f_X1_init at hf
  refine lv_aload_n (i := 0) hx hb dX1_init_0 rfl (lv_at hl 0 rfl) ?_
  refine W.objInit hx hb hown (hts _ tw_191) (hts _ tw_54) (hts _ tw_55) rfl (by rw [hml]; exact hl.1) rfl dX1_init_1 (Nat.le_trans (by decide) hR.1) (Nat.le_trans (Nat.le_of_ble_eq_true rfl) hR.2) ?_
  refine W.eq (g2 := F0 m 4 ls []) rfl ?_
  obtain rfl := Option.some.inj hf
  exact z_vret hx hb hr hlocks hZ trivial dX1_init_4

def f_X1_begin (n : Nat) (w : Wd) (this : Nat) (p0 : Option Nat) : Option Wd :=
  Option.bind p0 fun a1 =>
  wd_let (wd_sI w 100 this (wd_I w 401 a1)) fun w2 =>
  wd_let (wd_sI w2 101 this (wd_I w2 405 a1)) fun w4 =>
  wd_let (wd_sR w4 102 this none) fun w6 =>
  some w6
set_option maxHeartbeats 4000000 in
set_option maxRecDepth 100000 in
theorem c_X1_begin (l : Launch) (E : wd_E) (n : Nat) (w : Wd) (this : Nat) (p0 : Option Nat) (w' : Wd) (k_this : wd_K w this = 2) (k_p0 : ∀ q, p0 = some q → wd_K w q = 5) (hf : f_X1_begin n w this p0 = some w') : wd_C l E yX1_begin cX1_begin 2 none 0 0 [.ref this, va_rf p0] w none w' True := by
  refine wd_ofW (own := RX1) (nm := "begin") (ks := [(some this, 2), (p0, 5)]) (lv := [(0, .ref this), (1, va_rf p0)]) (by decide) rfl rfl (by simp [lg_sl, va_rf_cat, va_cat_r, va_cat_i, va_cat_l, va_cat_d]) (by simp [lv_args, va_rf_cat, va_cat_r, va_cat_i, va_cat_l, va_cat_d]) (List.forall_mem_cons.mpr ⟨⟨Nat.succ_ne_zero _, fun q hq => by cases hq; exact k_this⟩, (List.forall_mem_cons.mpr ⟨⟨Nat.succ_ne_zero _, k_p0⟩, (fun _ hq => absurd hq List.not_mem_nil)⟩)⟩) ?_
  intro p e s m args below meth c R H locs cells slots ls C hR hZ hl
  obtain ⟨hx, hb, hr, hml, hts, hown, hlocks, hmn, hK⟩ := id C
  unfold f_X1_begin at hf
  refine lv_aload_n (i := 0) hx hb dX1_begin_0 rfl (lv_at hl 0 rfl) ?_
  refine z_aload_n (i := 1) hx hb dX1_begin_1 rfl (lv_at hl 1 rfl) ?_
  have hf9 := Option.bind_eq_some_iff.mp hf; clear hf; obtain ⟨a1, ha1, hf⟩ := hf9
  subst ha1
  replace hl : lv_has ls 2 [(0, .ref this), (1, .ref a1)] := hl
  replace hZ : wd_Z E w R s w H locs cells slots [(some this, 2), (some a1, 5)] := hZ
  refine z_getI fd_401 rfl hx hb hts hown hK hZ (hZ.k 1 rfl rfl) tw_683 dX1_begin_2 ?_
  refine z_putI fd_100 cok_1 rfl rfl rfl rfl rfl hx hb hts hown hK hZ (hZ.k 0 rfl rfl) tw_192 dX1_begin_5 ?_; clear hZ; intro H locs hZ
  have hf9 := wd_let_e hf; clear hf; obtain ⟨w2, e3, hf⟩ := hf9
  rw [e3] at hZ
  refine lv_aload_n (i := 0) hx hb dX1_begin_8 rfl (lv_at hl 0 rfl) ?_
  refine lv_aload_n (i := 1) hx hb dX1_begin_9 rfl (lv_at hl 1 rfl) ?_
  refine z_getI fd_405 rfl hx hb hts hown hK hZ (hZ.k 1 rfl rfl) tw_697 dX1_begin_10 ?_
  refine z_putI fd_101 cok_1 rfl rfl rfl rfl rfl hx hb hts hown hK hZ (hZ.k 0 rfl rfl) tw_194 dX1_begin_13 ?_; clear hZ; intro H locs hZ
  have hf9 := wd_let_e hf; clear hf; obtain ⟨w4, e5, hf⟩ := hf9
  rw [e5] at hZ
  refine lv_aload_n (i := 0) hx hb dX1_begin_16 rfl (lv_at hl 0 rfl) ?_
  refine z_null hx hb dX1_begin_17 ?_
  refine z_putR (r := none) rfl fd_102 cok_1 (tk := 4) rfl (fun q hq => by cases hq) rfl rfl (wd_obO _) hx hb hts hown hK hZ (hZ.k 0 rfl rfl) tw_196 dX1_begin_18 ?_; clear hZ; intro H locs hZ
  have hf9 := wd_let_e hf; clear hf; obtain ⟨w6, e7, hf⟩ := hf9
  rw [e7] at hZ
  obtain rfl := Option.some.inj hf
  exact z_vret hx hb hr hlocks hZ trivial dX1_begin_21

def f_X1_put_j71 (n : Nat) (w : Wd) : Option (Int32 × Wd) :=
  some ((1 : Int32), w)
def f_X1_put_j49 (n : Nat) (x0 : Nat) (x1 : Option Nat) (x2 : Option Nat) (x3 : Option Nat) (w : Wd) : Option (Int32 × Wd) :=
  Option.bind x1 fun a5 =>
  wd_let (wd_sR w 413 a5 x3) fun w6 =>
  wd_on x2 (
    wd_let (wd_sR w6 102 x0 (some a5)) fun w11 =>
    f_X1_put_j71 n w11)
    (fun a8 =>
    wd_let (wd_sR w6 413 a8 (some a5)) fun w9 =>
    f_X1_put_j71 n w9)
def f_X1_put_j32 (n : Nat) (x0 : Nat) (x1 : Option Nat) (x2 : Option Nat) (x3 : Option Nat) (w : Wd) : Option (Int32 × Wd) :=
  wd_on x3 (
    f_X1_put_j49 n x0 x1 x2 none w)
    (fun a4 =>
    Option.bind x1 fun a13 =>
    if (wd_I w 407 a4) = (wd_I w 407 a13) then
      some ((0 : Int32), w)
    else
      f_X1_put_j49 n x0 (some a13) x2 (some a4) w)
def f_X1_put_l7 (n : Nat) (rec7 : Nat → Option Nat → Option Nat → Option Nat → Wd → Option (Int32 × Wd)) (x0 : Nat) (x1 : Option Nat) (x2 : Option Nat) (x3 : Option Nat) (w : Wd) : Option (Int32 × Wd) :=
  wd_on x3 (
    f_X1_put_j32 n x0 x1 x2 none w)
    (fun a3 =>
    Option.bind x1 fun a15 =>
    if (wd_I w 407 a15) ≤ (wd_I w 407 a3) then
      f_X1_put_j32 n x0 (some a15) x2 (some a3) w
    else
      wd_let (wd_R w 413 a3) fun v17 =>
      rec7 x0 (some a15) (some a3) v17 w)
def f_X1_put (n : Nat) (w : Wd) (this : Nat) (p0 : Option Nat) : Option (Int32 × Wd) :=
  wd_let (wd_R w 102 this) fun v1 =>
  wd_lp5 (f_X1_put_l7 n) n this p0 none v1 w
set_option maxHeartbeats 4000000 in
set_option maxRecDepth 100000 in
theorem v_X1_put_j71 {p : Program} {l : Launch} {e : Env} {R : Room} {s : State} {m : MethodId} {args : Array Value} {below : List Frame} {meth : Method} {c : Code} {E : wd_E} {w0 : Wd} {r' : Int32} {w' : Wd} (n : Nat) (C : wd_X p s m args meth c cX1_put RX1 4 (some .boolean) "put" E) (hR : 0 ≤ R.frames ∧ 0 ≤ R.locals) (w : Wd) (H : Heap) (locs : List Loc) (cells slots : Nat) (ls : Array Slot) (hZ : wd_Z E w0 R s w H locs cells slots []) (hl : lv_has ls 4 []) (hf : f_X1_put_j71 n w = some (r', w')) : W p l e R s m args below meth c H locs cells slots (wd_fin E w0 (some (.int r')) w' True R args s below) (F0 m 71 ls []) := by
  obtain ⟨hx, hb, hr, hml, hts, hown, hlocks, hmn, hK⟩ := id C
  unfold f_X1_put_j71 at hf
  refine lv_iconst (v := 1) hx hb dX1_put_71 (by decide) ?_
  obtain ⟨rfl, rfl⟩ := Prod.mk.inj (Option.some.inj hf)
  exact z_zret (by decide) hx hb hr hlocks hZ trivial dX1_put_72

set_option maxHeartbeats 4000000 in
set_option maxRecDepth 100000 in
theorem v_X1_put_j49 {p : Program} {l : Launch} {e : Env} {R : Room} {s : State} {m : MethodId} {args : Array Value} {below : List Frame} {meth : Method} {c : Code} {E : wd_E} {w0 : Wd} {r' : Int32} {w' : Wd} (n : Nat) (C : wd_X p s m args meth c cX1_put RX1 4 (some .boolean) "put" E) (hR : 0 ≤ R.frames ∧ 0 ≤ R.locals) (x0 : Nat) (x1 : Option Nat) (x2 : Option Nat) (x3 : Option Nat) (w : Wd) (H : Heap) (locs : List Loc) (cells slots : Nat) (ls : Array Slot) (hZ : wd_Z E w0 R s w H locs cells slots [(some x0, 2), (x1, 5), (x2, 5), (x3, 5)]) (hl : lv_has ls 4 [(0, .ref x0), (1, va_rf x1), (2, va_rf x2), (3, va_rf x3)]) (hf : f_X1_put_j49 n x0 x1 x2 x3 w = some (r', w')) : W p l e R s m args below meth c H locs cells slots (wd_fin E w0 (some (.int r')) w' True R args s below) (F0 m 49 ls []) := by
  obtain ⟨hx, hb, hr, hml, hts, hown, hlocks, hmn, hK⟩ := id C
  unfold f_X1_put_j49 at hf
  refine z_aload_n (i := 1) hx hb dX1_put_49 rfl (lv_at hl 1 rfl) ?_
  refine z_aload_n (i := 3) hx hb dX1_put_50 rfl (lv_at hl 3 rfl) ?_
  have hf9 := Option.bind_eq_some_iff.mp hf; clear hf; obtain ⟨a5, ha5, hf⟩ := hf9
  subst ha5
  replace hl : lv_has ls 4 [(0, .ref x0), (1, .ref a5), (2, va_rf x2), (3, va_rf x3)] := hl
  replace hZ : wd_Z E w0 R s w H locs cells slots [(some x0, 2), (some a5, 5), (x2, 5), (x3, 5)] := hZ
  refine z_putR (r := x3) rfl fd_413 cok_4 (tk := 4) rfl (fun q hq => hZ.k 3 rfl hq) rfl rfl (wd_obO _) hx hb hts hown hK hZ (hZ.k 1 rfl rfl) tw_722 dX1_put_51 ?_; clear hZ; intro H locs hZ
  have hf9 := wd_let_e hf; clear hf; obtain ⟨w6, e7, hf⟩ := hf9
  rw [e7] at hZ
  refine z_aload_n (i := 2) hx hb dX1_put_54 rfl (lv_at hl 2 rfl) ?_
  refine z_ifnonnull (tgt := 66) hx hb dX1_put_55 (by decide) (fun a8 ha8 => ?_) (fun hn => ?_)
  · replace hf := wd_on_s ha8 hf
    subst ha8
    replace hl : lv_has ls 4 [(0, .ref x0), (1, .ref a5), (2, .ref a8), (3, va_rf x3)] := hl
    replace hZ : wd_Z E w0 R s w6 H locs cells slots [(some x0, 2), (some a5, 5), (some a8, 5), (x3, 5)] := hZ
    refine lv_aload_n (i := 2) hx hb dX1_put_66 rfl (lv_at hl 2 rfl) ?_
    refine lv_aload_n (i := 1) hx hb dX1_put_67 rfl (lv_at hl 1 rfl) ?_
    refine z_putR (r := (some a5)) rfl fd_413 cok_4 (tk := 4) rfl (fun q hq => by cases hq; exact (hZ.k 1 rfl rfl)) rfl rfl (wd_obO _) hx hb hts hown hK hZ (hZ.k 2 rfl rfl) tw_722 dX1_put_68 ?_; clear hZ; intro H locs hZ
    have hf9 := wd_let_e hf; clear hf; obtain ⟨w9, e10, hf⟩ := hf9
    rw [e10] at hZ
    exact v_X1_put_j71 n C hR w9 _ _ _ _ _ ⟨hZ.1, hZ.2.1, hZ.2.2.1, hZ.2.2.2.1, (fun _ hq => absurd hq List.not_mem_nil), hZ.2.2.2.2.2⟩ (lv_sub hl [] rfl) hf
  · replace hf := wd_on_n hn hf
    subst hn
    replace hl : lv_has ls 4 [(0, .ref x0), (1, .ref a5), (2, va_rf none), (3, va_rf x3)] := hl
    replace hZ : wd_Z E w0 R s w6 H locs cells slots [(some x0, 2), (some a5, 5), (none, 5), (x3, 5)] := hZ
    refine lv_aload_n (i := 0) hx hb dX1_put_58 rfl (lv_at hl 0 rfl) ?_
    refine lv_aload_n (i := 1) hx hb dX1_put_59 rfl (lv_at hl 1 rfl) ?_
    refine z_putR (r := (some a5)) rfl fd_102 cok_1 (tk := 4) rfl (fun q hq => by cases hq; exact (hZ.k 1 rfl rfl)) rfl rfl (wd_obO _) hx hb hts hown hK hZ (hZ.k 0 rfl rfl) tw_196 dX1_put_60 ?_; clear hZ; intro H locs hZ
    have hf9 := wd_let_e hf; clear hf; obtain ⟨w11, e12, hf⟩ := hf9
    rw [e12] at hZ
    refine lv_goto (tgt := 71) hx hb dX1_put_63 (by decide) ?_
    exact v_X1_put_j71 n C hR w11 _ _ _ _ _ ⟨hZ.1, hZ.2.1, hZ.2.2.1, hZ.2.2.2.1, (fun _ hq => absurd hq List.not_mem_nil), hZ.2.2.2.2.2⟩ (lv_sub hl [] rfl) hf

set_option maxHeartbeats 4000000 in
set_option maxRecDepth 100000 in
theorem v_X1_put_j32 {p : Program} {l : Launch} {e : Env} {R : Room} {s : State} {m : MethodId} {args : Array Value} {below : List Frame} {meth : Method} {c : Code} {E : wd_E} {w0 : Wd} {r' : Int32} {w' : Wd} (n : Nat) (C : wd_X p s m args meth c cX1_put RX1 4 (some .boolean) "put" E) (hR : 0 ≤ R.frames ∧ 0 ≤ R.locals) (x0 : Nat) (x1 : Option Nat) (x2 : Option Nat) (x3 : Option Nat) (w : Wd) (H : Heap) (locs : List Loc) (cells slots : Nat) (ls : Array Slot) (hZ : wd_Z E w0 R s w H locs cells slots [(some x0, 2), (x1, 5), (x2, 5), (x3, 5)]) (hl : lv_has ls 4 [(0, .ref x0), (1, va_rf x1), (2, va_rf x2), (3, va_rf x3)]) (hf : f_X1_put_j32 n x0 x1 x2 x3 w = some (r', w')) : W p l e R s m args below meth c H locs cells slots (wd_fin E w0 (some (.int r')) w' True R args s below) (F0 m 32 ls []) := by
  obtain ⟨hx, hb, hr, hml, hts, hown, hlocks, hmn, hK⟩ := id C
  unfold f_X1_put_j32 at hf
  refine z_aload_n (i := 3) hx hb dX1_put_32 rfl (lv_at hl 3 rfl) ?_
  refine z_ifnull (tgt := 49) hx hb dX1_put_33 (by decide) (fun hn => ?_) (fun a4 ha4 => ?_)
  · replace hf := wd_on_n hn hf
    subst hn
    replace hl : lv_has ls 4 [(0, .ref x0), (1, va_rf x1), (2, va_rf x2), (3, va_rf none)] := hl
    replace hZ : wd_Z E w0 R s w H locs cells slots [(some x0, 2), (x1, 5), (x2, 5), (none, 5)] := hZ
    exact v_X1_put_j49 n C hR x0 x1 x2 none w _ _ _ _ _ ⟨hZ.1, hZ.2.1, hZ.2.2.1, hZ.2.2.2.1, (List.forall_mem_cons.mpr ⟨⟨Nat.succ_ne_zero _, (fun q hq => by cases hq; exact (hZ.k 0 rfl rfl))⟩, (List.forall_mem_cons.mpr ⟨⟨Nat.succ_ne_zero _, (fun q hq => hZ.k 1 rfl hq)⟩, (List.forall_mem_cons.mpr ⟨⟨Nat.succ_ne_zero _, (fun q hq => hZ.k 2 rfl hq)⟩, (List.forall_mem_cons.mpr ⟨⟨Nat.succ_ne_zero _, (fun q hq => by cases hq)⟩, (fun _ hq => absurd hq List.not_mem_nil)⟩)⟩)⟩)⟩), hZ.2.2.2.2.2⟩ (lv_sub hl [0, 1, 2, 3] rfl) hf
  · replace hf := wd_on_s ha4 hf
    subst ha4
    replace hl : lv_has ls 4 [(0, .ref x0), (1, va_rf x1), (2, va_rf x2), (3, .ref a4)] := hl
    replace hZ : wd_Z E w0 R s w H locs cells slots [(some x0, 2), (x1, 5), (x2, 5), (some a4, 5)] := hZ
    refine lv_aload_n (i := 3) hx hb dX1_put_36 rfl (lv_at hl 3 rfl) ?_
    refine z_getI fd_407 rfl hx hb hts hown hK hZ (hZ.k 3 rfl rfl) tw_706 dX1_put_37 ?_
    refine z_aload_n (i := 1) hx hb dX1_put_40 rfl (lv_at hl 1 rfl) ?_
    have hf9 := Option.bind_eq_some_iff.mp hf; clear hf; obtain ⟨a13, ha13, hf⟩ := hf9
    subst ha13
    replace hl : lv_has ls 4 [(0, .ref x0), (1, .ref a13), (2, va_rf x2), (3, .ref a4)] := hl
    replace hZ : wd_Z E w0 R s w H locs cells slots [(some x0, 2), (some a13, 5), (x2, 5), (some a4, 5)] := hZ
    refine z_getI fd_407 rfl hx hb hts hown hK hZ (hZ.k 1 rfl rfl) tw_706 dX1_put_41 ?_
    refine lv_icmp_ne (tgt := 49) hx hb dX1_put_44 (by decide) (fun h14 => ?_) (fun h14 => ?_)
    · replace hf := wd_ite_n h14 hf
      exact v_X1_put_j49 n C hR x0 (some a13) x2 (some a4) w _ _ _ _ _ ⟨hZ.1, hZ.2.1, hZ.2.2.1, hZ.2.2.2.1, (List.forall_mem_cons.mpr ⟨⟨Nat.succ_ne_zero _, (fun q hq => by cases hq; exact (hZ.k 0 rfl rfl))⟩, (List.forall_mem_cons.mpr ⟨⟨Nat.succ_ne_zero _, (fun q hq => by cases hq; exact (hZ.k 1 rfl rfl))⟩, (List.forall_mem_cons.mpr ⟨⟨Nat.succ_ne_zero _, (fun q hq => hZ.k 2 rfl hq)⟩, (List.forall_mem_cons.mpr ⟨⟨Nat.succ_ne_zero _, (fun q hq => by cases hq; exact (hZ.k 3 rfl rfl))⟩, (fun _ hq => absurd hq List.not_mem_nil)⟩)⟩)⟩)⟩), hZ.2.2.2.2.2⟩ (lv_sub hl [0, 1, 2, 3] rfl) hf
    · replace hf := wd_ite_p h14 hf
      refine lv_iconst (v := 0) hx hb dX1_put_47 (by decide) ?_
      obtain ⟨rfl, rfl⟩ := Prod.mk.inj (Option.some.inj hf)
      exact z_zret (by decide) hx hb hr hlocks hZ trivial dX1_put_48

set_option maxHeartbeats 4000000 in
set_option maxRecDepth 100000 in
theorem v_X1_put_b7 {p : Program} {l : Launch} {e : Env} {R : Room} {s : State} {m : MethodId} {args : Array Value} {below : List Frame} {meth : Method} {c : Code} {E : wd_E} {w0 : Wd} {r' : Int32} {w' : Wd} (n : Nat) (C : wd_X p s m args meth c cX1_put RX1 4 (some .boolean) "put" E) (hR : 0 ≤ R.frames ∧ 0 ≤ R.locals) (rec7 : Nat → Option Nat → Option Nat → Option Nat → Wd → Option (Int32 × Wd)) (hrec7 : ∀ (x0_ : Nat) (x1_ : Option Nat) (x2_ : Option Nat) (x3_ : Option Nat) (w_ : Wd) (H : Heap) (locs : List Loc) (cells slots : Nat) (ls : Array Slot), wd_Z E w0 R s w_ H locs cells slots [(some x0_, 2), (x1_, 5), (x2_, 5), (x3_, 5)] → lv_has ls 4 [(0, .ref x0_), (1, va_rf x1_), (2, va_rf x2_), (3, va_rf x3_)] → rec7 x0_ x1_ x2_ x3_ w_ = some (r', w') → W p l e R s m args below meth c H locs cells slots (wd_fin E w0 (some (.int r')) w' True R args s below) (F0 m 7 ls [])) (x0 : Nat) (x1 : Option Nat) (x2 : Option Nat) (x3 : Option Nat) (w : Wd) (H : Heap) (locs : List Loc) (cells slots : Nat) (ls : Array Slot) (hZ : wd_Z E w0 R s w H locs cells slots [(some x0, 2), (x1, 5), (x2, 5), (x3, 5)]) (hl : lv_has ls 4 [(0, .ref x0), (1, va_rf x1), (2, va_rf x2), (3, va_rf x3)]) (hf : f_X1_put_l7 n rec7 x0 x1 x2 x3 w = some (r', w')) : W p l e R s m args below meth c H locs cells slots (wd_fin E w0 (some (.int r')) w' True R args s below) (F0 m 7 ls []) := by
  obtain ⟨hx, hb, hr, hml, hts, hown, hlocks, hmn, hK⟩ := id C
  unfold f_X1_put_l7 at hf
  refine z_aload_n (i := 3) hx hb dX1_put_7 rfl (lv_at hl 3 rfl) ?_
  refine z_ifnull (tgt := 32) hx hb dX1_put_8 (by decide) (fun hn => ?_) (fun a3 ha3 => ?_)
  · replace hf := wd_on_n hn hf
    subst hn
    replace hl : lv_has ls 4 [(0, .ref x0), (1, va_rf x1), (2, va_rf x2), (3, va_rf none)] := hl
    replace hZ : wd_Z E w0 R s w H locs cells slots [(some x0, 2), (x1, 5), (x2, 5), (none, 5)] := hZ
    exact v_X1_put_j32 n C hR x0 x1 x2 none w _ _ _ _ _ ⟨hZ.1, hZ.2.1, hZ.2.2.1, hZ.2.2.2.1, (List.forall_mem_cons.mpr ⟨⟨Nat.succ_ne_zero _, (fun q hq => by cases hq; exact (hZ.k 0 rfl rfl))⟩, (List.forall_mem_cons.mpr ⟨⟨Nat.succ_ne_zero _, (fun q hq => hZ.k 1 rfl hq)⟩, (List.forall_mem_cons.mpr ⟨⟨Nat.succ_ne_zero _, (fun q hq => hZ.k 2 rfl hq)⟩, (List.forall_mem_cons.mpr ⟨⟨Nat.succ_ne_zero _, (fun q hq => by cases hq)⟩, (fun _ hq => absurd hq List.not_mem_nil)⟩)⟩)⟩)⟩), hZ.2.2.2.2.2⟩ (lv_sub hl [0, 1, 2, 3] rfl) hf
  · replace hf := wd_on_s ha3 hf
    subst ha3
    replace hl : lv_has ls 4 [(0, .ref x0), (1, va_rf x1), (2, va_rf x2), (3, .ref a3)] := hl
    replace hZ : wd_Z E w0 R s w H locs cells slots [(some x0, 2), (x1, 5), (x2, 5), (some a3, 5)] := hZ
    refine lv_aload_n (i := 3) hx hb dX1_put_11 rfl (lv_at hl 3 rfl) ?_
    refine z_getI fd_407 rfl hx hb hts hown hK hZ (hZ.k 3 rfl rfl) tw_706 dX1_put_12 ?_
    refine z_aload_n (i := 1) hx hb dX1_put_15 rfl (lv_at hl 1 rfl) ?_
    have hf9 := Option.bind_eq_some_iff.mp hf; clear hf; obtain ⟨a15, ha15, hf⟩ := hf9
    subst ha15
    replace hl : lv_has ls 4 [(0, .ref x0), (1, .ref a15), (2, va_rf x2), (3, .ref a3)] := hl
    replace hZ : wd_Z E w0 R s w H locs cells slots [(some x0, 2), (some a15, 5), (x2, 5), (some a3, 5)] := hZ
    refine z_getI fd_407 rfl hx hb hts hown hK hZ (hZ.k 1 rfl rfl) tw_706 dX1_put_16 ?_
    refine lv_icmp_ge (tgt := 32) hx hb dX1_put_19 (by decide) (fun h16 => ?_) (fun h16 => ?_)
    · replace hf := wd_ite_p h16 hf
      exact v_X1_put_j32 n C hR x0 (some a15) x2 (some a3) w _ _ _ _ _ ⟨hZ.1, hZ.2.1, hZ.2.2.1, hZ.2.2.2.1, (List.forall_mem_cons.mpr ⟨⟨Nat.succ_ne_zero _, (fun q hq => by cases hq; exact (hZ.k 0 rfl rfl))⟩, (List.forall_mem_cons.mpr ⟨⟨Nat.succ_ne_zero _, (fun q hq => by cases hq; exact (hZ.k 1 rfl rfl))⟩, (List.forall_mem_cons.mpr ⟨⟨Nat.succ_ne_zero _, (fun q hq => hZ.k 2 rfl hq)⟩, (List.forall_mem_cons.mpr ⟨⟨Nat.succ_ne_zero _, (fun q hq => by cases hq; exact (hZ.k 3 rfl rfl))⟩, (fun _ hq => absurd hq List.not_mem_nil)⟩)⟩)⟩)⟩), hZ.2.2.2.2.2⟩ (lv_sub hl [0, 1, 2, 3] rfl) hf
    · replace hf := wd_ite_n h16 hf
      refine lv_aload_n (i := 3) hx hb dX1_put_22 rfl (lv_at hl 3 rfl) ?_
      refine lv_astore_n (i := 2) (lv' := [(2, .ref a3), (0, .ref x0), (1, .ref a15), (3, .ref a3)]) hx hb dX1_put_23 rfl hl (by decide) rfl ?_; clear hl; intro ls hl
      refine lv_aload_n (i := 3) hx hb dX1_put_24 rfl (lv_at hl 3 rfl) ?_
      refine z_getR (tk := 4) fd_413 rfl hx hb hts hown hK hZ (hZ.k 3 rfl rfl) tw_722 dX1_put_25 ?_; clear hZ; intro hZ
      have hf9 := wd_let_e hf; clear hf; obtain ⟨v17, e18, hf⟩ := hf9
      rw [e18]
      rw [e18] at hZ
      refine z_astore_n (i := 3) (lv' := [(3, va_rf v17), (2, .ref a3), (0, .ref x0), (1, .ref a15)]) hx hb dX1_put_28 rfl hl (by decide) rfl ?_; clear hl; intro ls hl
      refine lv_goto (tgt := 7) hx hb dX1_put_29 (by decide) ?_
      exact hrec7 x0 (some a15) (some a3) v17 w _ _ _ _ _ ⟨hZ.1, hZ.2.1, hZ.2.2.1, hZ.2.2.2.1, (List.forall_mem_cons.mpr ⟨⟨Nat.succ_ne_zero _, (fun q hq => by cases hq; exact (hZ.k 1 rfl rfl))⟩, (List.forall_mem_cons.mpr ⟨⟨Nat.succ_ne_zero _, (fun q hq => by cases hq; exact (hZ.k 2 rfl rfl))⟩, (List.forall_mem_cons.mpr ⟨⟨Nat.succ_ne_zero _, (fun q hq => by cases hq; exact (hZ.k 4 rfl rfl))⟩, (List.forall_mem_cons.mpr ⟨⟨Nat.succ_ne_zero _, (fun q hq => hZ.k 0 rfl hq)⟩, (fun _ hq => absurd hq List.not_mem_nil)⟩)⟩)⟩)⟩), hZ.2.2.2.2.2⟩ (lv_sub hl [2, 3, 1, 0] rfl) hf

theorem v_X1_put_l7 {p : Program} {l : Launch} {e : Env} {R : Room} {s : State} {m : MethodId} {args : Array Value} {below : List Frame} {meth : Method} {c : Code} {E : wd_E} {w0 : Wd} {r' : Int32} {w' : Wd} (n : Nat) (C : wd_X p s m args meth c cX1_put RX1 4 (some .boolean) "put" E) (hR : 0 ≤ R.frames ∧ 0 ≤ R.locals) : ∀ (k : Nat) (x0 : Nat) (x1 : Option Nat) (x2 : Option Nat) (x3 : Option Nat) (w : Wd) (H : Heap) (locs : List Loc) (cells slots : Nat) (ls : Array Slot), wd_Z E w0 R s w H locs cells slots [(some x0, 2), (x1, 5), (x2, 5), (x3, 5)] → lv_has ls 4 [(0, .ref x0), (1, va_rf x1), (2, va_rf x2), (3, va_rf x3)] → wd_lp5 (f_X1_put_l7 n) k x0 x1 x2 x3 w = some (r', w') → W p l e R s m args below meth c H locs cells slots (wd_fin E w0 (some (.int r')) w' True R args s below) (F0 m 7 ls []) := by
  intro k
  induction k with
  | zero => intro _ _ _ _ _ _ _ _ _ _ _ _ hf; cases hf
  | succ k ih =>
    intro x0 x1 x2 x3 w H locs cells slots ls hZ hl hf
    exact v_X1_put_b7 n C hR (wd_lp5 (f_X1_put_l7 n) k) ih x0 x1 x2 x3 w H locs cells slots ls hZ hl hf

set_option maxHeartbeats 4000000 in
set_option maxRecDepth 100000 in
theorem c_X1_put (l : Launch) (E : wd_E) (n : Nat) (w : Wd) (this : Nat) (p0 : Option Nat) (r' : Int32) (w' : Wd) (k_this : wd_K w this = 2) (k_p0 : ∀ q, p0 = some q → wd_K w q = 5) (hf : f_X1_put n w this p0 = some (r', w')) : wd_C l E yX1_put cX1_put 4 (some .boolean) 0 0 [.ref this, va_rf p0] w (some (.int r')) w' True := by
  refine wd_ofW (own := RX1) (nm := "put") (ks := [(some this, 2), (p0, 5)]) (lv := [(0, .ref this), (1, va_rf p0)]) (by decide) rfl rfl (by simp [lg_sl, va_rf_cat, va_cat_r, va_cat_i, va_cat_l, va_cat_d]) (by simp [lv_args, va_rf_cat, va_cat_r, va_cat_i, va_cat_l, va_cat_d]) (List.forall_mem_cons.mpr ⟨⟨Nat.succ_ne_zero _, fun q hq => by cases hq; exact k_this⟩, (List.forall_mem_cons.mpr ⟨⟨Nat.succ_ne_zero _, k_p0⟩, (fun _ hq => absurd hq List.not_mem_nil)⟩)⟩) ?_
  intro p e s m args below meth c R H locs cells slots ls C hR hZ hl
  obtain ⟨hx, hb, hr, hml, hts, hown, hlocks, hmn, hK⟩ := id C
  unfold f_X1_put at hf
  refine z_null hx hb dX1_put_0 ?_
  refine z_astore_n (i := 2) (lv' := [(2, va_rf none), (0, .ref this), (1, va_rf p0)]) hx hb dX1_put_1 rfl hl (by decide) (by simp [va_rf_cat, va_cat_r, va_cat_i, va_cat_l, va_cat_d]) ?_; clear hl; intro ls hl
  refine lv_aload_n (i := 0) hx hb dX1_put_2 rfl (lv_at hl 1 rfl) ?_
  refine z_getR (tk := 4) fd_102 rfl hx hb hts hown hK hZ (hZ.k 0 rfl rfl) tw_196 dX1_put_3 ?_; clear hZ; intro hZ
  have hf9 := wd_let_e hf; clear hf; obtain ⟨v1, e2, hf⟩ := hf9
  rw [e2]
  rw [e2] at hZ
  refine z_astore_n (i := 3) (lv' := [(3, va_rf v1), (2, va_rf none), (0, .ref this), (1, va_rf p0)]) hx hb dX1_put_6 rfl hl (by decide) (by simp [va_rf_cat, va_cat_r, va_cat_i, va_cat_l, va_cat_d]) ?_; clear hl; intro ls hl
  exact v_X1_put_l7 n C hR n this p0 none v1 w _ _ _ _ _ ⟨hZ.1, hZ.2.1, hZ.2.2.1, hZ.2.2.2.1, (List.forall_mem_cons.mpr ⟨⟨Nat.succ_ne_zero _, (fun q hq => by cases hq; exact (hZ.k 1 rfl rfl))⟩, (List.forall_mem_cons.mpr ⟨⟨Nat.succ_ne_zero _, (fun q hq => hZ.k 2 rfl hq)⟩, (List.forall_mem_cons.mpr ⟨⟨Nat.succ_ne_zero _, (fun q hq => by cases hq)⟩, (List.forall_mem_cons.mpr ⟨⟨Nat.succ_ne_zero _, (fun q hq => hZ.k 0 rfl hq)⟩, (fun _ hq => absurd hq List.not_mem_nil)⟩)⟩)⟩)⟩), hZ.2.2.2.2.2⟩ (lv_sub hl [2, 3, 1, 0] rfl) hf

def f_X1_wholeSize_l7 (n : Nat) (rec7 : Int32 → Option Nat → Wd → Option (Int32 × Wd)) (x1 : Int32) (x2 : Option Nat) (w : Wd) : Option (Int32 × Wd) :=
  wd_on x2 (
    some ((-1 : Int32), w))
    (fun a3 =>
    if (wd_I w 407 a3) = x1 then
      wd_let (x1 + (wd_I w 403 a3)) fun v5 =>
      if (wd_I w 409 a3) = 0 then
        some (v5, w)
      else
        wd_let (wd_R w 413 a3) fun v8 =>
        rec7 v5 v8 w
    else
      some ((-1 : Int32), w))
def f_X1_wholeSize (n : Nat) (w : Wd) (this : Nat) : Option (Int32 × Wd) :=
  wd_let (wd_R w 102 this) fun v1 =>
  wd_lp3 (f_X1_wholeSize_l7 n) n (0 : Int32) v1 w
set_option maxHeartbeats 4000000 in
set_option maxRecDepth 100000 in
theorem v_X1_wholeSize_b7 {p : Program} {l : Launch} {e : Env} {R : Room} {s : State} {m : MethodId} {args : Array Value} {below : List Frame} {meth : Method} {c : Code} {E : wd_E} {w0 : Wd} {r' : Int32} {w' : Wd} (n : Nat) (C : wd_X p s m args meth c cX1_wholeSize RX1 3 (some .int) "wholeSize" E) (hR : 0 ≤ R.frames ∧ 0 ≤ R.locals) (rec7 : Int32 → Option Nat → Wd → Option (Int32 × Wd)) (hrec7 : ∀ (x1_ : Int32) (x2_ : Option Nat) (w_ : Wd) (H : Heap) (locs : List Loc) (cells slots : Nat) (ls : Array Slot), wd_Z E w0 R s w_ H locs cells slots [(x2_, 5)] → lv_has ls 3 [(1, .int x1_), (2, va_rf x2_)] → rec7 x1_ x2_ w_ = some (r', w') → W p l e R s m args below meth c H locs cells slots (wd_fin E w0 (some (.int r')) w' True R args s below) (F0 m 7 ls [])) (x1 : Int32) (x2 : Option Nat) (w : Wd) (H : Heap) (locs : List Loc) (cells slots : Nat) (ls : Array Slot) (hZ : wd_Z E w0 R s w H locs cells slots [(x2, 5)]) (hl : lv_has ls 3 [(1, .int x1), (2, va_rf x2)]) (hf : f_X1_wholeSize_l7 n rec7 x1 x2 w = some (r', w')) : W p l e R s m args below meth c H locs cells slots (wd_fin E w0 (some (.int r')) w' True R args s below) (F0 m 7 ls []) := by
  obtain ⟨hx, hb, hr, hml, hts, hown, hlocks, hmn, hK⟩ := id C
  unfold f_X1_wholeSize_l7 at hf
  refine z_aload_n (i := 2) hx hb dX1_wholeSize_7 rfl (lv_at hl 1 rfl) ?_
  refine z_ifnull (tgt := 45) hx hb dX1_wholeSize_8 (by decide) (fun hn => ?_) (fun a3 ha3 => ?_)
  · replace hf := wd_on_n hn hf
    subst hn
    replace hl : lv_has ls 3 [(1, .int x1), (2, va_rf none)] := hl
    replace hZ : wd_Z E w0 R s w H locs cells slots [(none, 5)] := hZ
    refine lv_iconst (v := -1) hx hb dX1_wholeSize_45 (by decide) ?_
    obtain ⟨rfl, rfl⟩ := Prod.mk.inj (Option.some.inj hf)
    exact z_iret hx hb hr hlocks hZ trivial dX1_wholeSize_46
  · replace hf := wd_on_s ha3 hf
    subst ha3
    replace hl : lv_has ls 3 [(1, .int x1), (2, .ref a3)] := hl
    replace hZ : wd_Z E w0 R s w H locs cells slots [(some a3, 5)] := hZ
    refine lv_aload_n (i := 2) hx hb dX1_wholeSize_11 rfl (lv_at hl 1 rfl) ?_
    refine z_getI fd_407 rfl hx hb hts hown hK hZ (hZ.k 0 rfl rfl) tw_706 dX1_wholeSize_12 ?_
    refine lv_iload_n (i := 1) hx hb dX1_wholeSize_15 rfl (lv_at hl 0 rfl) ?_
    refine lv_icmp_eq (tgt := 21) hx hb dX1_wholeSize_16 (by decide) (fun h4 => ?_) (fun h4 => ?_)
    · replace hf := wd_ite_p h4 hf
      refine lv_iload_n (i := 1) hx hb dX1_wholeSize_21 rfl (lv_at hl 0 rfl) ?_
      refine lv_aload_n (i := 2) hx hb dX1_wholeSize_22 rfl (lv_at hl 1 rfl) ?_
      refine z_getI fd_403 rfl hx hb hts hown hK hZ (hZ.k 0 rfl rfl) tw_690 dX1_wholeSize_23 ?_
      refine lv_iadd hx hb dX1_wholeSize_26 ?_
      have hf9 := wd_let_e hf; clear hf; obtain ⟨v5, e6, hf⟩ := hf9
      rw [e6]
      refine lv_istore_n (i := 1) (lv' := [(1, .int v5), (2, .ref a3)]) hx hb dX1_wholeSize_27 rfl hl (by decide) rfl ?_; clear hl; intro ls hl
      refine lv_aload_n (i := 2) hx hb dX1_wholeSize_28 rfl (lv_at hl 1 rfl) ?_
      refine z_getI fd_409 rfl hx hb hts hown hK hZ (hZ.k 0 rfl rfl) tw_713 dX1_wholeSize_29 ?_
      refine lv_if_ne (tgt := 37) hx hb dX1_wholeSize_32 (by decide) (fun h7 => ?_) (fun h7 => ?_)
      · replace hf := wd_ite_n h7 hf
        refine lv_aload_n (i := 2) hx hb dX1_wholeSize_37 rfl (lv_at hl 1 rfl) ?_
        refine z_getR (tk := 4) fd_413 rfl hx hb hts hown hK hZ (hZ.k 0 rfl rfl) tw_722 dX1_wholeSize_38 ?_; clear hZ; intro hZ
        have hf9 := wd_let_e hf; clear hf; obtain ⟨v8, e9, hf⟩ := hf9
        rw [e9]
        rw [e9] at hZ
        refine z_astore_n (i := 2) (lv' := [(2, va_rf v8), (1, .int v5)]) hx hb dX1_wholeSize_41 rfl hl (by decide) rfl ?_; clear hl; intro ls hl
        refine lv_goto (tgt := 7) hx hb dX1_wholeSize_42 (by decide) ?_
        exact hrec7 v5 v8 w _ _ _ _ _ ⟨hZ.1, hZ.2.1, hZ.2.2.1, hZ.2.2.2.1, (List.forall_mem_cons.mpr ⟨⟨Nat.succ_ne_zero _, (fun q hq => hZ.k 0 rfl hq)⟩, (fun _ hq => absurd hq List.not_mem_nil)⟩), hZ.2.2.2.2.2⟩ (lv_sub hl [1, 0] rfl) hf
      · replace hf := wd_ite_p h7 hf
        refine lv_iload_n (i := 1) hx hb dX1_wholeSize_35 rfl (lv_at hl 0 rfl) ?_
        obtain ⟨rfl, rfl⟩ := Prod.mk.inj (Option.some.inj hf)
        exact z_iret hx hb hr hlocks hZ trivial dX1_wholeSize_36
    · replace hf := wd_ite_n h4 hf
      refine lv_iconst (v := -1) hx hb dX1_wholeSize_19 (by decide) ?_
      obtain ⟨rfl, rfl⟩ := Prod.mk.inj (Option.some.inj hf)
      exact z_iret hx hb hr hlocks hZ trivial dX1_wholeSize_20

theorem v_X1_wholeSize_l7 {p : Program} {l : Launch} {e : Env} {R : Room} {s : State} {m : MethodId} {args : Array Value} {below : List Frame} {meth : Method} {c : Code} {E : wd_E} {w0 : Wd} {r' : Int32} {w' : Wd} (n : Nat) (C : wd_X p s m args meth c cX1_wholeSize RX1 3 (some .int) "wholeSize" E) (hR : 0 ≤ R.frames ∧ 0 ≤ R.locals) : ∀ (k : Nat) (x1 : Int32) (x2 : Option Nat) (w : Wd) (H : Heap) (locs : List Loc) (cells slots : Nat) (ls : Array Slot), wd_Z E w0 R s w H locs cells slots [(x2, 5)] → lv_has ls 3 [(1, .int x1), (2, va_rf x2)] → wd_lp3 (f_X1_wholeSize_l7 n) k x1 x2 w = some (r', w') → W p l e R s m args below meth c H locs cells slots (wd_fin E w0 (some (.int r')) w' True R args s below) (F0 m 7 ls []) := by
  intro k
  induction k with
  | zero => intro _ _ _ _ _ _ _ _ _ _ hf; cases hf
  | succ k ih =>
    intro x1 x2 w H locs cells slots ls hZ hl hf
    exact v_X1_wholeSize_b7 n C hR (wd_lp3 (f_X1_wholeSize_l7 n) k) ih x1 x2 w H locs cells slots ls hZ hl hf

set_option maxHeartbeats 4000000 in
set_option maxRecDepth 100000 in
theorem c_X1_wholeSize (l : Launch) (E : wd_E) (n : Nat) (w : Wd) (this : Nat) (r' : Int32) (w' : Wd) (k_this : wd_K w this = 2) (hf : f_X1_wholeSize n w this = some (r', w')) : wd_C l E yX1_wholeSize cX1_wholeSize 3 (some .int) 0 0 [.ref this] w (some (.int r')) w' True := by
  refine wd_ofW (own := RX1) (nm := "wholeSize") (ks := [(some this, 2)]) (lv := [(0, .ref this)]) (by decide) rfl rfl (Nat.le_of_ble_eq_true rfl) rfl (List.forall_mem_cons.mpr ⟨⟨Nat.succ_ne_zero _, fun q hq => by cases hq; exact k_this⟩, (fun _ hq => absurd hq List.not_mem_nil)⟩) ?_
  intro p e s m args below meth c R H locs cells slots ls C hR hZ hl
  obtain ⟨hx, hb, hr, hml, hts, hown, hlocks, hmn, hK⟩ := id C
  unfold f_X1_wholeSize at hf
  refine lv_iconst (v := 0) hx hb dX1_wholeSize_0 (by decide) ?_
  refine lv_istore_n (i := 1) (lv' := [(1, .int (0 : Int32)), (0, .ref this)]) hx hb dX1_wholeSize_1 rfl hl (by decide) rfl ?_; clear hl; intro ls hl
  refine lv_aload_n (i := 0) hx hb dX1_wholeSize_2 rfl (lv_at hl 1 rfl) ?_
  refine z_getR (tk := 4) fd_102 rfl hx hb hts hown hK hZ (hZ.k 0 rfl rfl) tw_196 dX1_wholeSize_3 ?_; clear hZ; intro hZ
  have hf9 := wd_let_e hf; clear hf; obtain ⟨v1, e2, hf⟩ := hf9
  rw [e2]
  rw [e2] at hZ
  refine z_astore_n (i := 2) (lv' := [(2, va_rf v1), (1, .int (0 : Int32)), (0, .ref this)]) hx hb dX1_wholeSize_6 rfl hl (by decide) rfl ?_; clear hl; intro ls hl
  exact v_X1_wholeSize_l7 n C hR n (0 : Int32) v1 w _ _ _ _ _ ⟨hZ.1, hZ.2.1, hZ.2.2.1, hZ.2.2.2.1, (List.forall_mem_cons.mpr ⟨⟨Nat.succ_ne_zero _, (fun q hq => hZ.k 0 rfl hq)⟩, (fun _ hq => absurd hq List.not_mem_nil)⟩), hZ.2.2.2.2.2⟩ (lv_sub hl [1, 0] rfl) hf

def f_J7_fill_53178_l5 (n : Nat) (rec5 : Option Nat → Int32 → Int32 → Int32 → Wd → Option Wd) (x0 : Option Nat) (x1 : Int32) (x2 : Int32) (x3 : Int32) (w : Wd) : Option Wd :=
  if x3 ≤ x2 then
    some w
  else
    Option.bind x0 fun a5 =>
    wd_gd (x2 < 0 ∨ wd_N w a5 ≤ x2.toNatClampNeg) <|
    wd_let (wd_sA w a5 x2.toNatClampNeg x1) fun w7 =>
    wd_let (x2 + 1) fun v9 =>
    rec5 (some a5) x1 v9 x3 w7
def f_J7_fill_53178 (n : Nat) (w : Wd) (p0 : Option Nat) (p1 : Int32) : Option Wd :=
  Option.bind p0 fun a1 =>
  wd_let (Int32.ofNat (wd_N w a1)) fun v2 =>
  wd_lp5 (f_J7_fill_53178_l5 n) n (some a1) p1 (0 : Int32) v2 w
set_option maxHeartbeats 4000000 in
set_option maxRecDepth 100000 in
theorem v_J7_fill_53178_b5 {p : Program} {l : Launch} {e : Env} {R : Room} {s : State} {m : MethodId} {args : Array Value} {below : List Frame} {meth : Method} {c : Code} {E : wd_E} {w0 : Wd} {w' : Wd} (n : Nat) (C : wd_X p s m args meth c cJ7_fill_53178 RJ7 4 none "fill" E) (hR : 0 ≤ R.frames ∧ 0 ≤ R.locals) (rec5 : Option Nat → Int32 → Int32 → Int32 → Wd → Option Wd) (hrec5 : ∀ (x0_ : Option Nat) (x1_ : Int32) (x2_ : Int32) (x3_ : Int32) (w_ : Wd) (H : Heap) (locs : List Loc) (cells slots : Nat) (ls : Array Slot), wd_Z E w0 R s w_ H locs cells slots [(x0_, 21)] → lv_has ls 4 [(0, va_rf x0_), (1, .int x1_), (2, .int x2_), (3, .int x3_)] → rec5 x0_ x1_ x2_ x3_ w_ = some w' → W p l e R s m args below meth c H locs cells slots (wd_fin E w0 none w' True R args s below) (F0 m 5 ls [])) (x0 : Option Nat) (x1 : Int32) (x2 : Int32) (x3 : Int32) (w : Wd) (H : Heap) (locs : List Loc) (cells slots : Nat) (ls : Array Slot) (hZ : wd_Z E w0 R s w H locs cells slots [(x0, 21)]) (hl : lv_has ls 4 [(0, va_rf x0), (1, .int x1), (2, .int x2), (3, .int x3)]) (hf : f_J7_fill_53178_l5 n rec5 x0 x1 x2 x3 w = some w') : W p l e R s m args below meth c H locs cells slots (wd_fin E w0 none w' True R args s below) (F0 m 5 ls []) := by
  obtain ⟨hx, hb, hr, hml, hts, hown, hlocks, hmn, hK⟩ := id C
  unfold f_J7_fill_53178_l5 at hf
  refine lv_iload_n (i := 2) hx hb dJ7_fill_53178_5 rfl (lv_at hl 2 rfl) ?_
  refine lv_iload_n (i := 3) hx hb dJ7_fill_53178_6 rfl (lv_at hl 3 rfl) ?_
  refine lv_icmp_ge (tgt := 20) hx hb dJ7_fill_53178_7 (by decide) (fun h4 => ?_) (fun h4 => ?_)
  · replace hf := wd_ite_p h4 hf
    obtain rfl := Option.some.inj hf
    exact z_vret hx hb hr hlocks hZ trivial dJ7_fill_53178_20
  · replace hf := wd_ite_n h4 hf
    refine z_aload_n (i := 0) hx hb dJ7_fill_53178_10 rfl (lv_at hl 0 rfl) ?_
    refine lv_iload_n (i := 2) hx hb dJ7_fill_53178_11 rfl (lv_at hl 2 rfl) ?_
    refine lv_iload_n (i := 1) hx hb dJ7_fill_53178_12 rfl (lv_at hl 1 rfl) ?_
    have hf9 := Option.bind_eq_some_iff.mp hf; clear hf; obtain ⟨a5, ha5, hf⟩ := hf9
    subst ha5
    replace hl : lv_has ls 4 [(0, .ref a5), (1, .int x1), (2, .int x2), (3, .int x3)] := hl
    replace hZ : wd_Z E w0 R s w H locs cells slots [(some a5, 21)] := hZ
    have hf9 := wd_gd_e hf; clear hf; obtain ⟨h6, hf⟩ := hf9
    refine z_iast hx hb hK hZ (hZ.k 0 rfl rfl) h6 dJ7_fill_53178_13 ?_; clear hZ; intro H locs hZ
    have hf9 := wd_let_e hf; clear hf; obtain ⟨w7, e8, hf⟩ := hf9
    rw [e8] at hZ
    have hf9 := wd_let_e hf; clear hf; obtain ⟨v9, e10, hf⟩ := hf9
    refine lv_iinc (k := 2) (v := v9) (lv' := [(2, .int v9), (0, .ref a5), (1, .int x1), (3, .int x3)]) hx hb dJ7_fill_53178_14 hl rfl (by rw [← e10]; rfl) (by decide) rfl ?_; clear hl; intro ls hl
    refine lv_goto (tgt := 5) hx hb dJ7_fill_53178_17 (by decide) ?_
    exact hrec5 (some a5) x1 v9 x3 w7 _ _ _ _ _ ⟨hZ.1, hZ.2.1, hZ.2.2.1, hZ.2.2.2.1, (List.forall_mem_cons.mpr ⟨⟨Nat.succ_ne_zero _, (fun q hq => by cases hq; exact (hZ.k 0 rfl rfl))⟩, (fun _ hq => absurd hq List.not_mem_nil)⟩), hZ.2.2.2.2.2⟩ (lv_sub hl [1, 2, 0, 3] rfl) hf

theorem v_J7_fill_53178_l5 {p : Program} {l : Launch} {e : Env} {R : Room} {s : State} {m : MethodId} {args : Array Value} {below : List Frame} {meth : Method} {c : Code} {E : wd_E} {w0 : Wd} {w' : Wd} (n : Nat) (C : wd_X p s m args meth c cJ7_fill_53178 RJ7 4 none "fill" E) (hR : 0 ≤ R.frames ∧ 0 ≤ R.locals) : ∀ (k : Nat) (x0 : Option Nat) (x1 : Int32) (x2 : Int32) (x3 : Int32) (w : Wd) (H : Heap) (locs : List Loc) (cells slots : Nat) (ls : Array Slot), wd_Z E w0 R s w H locs cells slots [(x0, 21)] → lv_has ls 4 [(0, va_rf x0), (1, .int x1), (2, .int x2), (3, .int x3)] → wd_lp5 (f_J7_fill_53178_l5 n) k x0 x1 x2 x3 w = some w' → W p l e R s m args below meth c H locs cells slots (wd_fin E w0 none w' True R args s below) (F0 m 5 ls []) := by
  intro k
  induction k with
  | zero => intro _ _ _ _ _ _ _ _ _ _ _ _ hf; cases hf
  | succ k ih =>
    intro x0 x1 x2 x3 w H locs cells slots ls hZ hl hf
    exact v_J7_fill_53178_b5 n C hR (wd_lp5 (f_J7_fill_53178_l5 n) k) ih x0 x1 x2 x3 w H locs cells slots ls hZ hl hf

set_option maxHeartbeats 4000000 in
set_option maxRecDepth 100000 in
theorem c_J7_fill_53178 (l : Launch) (E : wd_E) (n : Nat) (w : Wd) (p0 : Option Nat) (p1 : Int32) (w' : Wd) (k_p0 : ∀ q, p0 = some q → wd_K w q = 21) (hf : f_J7_fill_53178 n w p0 p1 = some w') : wd_C l E yJ7_fill_53178 cJ7_fill_53178 4 none 0 0 [va_rf p0, .int p1] w none w' True := by
  refine wd_ofW (own := RJ7) (nm := "fill") (ks := [(p0, 21)]) (lv := [(0, va_rf p0), (1, .int p1)]) (by decide) rfl rfl (by simp [lg_sl, va_rf_cat, va_cat_r, va_cat_i, va_cat_l, va_cat_d]) (by simp [lv_args, va_rf_cat, va_cat_r, va_cat_i, va_cat_l, va_cat_d]) (List.forall_mem_cons.mpr ⟨⟨Nat.succ_ne_zero _, k_p0⟩, (fun _ hq => absurd hq List.not_mem_nil)⟩) ?_
  intro p e s m args below meth c R H locs cells slots ls C hR hZ hl
  obtain ⟨hx, hb, hr, hml, hts, hown, hlocks, hmn, hK⟩ := id C
  unfold f_J7_fill_53178 at hf
  refine lv_iconst (v := 0) hx hb dJ7_fill_53178_0 (by decide) ?_
  refine lv_istore_n (i := 2) (lv' := [(2, .int (0 : Int32)), (0, va_rf p0), (1, .int p1)]) hx hb dJ7_fill_53178_1 rfl hl (by decide) rfl ?_; clear hl; intro ls hl
  refine z_aload_n (i := 0) hx hb dJ7_fill_53178_2 rfl (lv_at hl 1 rfl) ?_
  have hf9 := Option.bind_eq_some_iff.mp hf; clear hf; obtain ⟨a1, ha1, hf⟩ := hf9
  subst ha1
  replace hl : lv_has ls 4 [(2, .int (0 : Int32)), (0, .ref a1), (1, .int p1)] := hl
  replace hZ : wd_Z E w R s w H locs cells slots [(some a1, 21)] := hZ
  refine z_alen hx hb hK hZ (hZ.k 0 rfl rfl) dJ7_fill_53178_3 ?_
  have hf9 := wd_let_e hf; clear hf; obtain ⟨v2, e3, hf⟩ := hf9
  rw [e3]
  refine lv_istore_n (i := 3) (lv' := [(3, .int v2), (2, .int (0 : Int32)), (0, .ref a1), (1, .int p1)]) hx hb dJ7_fill_53178_4 rfl hl (by decide) rfl ?_; clear hl; intro ls hl
  exact v_J7_fill_53178_l5 n C hR n (some a1) p1 (0 : Int32) v2 w _ _ _ _ _ ⟨hZ.1, hZ.2.1, hZ.2.2.1, hZ.2.2.2.1, (List.forall_mem_cons.mpr ⟨⟨Nat.succ_ne_zero _, (fun q hq => by cases hq; exact (hZ.k 0 rfl rfl))⟩, (fun _ hq => absurd hq List.not_mem_nil)⟩), hZ.2.2.2.2.2⟩ (lv_sub hl [2, 3, 1, 0] rfl) hf

def f_X2_init_l44 (n : Nat) (rec44 : Nat → Int32 → Wd → Option Wd) (x0 : Nat) (x2 : Int32) (w : Wd) : Option Wd :=
  if (3 : Int32) ≤ x2 then
    some w
  else
    wd_gd (wd_M w = 0 ∨ wd_S w < 3) <|
    wd_let (wd_H w) fun a28 =>
    wd_let (wd_nw w 2 0 3) fun w30 =>
    Option.bind (f_X1_init n w30 a28) fun w32 =>
    Option.bind (wd_R w 208 x0) fun a34 =>
    wd_gd (x2 < 0 ∨ wd_N w32 a34 ≤ x2.toNatClampNeg) <|
    wd_let (wd_sQ w32 a34 x2.toNatClampNeg (some a28)) fun w36 =>
    wd_let (x2 + 1) fun v38 =>
    rec44 x0 v38 w36
def f_X2_init (n : Nat) (w : Wd) (this : Nat) (p0 : Option Nat) : Option Wd :=
  wd_gd (wd_M w = 0 ∨ wd_S w < 256) <|
  wd_let (wd_H w) fun a2 =>
  wd_let (wd_nw w 21 256 256) fun w4 =>
  wd_let (wd_sR w4 205 this (some a2)) fun w6 =>
  wd_gd (wd_M w6 = 0 ∨ wd_S w6 < 3) <|
  wd_let (wd_H w6) fun a9 =>
  wd_let (wd_nw w6 25 3 3) fun w11 =>
  wd_let (wd_sR w11 208 this (some a9)) fun w13 =>
  wd_gd (wd_M w13 = 0 ∨ wd_S w13 < 60) <|
  wd_let (wd_H w13) fun a16 =>
  wd_let (wd_nw w13 21 60 60) fun w18 =>
  wd_let (wd_sR w18 209 this (some a16)) fun w20 =>
  wd_let (wd_sR w20 200 this p0) fun w22 =>
  Option.bind (f_J7_fill_53178 n w22 (wd_R w22 205 this) (-1 : Int32)) fun w24 =>
  wd_lp3 (f_X2_init_l44 n) n this (0 : Int32) w24
set_option maxHeartbeats 4000000 in
set_option maxRecDepth 100000 in
theorem v_X2_init_b44 {p : Program} {l : Launch} {e : Env} {R : Room} {s : State} {m : MethodId} {args : Array Value} {below : List Frame} {meth : Method} {c : Code} {E : wd_E} {w0 : Wd} {w' : Wd} (n : Nat) (C : wd_X p s m args meth c cX2_init RX2 3 none "<init>" E) (hR : 2 ≤ R.frames ∧ 44 ≤ R.locals) (rec44 : Nat → Int32 → Wd → Option Wd) (hrec44 : ∀ (x0_ : Nat) (x2_ : Int32) (w_ : Wd) (H : Heap) (locs : List Loc) (cells slots : Nat) (ls : Array Slot), wd_Z E w0 R s w_ H locs cells slots [(some x0_, 3)] → lv_has ls 3 [(0, .ref x0_), (2, .int x2_)] → rec44 x0_ x2_ w_ = some w' → W p l e R s m args below meth c H locs cells slots (wd_fin E w0 none w' True R args s below) (F0 m 44 ls [])) (x0 : Nat) (x2 : Int32) (w : Wd) (H : Heap) (locs : List Loc) (cells slots : Nat) (ls : Array Slot) (hZ : wd_Z E w0 R s w H locs cells slots [(some x0, 3)]) (hl : lv_has ls 3 [(0, .ref x0), (2, .int x2)]) (hf : f_X2_init_l44 n rec44 x0 x2 w = some w') : W p l e R s m args below meth c H locs cells slots (wd_fin E w0 none w' True R args s below) (F0 m 44 ls []) := by
  obtain ⟨hx, hb, hr, hml, hts, hown, hlocks, hmn, hK⟩ := id C
  unfold f_X2_init_l44 at hf
  refine lv_iload_n (i := 2) hx hb dX2_init_44 rfl (lv_at hl 1 rfl) ?_
  refine lv_iconst (v := 3) hx hb dX2_init_45 (by decide) ?_
  refine lv_icmp_ge (tgt := 68) hx hb dX2_init_46 (by decide) (fun h26 => ?_) (fun h26 => ?_)
  · replace hf := wd_ite_p h26 hf
    obtain rfl := Option.some.inj hf
    exact z_vret hx hb hr hlocks hZ trivial dX2_init_68
  · replace hf := wd_ite_n h26 hf
    refine lv_aload_n (i := 0) hx hb dX2_init_49 rfl (lv_at hl 0 rfl) ?_
    refine z_getR (tk := 24) fd_208 rfl hx hb hts hown hK hZ (hZ.k 0 rfl rfl) tw_220 dX2_init_50 ?_; clear hZ; intro hZ
    refine lv_iload_n (i := 2) hx hb dX2_init_53 rfl (lv_at hl 1 rfl) ?_
    have hf9 := wd_gd_e hf; clear hf; obtain ⟨h27, hf⟩ := hf9
    refine z_new cok_1 hx hb hts hown hK hZ tw_184 tw_187 tw_35 h27 dX2_init_54 ?_; clear hZ; intro H cells slots hZ
    have hf9 := wd_let_e hf; clear hf; obtain ⟨a28, e29, hf⟩ := hf9
    rw [e29]
    rw [e29] at hZ
    have hf9 := wd_let_e hf; clear hf; obtain ⟨w30, e31, hf⟩ := hf9
    rw [e31] at hZ
    refine lv_dup hx hb dX2_init_57 rfl ?_
    have hf9 := Option.bind_eq_some_iff.mp hf; clear hf; obtain ⟨w32, hc33, hf⟩ := hf9
    refine z_callIN (As := []) (rest := [.ref a28, .int x2, va_rf (wd_R w 208 x0)]) (c_X1_init l E n w30 a28 w32 (hZ.k 0 rfl rfl) hc33) mo_X1_init rfl tw_189 hK.2.2.2.1.1 hx hb hml hts hown hK ⟨Nat.le_trans (by decide) hR.1, Nat.le_trans (by decide) hR.2⟩ hZ rfl hl.1 rfl (by simp [va_rf_cat, va_cat_r, va_cat_i, va_cat_l, va_cat_d]) dX2_init_58 ?_; clear hZ; intro H locs cells slots hX hZ
    have hf9 := Option.bind_eq_some_iff.mp hf; clear hf; obtain ⟨a34, ha34, hf⟩ := hf9
    replace hZ := hZ.add (r := some a34) (k := 25) (Nat.succ_ne_zero _) (fun q hq => by cases hq; exact hZ.k 1 rfl ha34)
    rw [ha34]
    have hf9 := wd_gd_e hf; clear hf; obtain ⟨h35, hf⟩ := hf9
    refine z_aast (k := 25) (ci := 1) (by decide) (by decide) rfl rfl (by decide) rfl hx hb hK hZ (hZ.k 0 rfl rfl) (hZ.k 1 rfl rfl) h35 dX2_init_61 ?_; clear hZ; intro H locs hZ
    have hf9 := wd_let_e hf; clear hf; obtain ⟨w36, e37, hf⟩ := hf9
    rw [e37] at hZ
    have hf9 := wd_let_e hf; clear hf; obtain ⟨v38, e39, hf⟩ := hf9
    refine lv_iinc (k := 1) (v := v38) (lv' := [(2, .int v38), (0, .ref x0)]) hx hb dX2_init_62 hl rfl (by rw [← e39]; rfl) (by decide) rfl ?_; clear hl; intro ls hl
    refine lv_goto (tgt := 44) hx hb dX2_init_65 (by decide) ?_
    exact hrec44 x0 v38 w36 _ _ _ _ _ ⟨hZ.1, hZ.2.1, hZ.2.2.1, hZ.2.2.2.1, (List.forall_mem_cons.mpr ⟨⟨Nat.succ_ne_zero _, (fun q hq => by cases hq; exact (hZ.k 3 rfl rfl))⟩, (fun _ hq => absurd hq List.not_mem_nil)⟩), hZ.2.2.2.2.2⟩ (lv_sub hl [1, 0] rfl) hf

theorem v_X2_init_l44 {p : Program} {l : Launch} {e : Env} {R : Room} {s : State} {m : MethodId} {args : Array Value} {below : List Frame} {meth : Method} {c : Code} {E : wd_E} {w0 : Wd} {w' : Wd} (n : Nat) (C : wd_X p s m args meth c cX2_init RX2 3 none "<init>" E) (hR : 2 ≤ R.frames ∧ 44 ≤ R.locals) : ∀ (k : Nat) (x0 : Nat) (x2 : Int32) (w : Wd) (H : Heap) (locs : List Loc) (cells slots : Nat) (ls : Array Slot), wd_Z E w0 R s w H locs cells slots [(some x0, 3)] → lv_has ls 3 [(0, .ref x0), (2, .int x2)] → wd_lp3 (f_X2_init_l44 n) k x0 x2 w = some w' → W p l e R s m args below meth c H locs cells slots (wd_fin E w0 none w' True R args s below) (F0 m 44 ls []) := by
  intro k
  induction k with
  | zero => intro _ _ _ _ _ _ _ _ _ _ hf; cases hf
  | succ k ih =>
    intro x0 x2 w H locs cells slots ls hZ hl hf
    exact v_X2_init_b44 n C hR (wd_lp3 (f_X2_init_l44 n) k) ih x0 x2 w H locs cells slots ls hZ hl hf

set_option maxHeartbeats 4000000 in
set_option maxRecDepth 100000 in
theorem c_X2_init (l : Launch) (E : wd_E) (n : Nat) (w : Wd) (this : Nat) (p0 : Option Nat) (w' : Wd) (k_this : wd_K w this = 3) (k_p0 : ∀ q, p0 = some q → wd_K w q = 4) (hf : f_X2_init n w this p0 = some w') : wd_C l E yX2_init cX2_init 3 none 2 44 [.ref this, va_rf p0] w none w' True := by
  refine wd_ofW (own := RX2) (nm := "<init>") (ks := [(some this, 3), (p0, 4)]) (lv := [(0, .ref this), (1, va_rf p0)]) (by decide) rfl rfl (by simp [lg_sl, va_rf_cat, va_cat_r, va_cat_i, va_cat_l, va_cat_d]) (by simp [lv_args, va_rf_cat, va_cat_r, va_cat_i, va_cat_l, va_cat_d]) (List.forall_mem_cons.mpr ⟨⟨Nat.succ_ne_zero _, fun q hq => by cases hq; exact k_this⟩, (List.forall_mem_cons.mpr ⟨⟨Nat.succ_ne_zero _, k_p0⟩, (fun _ hq => absurd hq List.not_mem_nil)⟩)⟩) ?_
  intro p e s m args below meth c R H locs cells slots ls C hR hZ hl
  obtain ⟨hx, hb, hr, hml, hts, hown, hlocks, hmn, hK⟩ := id C
  unfold f_X2_init at hf
  refine lv_aload_n (i := 0) hx hb dX2_init_0 rfl (lv_at hl 0 rfl) ?_
  refine W.objInit hx hb hown (hts _ tw_183) (hts _ tw_54) (hts _ tw_55) rfl (by rw [hml]; exact hl.1) rfl dX2_init_1 (Nat.le_trans (by decide) hR.1) (Nat.le_trans (Nat.le_of_ble_eq_true rfl) hR.2) ?_
  refine W.eq (g2 := F0 m 4 ls []) rfl ?_
  refine lv_aload_n (i := 0) hx hb dX2_init_4 rfl (lv_at hl 0 rfl) ?_
  refine lv_sipush (v := 256) hx hb dX2_init_5 (by decide) ?_
  have hf9 := wd_gd_e hf; clear hf; obtain ⟨h1, hf⟩ := hf9
  refine z_newa (N := 256) hx hb hts hK hZ tw_117 (by decide) (by decide) (by decide) h1 dX2_init_8 ?_; clear hZ; intro H cells slots hZ
  have hf9 := wd_let_e hf; clear hf; obtain ⟨a2, e3, hf⟩ := hf9
  rw [e3]
  rw [e3] at hZ
  have hf9 := wd_let_e hf; clear hf; obtain ⟨w4, e5, hf⟩ := hf9
  rw [e5] at hZ
  refine z_putFR (r := (some a2)) rfl hmn rfl fd_205 cok_2 (tk := 20) rfl (fun q hq => by cases hq; exact (hZ.k 0 rfl rfl)) rfl rfl (wd_obA _) hx hb hts hown hK hZ (hZ.k 1 rfl rfl) tw_217 dX2_init_10 ?_; clear hZ; intro H locs hZ
  have hf9 := wd_let_e hf; clear hf; obtain ⟨w6, e7, hf⟩ := hf9
  rw [e7] at hZ
  refine lv_aload_n (i := 0) hx hb dX2_init_13 rfl (lv_at hl 0 rfl) ?_
  refine lv_iconst (v := 3) hx hb dX2_init_14 (by decide) ?_
  have hf9 := wd_gd_e hf; clear hf; obtain ⟨h8, hf⟩ := hf9
  refine z_anew (k := 25) (N := 3) (by decide) (by decide) rfl hK.2.2.1.2.2.2 hx hb hts hown hK hZ tw_184 (by decide) (by decide) (by decide) h8 dX2_init_15 ?_; clear hZ; intro H cells slots hZ
  have hf9 := wd_let_e hf; clear hf; obtain ⟨a9, e10, hf⟩ := hf9
  rw [e10]
  rw [e10] at hZ
  have hf9 := wd_let_e hf; clear hf; obtain ⟨w11, e12, hf⟩ := hf9
  rw [e12] at hZ
  refine z_putFR (r := (some a9)) rfl hmn rfl fd_208 cok_2 (tk := 24) rfl (fun q hq => by cases hq; exact (hZ.k 0 rfl rfl)) rfl rfl (wd_obA _) hx hb hts hown hK hZ (hZ.k 2 rfl rfl) tw_220 dX2_init_18 ?_; clear hZ; intro H locs hZ
  have hf9 := wd_let_e hf; clear hf; obtain ⟨w13, e14, hf⟩ := hf9
  rw [e14] at hZ
  refine lv_aload_n (i := 0) hx hb dX2_init_21 rfl (lv_at hl 0 rfl) ?_
  refine lv_bipush (v := 60) hx hb dX2_init_22 (by decide) ?_
  have hf9 := wd_gd_e hf; clear hf; obtain ⟨h15, hf⟩ := hf9
  refine z_newa (N := 60) hx hb hts hK hZ tw_117 (by decide) (by decide) (by decide) h15 dX2_init_24 ?_; clear hZ; intro H cells slots hZ
  have hf9 := wd_let_e hf; clear hf; obtain ⟨a16, e17, hf⟩ := hf9
  rw [e17]
  rw [e17] at hZ
  have hf9 := wd_let_e hf; clear hf; obtain ⟨w18, e19, hf⟩ := hf9
  rw [e19] at hZ
  refine z_putFR (r := (some a16)) rfl hmn rfl fd_209 cok_2 (tk := 20) rfl (fun q hq => by cases hq; exact (hZ.k 0 rfl rfl)) rfl rfl (wd_obA _) hx hb hts hown hK hZ (hZ.k 3 rfl rfl) tw_221 dX2_init_26 ?_; clear hZ; intro H locs hZ
  have hf9 := wd_let_e hf; clear hf; obtain ⟨w20, e21, hf⟩ := hf9
  rw [e21] at hZ
  refine lv_aload_n (i := 0) hx hb dX2_init_29 rfl (lv_at hl 0 rfl) ?_
  refine z_aload_n (i := 1) hx hb dX2_init_30 rfl (lv_at hl 1 rfl) ?_
  refine z_putFR (r := p0) rfl hmn rfl fd_200 cok_2 (tk := 3) rfl (fun q hq => hZ.k 4 rfl hq) rfl rfl (wd_obO _) hx hb hts hown hK hZ (hZ.k 3 rfl rfl) tw_204 dX2_init_31 ?_; clear hZ; intro H locs hZ
  have hf9 := wd_let_e hf; clear hf; obtain ⟨w22, e23, hf⟩ := hf9
  rw [e23] at hZ
  refine lv_aload_n (i := 0) hx hb dX2_init_34 rfl (lv_at hl 0 rfl) ?_
  refine z_getR (tk := 20) fd_205 rfl hx hb hts hown hK hZ (hZ.k 3 rfl rfl) tw_217 dX2_init_35 ?_; clear hZ; intro hZ
  refine lv_iconst (v := -1) hx hb dX2_init_38 (by decide) ?_
  have hf9 := Option.bind_eq_some_iff.mp hf; clear hf; obtain ⟨w24, hc25, hf⟩ := hf9
  refine z_callS (As := [va_rf (wd_R w22 205 this), .int (-1 : Int32)]) (rest := []) (c_J7_fill_53178 l E n w22 (wd_R w22 205 this) (-1 : Int32) w24 (fun q hq => hZ.k 0 rfl hq) hc25) mo_J7_fill_53178 tw_73 tw_186 hx hb hml hts hown hK ⟨Nat.le_trans (by decide) hR.1, Nat.le_trans (by decide) hR.2⟩ hZ rfl hl.1 rfl (Nat.le_of_ble_eq_true rfl) rfl dX2_init_39 ?_; clear hZ; intro H locs cells slots hX hZ
  refine lv_iconst (v := 0) hx hb dX2_init_42 (by decide) ?_
  refine lv_istore_n (i := 2) (lv' := [(2, .int (0 : Int32)), (0, .ref this), (1, va_rf p0)]) hx hb dX2_init_43 rfl hl (by decide) (by simp [va_rf_cat, va_cat_r, va_cat_i, va_cat_l, va_cat_d]) ?_; clear hl; intro ls hl
  exact v_X2_init_l44 n C hR n this (0 : Int32) w24 _ _ _ _ _ ⟨hZ.1, hZ.2.1, hZ.2.2.1, hZ.2.2.2.1, (List.forall_mem_cons.mpr ⟨⟨Nat.succ_ne_zero _, (fun q hq => by cases hq; exact (hZ.k 4 rfl rfl))⟩, (fun _ hq => absurd hq List.not_mem_nil)⟩), hZ.2.2.2.2.2⟩ (lv_sub hl [1, 0] rfl) hf

def f_X2_knownMark_j20 (n : Nat) (w : Wd) : Option (Int32 × Wd) :=
  some ((-1 : Int32), w)
def f_X2_knownMark (n : Nat) (w : Wd) (this : Nat) (p0 : Int32) : Option (Int32 × Wd) :=
  if p0 < 0 then
    f_X2_knownMark_j20 n w
  else
    if (256 : Int32) ≤ p0 then
      f_X2_knownMark_j20 n w
    else
      Option.bind (wd_R w 205 this) fun a3 =>
      wd_gd (p0 < 0 ∨ wd_N w a3 ≤ p0.toNatClampNeg) <|
      some ((wd_A w a3 p0.toNatClampNeg), w)
set_option maxHeartbeats 4000000 in
set_option maxRecDepth 100000 in
theorem v_X2_knownMark_j20 {p : Program} {l : Launch} {e : Env} {R : Room} {s : State} {m : MethodId} {args : Array Value} {below : List Frame} {meth : Method} {c : Code} {E : wd_E} {w0 : Wd} {r' : Int32} {w' : Wd} (n : Nat) (C : wd_X p s m args meth c cX2_knownMark RX2 2 (some .int) "knownMark" E) (hR : 0 ≤ R.frames ∧ 0 ≤ R.locals) (w : Wd) (H : Heap) (locs : List Loc) (cells slots : Nat) (ls : Array Slot) (hZ : wd_Z E w0 R s w H locs cells slots []) (hl : lv_has ls 2 []) (hf : f_X2_knownMark_j20 n w = some (r', w')) : W p l e R s m args below meth c H locs cells slots (wd_fin E w0 (some (.int r')) w' True R args s below) (F0 m 20 ls []) := by
  obtain ⟨hx, hb, hr, hml, hts, hown, hlocks, hmn, hK⟩ := id C
  unfold f_X2_knownMark_j20 at hf
  refine lv_iconst (v := -1) hx hb dX2_knownMark_20 (by decide) ?_
  obtain ⟨rfl, rfl⟩ := Prod.mk.inj (Option.some.inj hf)
  exact z_iret hx hb hr hlocks hZ trivial dX2_knownMark_21

set_option maxHeartbeats 4000000 in
set_option maxRecDepth 100000 in
theorem c_X2_knownMark (l : Launch) (E : wd_E) (n : Nat) (w : Wd) (this : Nat) (p0 : Int32) (r' : Int32) (w' : Wd) (k_this : wd_K w this = 3) (hf : f_X2_knownMark n w this p0 = some (r', w')) : wd_C l E yX2_knownMark cX2_knownMark 2 (some .int) 0 0 [.ref this, .int p0] w (some (.int r')) w' True := by
  refine wd_ofW (own := RX2) (nm := "knownMark") (ks := [(some this, 3)]) (lv := [(0, .ref this), (1, .int p0)]) (by decide) rfl rfl (Nat.le_of_ble_eq_true rfl) rfl (List.forall_mem_cons.mpr ⟨⟨Nat.succ_ne_zero _, fun q hq => by cases hq; exact k_this⟩, (fun _ hq => absurd hq List.not_mem_nil)⟩) ?_
  intro p e s m args below meth c R H locs cells slots ls C hR hZ hl
  obtain ⟨hx, hb, hr, hml, hts, hown, hlocks, hmn, hK⟩ := id C
  unfold f_X2_knownMark at hf
  refine lv_iload_n (i := 1) hx hb dX2_knownMark_0 rfl (lv_at hl 1 rfl) ?_
  refine lv_if_lt (tgt := 20) hx hb dX2_knownMark_1 (by decide) (fun h1 => ?_) (fun h1 => ?_)
  · replace hf := wd_ite_p h1 hf
    exact v_X2_knownMark_j20 n C hR w _ _ _ _ _ ⟨hZ.1, hZ.2.1, hZ.2.2.1, hZ.2.2.2.1, (fun _ hq => absurd hq List.not_mem_nil), hZ.2.2.2.2.2⟩ (lv_sub hl [] rfl) hf
  · replace hf := wd_ite_n h1 hf
    refine lv_iload_n (i := 1) hx hb dX2_knownMark_4 rfl (lv_at hl 1 rfl) ?_
    refine lv_sipush (v := 256) hx hb dX2_knownMark_5 (by decide) ?_
    refine lv_icmp_ge (tgt := 20) hx hb dX2_knownMark_8 (by decide) (fun h2 => ?_) (fun h2 => ?_)
    · replace hf := wd_ite_p h2 hf
      exact v_X2_knownMark_j20 n C hR w _ _ _ _ _ ⟨hZ.1, hZ.2.1, hZ.2.2.1, hZ.2.2.2.1, (fun _ hq => absurd hq List.not_mem_nil), hZ.2.2.2.2.2⟩ (lv_sub hl [] rfl) hf
    · replace hf := wd_ite_n h2 hf
      refine lv_aload_n (i := 0) hx hb dX2_knownMark_11 rfl (lv_at hl 0 rfl) ?_
      refine z_getR (tk := 20) fd_205 rfl hx hb hts hown hK hZ (hZ.k 0 rfl rfl) tw_217 dX2_knownMark_12 ?_; clear hZ; intro hZ
      refine lv_iload_n (i := 1) hx hb dX2_knownMark_15 rfl (lv_at hl 1 rfl) ?_
      have hf9 := Option.bind_eq_some_iff.mp hf; clear hf; obtain ⟨a3, ha3, hf⟩ := hf9
      replace hZ := hZ.add (r := some a3) (k := 21) (Nat.succ_ne_zero _) (fun q hq => by cases hq; exact hZ.k 0 rfl ha3)
      rw [ha3]
      have hf9 := wd_gd_e hf; clear hf; obtain ⟨h4, hf⟩ := hf9
      refine z_iald hx hb hK hZ (hZ.k 0 rfl rfl) h4 dX2_knownMark_16 ?_
      refine lv_goto (tgt := 21) hx hb dX2_knownMark_17 (by decide) ?_
      obtain ⟨rfl, rfl⟩ := Prod.mk.inj (Option.some.inj hf)
      exact z_iret hx hb hr hlocks hZ trivial dX2_knownMark_21

def f_X2_learn (n : Nat) (w : Wd) (this : Nat) (p0 : Int32) (p1 : Int32) : Option Wd :=
  if p0 < 0 then
    some w
  else
    if (256 : Int32) ≤ p0 then
      some w
    else
      Option.bind (wd_R w 205 this) fun a3 =>
      wd_gd (p0 < 0 ∨ wd_N w a3 ≤ p0.toNatClampNeg) <|
      wd_let (wd_sA w a3 p0.toNatClampNeg p1) fun w5 =>
      some w5
set_option maxHeartbeats 4000000 in
set_option maxRecDepth 100000 in
theorem c_X2_learn (l : Launch) (E : wd_E) (n : Nat) (w : Wd) (this : Nat) (p0 : Int32) (p1 : Int32) (w' : Wd) (k_this : wd_K w this = 3) (hf : f_X2_learn n w this p0 p1 = some w') : wd_C l E yX2_learn cX2_learn 3 none 0 0 [.ref this, .int p0, .int p1] w none w' True := by
  refine wd_ofW (own := RX2) (nm := "learn") (ks := [(some this, 3)]) (lv := [(0, .ref this), (1, .int p0), (2, .int p1)]) (by decide) rfl rfl (Nat.le_of_ble_eq_true rfl) rfl (List.forall_mem_cons.mpr ⟨⟨Nat.succ_ne_zero _, fun q hq => by cases hq; exact k_this⟩, (fun _ hq => absurd hq List.not_mem_nil)⟩) ?_
  intro p e s m args below meth c R H locs cells slots ls C hR hZ hl
  obtain ⟨hx, hb, hr, hml, hts, hown, hlocks, hmn, hK⟩ := id C
  unfold f_X2_learn at hf
  refine lv_iload_n (i := 1) hx hb dX2_learn_0 rfl (lv_at hl 1 rfl) ?_
  refine lv_if_lt (tgt := 18) hx hb dX2_learn_1 (by decide) (fun h1 => ?_) (fun h1 => ?_)
  · replace hf := wd_ite_p h1 hf
    obtain rfl := Option.some.inj hf
    exact z_vret hx hb hr hlocks hZ trivial dX2_learn_18
  · replace hf := wd_ite_n h1 hf
    refine lv_iload_n (i := 1) hx hb dX2_learn_4 rfl (lv_at hl 1 rfl) ?_
    refine lv_sipush (v := 256) hx hb dX2_learn_5 (by decide) ?_
    refine lv_icmp_ge (tgt := 18) hx hb dX2_learn_8 (by decide) (fun h2 => ?_) (fun h2 => ?_)
    · replace hf := wd_ite_p h2 hf
      obtain rfl := Option.some.inj hf
      exact z_vret hx hb hr hlocks hZ trivial dX2_learn_18
    · replace hf := wd_ite_n h2 hf
      refine lv_aload_n (i := 0) hx hb dX2_learn_11 rfl (lv_at hl 0 rfl) ?_
      refine z_getR (tk := 20) fd_205 rfl hx hb hts hown hK hZ (hZ.k 0 rfl rfl) tw_217 dX2_learn_12 ?_; clear hZ; intro hZ
      refine lv_iload_n (i := 1) hx hb dX2_learn_15 rfl (lv_at hl 1 rfl) ?_
      refine lv_iload_n (i := 2) hx hb dX2_learn_16 rfl (lv_at hl 2 rfl) ?_
      have hf9 := Option.bind_eq_some_iff.mp hf; clear hf; obtain ⟨a3, ha3, hf⟩ := hf9
      replace hZ := hZ.add (r := some a3) (k := 21) (Nat.succ_ne_zero _) (fun q hq => by cases hq; exact hZ.k 0 rfl ha3)
      rw [ha3]
      have hf9 := wd_gd_e hf; clear hf; obtain ⟨h4, hf⟩ := hf9
      refine z_iast hx hb hK hZ (hZ.k 0 rfl rfl) h4 dX2_learn_17 ?_; clear hZ; intro H locs hZ
      have hf9 := wd_let_e hf; clear hf; obtain ⟨w5, e6, hf⟩ := hf9
      rw [e6] at hZ
      obtain rfl := Option.some.inj hf
      exact z_vret hx hb hr hlocks hZ trivial dX2_learn_18

def f_X2_clearKnown_j23 (n : Nat) (rec4 : Nat → Int32 → Int32 → Wd → Option (Int32 × Wd)) (x0 : Nat) (x1 : Int32) (x2 : Int32) (w : Wd) : Option (Int32 × Wd) :=
  Option.bind (wd_R w 205 x0) fun a5 =>
  wd_gd (x2 < 0 ∨ wd_N w a5 ≤ x2.toNatClampNeg) <|
  wd_let (wd_sA w a5 x2.toNatClampNeg (-1 : Int32)) fun w7 =>
  wd_let (x2 + 1) fun v9 =>
  rec4 x0 x1 v9 w7
def f_X2_clearKnown_l4 (n : Nat) (rec4 : Nat → Int32 → Int32 → Wd → Option (Int32 × Wd)) (x0 : Nat) (x1 : Int32) (x2 : Int32) (w : Wd) : Option (Int32 × Wd) :=
  if (256 : Int32) ≤ x2 then
    some (x1, w)
  else
    Option.bind (wd_R w 205 x0) fun a2 =>
    wd_gd (x2 < 0 ∨ wd_N w a2 ≤ x2.toNatClampNeg) <|
    if (wd_A w a2 x2.toNatClampNeg) < 0 then
      f_X2_clearKnown_j23 n rec4 x0 x1 x2 w
    else
      wd_let (x1 + 1) fun v11 =>
      f_X2_clearKnown_j23 n rec4 x0 v11 x2 w
def f_X2_clearKnown (n : Nat) (w : Wd) (this : Nat) : Option (Int32 × Wd) :=
  wd_lp4 (f_X2_clearKnown_l4 n) n this (0 : Int32) (0 : Int32) w
set_option maxHeartbeats 4000000 in
set_option maxRecDepth 100000 in
theorem v_X2_clearKnown_j23 {p : Program} {l : Launch} {e : Env} {R : Room} {s : State} {m : MethodId} {args : Array Value} {below : List Frame} {meth : Method} {c : Code} {E : wd_E} {w0 : Wd} {r' : Int32} {w' : Wd} (n : Nat) (C : wd_X p s m args meth c cX2_clearKnown RX2 3 (some .int) "clearKnown" E) (hR : 0 ≤ R.frames ∧ 0 ≤ R.locals) (rec4 : Nat → Int32 → Int32 → Wd → Option (Int32 × Wd)) (hrec4 : ∀ (x0_ : Nat) (x1_ : Int32) (x2_ : Int32) (w_ : Wd) (H : Heap) (locs : List Loc) (cells slots : Nat) (ls : Array Slot), wd_Z E w0 R s w_ H locs cells slots [(some x0_, 3)] → lv_has ls 3 [(0, .ref x0_), (1, .int x1_), (2, .int x2_)] → rec4 x0_ x1_ x2_ w_ = some (r', w') → W p l e R s m args below meth c H locs cells slots (wd_fin E w0 (some (.int r')) w' True R args s below) (F0 m 4 ls [])) (x0 : Nat) (x1 : Int32) (x2 : Int32) (w : Wd) (H : Heap) (locs : List Loc) (cells slots : Nat) (ls : Array Slot) (hZ : wd_Z E w0 R s w H locs cells slots [(some x0, 3)]) (hl : lv_has ls 3 [(0, .ref x0), (1, .int x1), (2, .int x2)]) (hf : f_X2_clearKnown_j23 n rec4 x0 x1 x2 w = some (r', w')) : W p l e R s m args below meth c H locs cells slots (wd_fin E w0 (some (.int r')) w' True R args s below) (F0 m 23 ls []) := by
  obtain ⟨hx, hb, hr, hml, hts, hown, hlocks, hmn, hK⟩ := id C
  unfold f_X2_clearKnown_j23 at hf
  refine lv_aload_n (i := 0) hx hb dX2_clearKnown_23 rfl (lv_at hl 0 rfl) ?_
  refine z_getR (tk := 20) fd_205 rfl hx hb hts hown hK hZ (hZ.k 0 rfl rfl) tw_217 dX2_clearKnown_24 ?_; clear hZ; intro hZ
  refine lv_iload_n (i := 2) hx hb dX2_clearKnown_27 rfl (lv_at hl 2 rfl) ?_
  refine lv_iconst (v := -1) hx hb dX2_clearKnown_28 (by decide) ?_
  have hf9 := Option.bind_eq_some_iff.mp hf; clear hf; obtain ⟨a5, ha5, hf⟩ := hf9
  replace hZ := hZ.add (r := some a5) (k := 21) (Nat.succ_ne_zero _) (fun q hq => by cases hq; exact hZ.k 0 rfl ha5)
  rw [ha5]
  have hf9 := wd_gd_e hf; clear hf; obtain ⟨h6, hf⟩ := hf9
  refine z_iast hx hb hK hZ (hZ.k 0 rfl rfl) h6 dX2_clearKnown_29 ?_; clear hZ; intro H locs hZ
  have hf9 := wd_let_e hf; clear hf; obtain ⟨w7, e8, hf⟩ := hf9
  rw [e8] at hZ
  have hf9 := wd_let_e hf; clear hf; obtain ⟨v9, e10, hf⟩ := hf9
  refine lv_iinc (k := 2) (v := v9) (lv' := [(2, .int v9), (0, .ref x0), (1, .int x1)]) hx hb dX2_clearKnown_30 hl rfl (by rw [← e10]; rfl) (by decide) rfl ?_; clear hl; intro ls hl
  refine lv_goto (tgt := 4) hx hb dX2_clearKnown_33 (by decide) ?_
  exact hrec4 x0 x1 v9 w7 _ _ _ _ _ ⟨hZ.1, hZ.2.1, hZ.2.2.1, hZ.2.2.2.1, (List.forall_mem_cons.mpr ⟨⟨Nat.succ_ne_zero _, (fun q hq => by cases hq; exact (hZ.k 2 rfl rfl))⟩, (fun _ hq => absurd hq List.not_mem_nil)⟩), hZ.2.2.2.2.2⟩ (lv_sub hl [1, 2, 0] rfl) hf

set_option maxHeartbeats 4000000 in
set_option maxRecDepth 100000 in
theorem v_X2_clearKnown_b4 {p : Program} {l : Launch} {e : Env} {R : Room} {s : State} {m : MethodId} {args : Array Value} {below : List Frame} {meth : Method} {c : Code} {E : wd_E} {w0 : Wd} {r' : Int32} {w' : Wd} (n : Nat) (C : wd_X p s m args meth c cX2_clearKnown RX2 3 (some .int) "clearKnown" E) (hR : 0 ≤ R.frames ∧ 0 ≤ R.locals) (rec4 : Nat → Int32 → Int32 → Wd → Option (Int32 × Wd)) (hrec4 : ∀ (x0_ : Nat) (x1_ : Int32) (x2_ : Int32) (w_ : Wd) (H : Heap) (locs : List Loc) (cells slots : Nat) (ls : Array Slot), wd_Z E w0 R s w_ H locs cells slots [(some x0_, 3)] → lv_has ls 3 [(0, .ref x0_), (1, .int x1_), (2, .int x2_)] → rec4 x0_ x1_ x2_ w_ = some (r', w') → W p l e R s m args below meth c H locs cells slots (wd_fin E w0 (some (.int r')) w' True R args s below) (F0 m 4 ls [])) (x0 : Nat) (x1 : Int32) (x2 : Int32) (w : Wd) (H : Heap) (locs : List Loc) (cells slots : Nat) (ls : Array Slot) (hZ : wd_Z E w0 R s w H locs cells slots [(some x0, 3)]) (hl : lv_has ls 3 [(0, .ref x0), (1, .int x1), (2, .int x2)]) (hf : f_X2_clearKnown_l4 n rec4 x0 x1 x2 w = some (r', w')) : W p l e R s m args below meth c H locs cells slots (wd_fin E w0 (some (.int r')) w' True R args s below) (F0 m 4 ls []) := by
  obtain ⟨hx, hb, hr, hml, hts, hown, hlocks, hmn, hK⟩ := id C
  unfold f_X2_clearKnown_l4 at hf
  refine lv_iload_n (i := 2) hx hb dX2_clearKnown_4 rfl (lv_at hl 2 rfl) ?_
  refine lv_sipush (v := 256) hx hb dX2_clearKnown_5 (by decide) ?_
  refine lv_icmp_ge (tgt := 36) hx hb dX2_clearKnown_8 (by decide) (fun h1 => ?_) (fun h1 => ?_)
  · replace hf := wd_ite_p h1 hf
    refine lv_iload_n (i := 1) hx hb dX2_clearKnown_36 rfl (lv_at hl 1 rfl) ?_
    obtain ⟨rfl, rfl⟩ := Prod.mk.inj (Option.some.inj hf)
    exact z_iret hx hb hr hlocks hZ trivial dX2_clearKnown_37
  · replace hf := wd_ite_n h1 hf
    refine lv_aload_n (i := 0) hx hb dX2_clearKnown_11 rfl (lv_at hl 0 rfl) ?_
    refine z_getR (tk := 20) fd_205 rfl hx hb hts hown hK hZ (hZ.k 0 rfl rfl) tw_217 dX2_clearKnown_12 ?_; clear hZ; intro hZ
    refine lv_iload_n (i := 2) hx hb dX2_clearKnown_15 rfl (lv_at hl 2 rfl) ?_
    have hf9 := Option.bind_eq_some_iff.mp hf; clear hf; obtain ⟨a2, ha2, hf⟩ := hf9
    replace hZ := hZ.add (r := some a2) (k := 21) (Nat.succ_ne_zero _) (fun q hq => by cases hq; exact hZ.k 0 rfl ha2)
    rw [ha2]
    have hf9 := wd_gd_e hf; clear hf; obtain ⟨h3, hf⟩ := hf9
    refine z_iald hx hb hK hZ (hZ.k 0 rfl rfl) h3 dX2_clearKnown_16 ?_
    refine lv_if_lt (tgt := 23) hx hb dX2_clearKnown_17 (by decide) (fun h4 => ?_) (fun h4 => ?_)
    · replace hf := wd_ite_p h4 hf
      exact v_X2_clearKnown_j23 n C hR rec4 hrec4 x0 x1 x2 w _ _ _ _ _ ⟨hZ.1, hZ.2.1, hZ.2.2.1, hZ.2.2.2.1, (List.forall_mem_cons.mpr ⟨⟨Nat.succ_ne_zero _, (fun q hq => by cases hq; exact (hZ.k 2 rfl rfl))⟩, (fun _ hq => absurd hq List.not_mem_nil)⟩), hZ.2.2.2.2.2⟩ (lv_sub hl [0, 1, 2] rfl) hf
    · replace hf := wd_ite_n h4 hf
      have hf9 := wd_let_e hf; clear hf; obtain ⟨v11, e12, hf⟩ := hf9
      refine lv_iinc (k := 1) (v := v11) (lv' := [(1, .int v11), (0, .ref x0), (2, .int x2)]) hx hb dX2_clearKnown_20 hl rfl (by rw [← e12]; rfl) (by decide) rfl ?_; clear hl; intro ls hl
      exact v_X2_clearKnown_j23 n C hR rec4 hrec4 x0 v11 x2 w _ _ _ _ _ ⟨hZ.1, hZ.2.1, hZ.2.2.1, hZ.2.2.2.1, (List.forall_mem_cons.mpr ⟨⟨Nat.succ_ne_zero _, (fun q hq => by cases hq; exact (hZ.k 2 rfl rfl))⟩, (fun _ hq => absurd hq List.not_mem_nil)⟩), hZ.2.2.2.2.2⟩ (lv_sub hl [1, 0, 2] rfl) hf

theorem v_X2_clearKnown_l4 {p : Program} {l : Launch} {e : Env} {R : Room} {s : State} {m : MethodId} {args : Array Value} {below : List Frame} {meth : Method} {c : Code} {E : wd_E} {w0 : Wd} {r' : Int32} {w' : Wd} (n : Nat) (C : wd_X p s m args meth c cX2_clearKnown RX2 3 (some .int) "clearKnown" E) (hR : 0 ≤ R.frames ∧ 0 ≤ R.locals) : ∀ (k : Nat) (x0 : Nat) (x1 : Int32) (x2 : Int32) (w : Wd) (H : Heap) (locs : List Loc) (cells slots : Nat) (ls : Array Slot), wd_Z E w0 R s w H locs cells slots [(some x0, 3)] → lv_has ls 3 [(0, .ref x0), (1, .int x1), (2, .int x2)] → wd_lp4 (f_X2_clearKnown_l4 n) k x0 x1 x2 w = some (r', w') → W p l e R s m args below meth c H locs cells slots (wd_fin E w0 (some (.int r')) w' True R args s below) (F0 m 4 ls []) := by
  intro k
  induction k with
  | zero => intro _ _ _ _ _ _ _ _ _ _ _ hf; cases hf
  | succ k ih =>
    intro x0 x1 x2 w H locs cells slots ls hZ hl hf
    exact v_X2_clearKnown_b4 n C hR (wd_lp4 (f_X2_clearKnown_l4 n) k) ih x0 x1 x2 w H locs cells slots ls hZ hl hf

set_option maxHeartbeats 4000000 in
set_option maxRecDepth 100000 in
theorem c_X2_clearKnown (l : Launch) (E : wd_E) (n : Nat) (w : Wd) (this : Nat) (r' : Int32) (w' : Wd) (k_this : wd_K w this = 3) (hf : f_X2_clearKnown n w this = some (r', w')) : wd_C l E yX2_clearKnown cX2_clearKnown 3 (some .int) 0 0 [.ref this] w (some (.int r')) w' True := by
  refine wd_ofW (own := RX2) (nm := "clearKnown") (ks := [(some this, 3)]) (lv := [(0, .ref this)]) (by decide) rfl rfl (Nat.le_of_ble_eq_true rfl) rfl (List.forall_mem_cons.mpr ⟨⟨Nat.succ_ne_zero _, fun q hq => by cases hq; exact k_this⟩, (fun _ hq => absurd hq List.not_mem_nil)⟩) ?_
  intro p e s m args below meth c R H locs cells slots ls C hR hZ hl
  obtain ⟨hx, hb, hr, hml, hts, hown, hlocks, hmn, hK⟩ := id C
  unfold f_X2_clearKnown at hf
  refine lv_iconst (v := 0) hx hb dX2_clearKnown_0 (by decide) ?_
  refine lv_istore_n (i := 1) (lv' := [(1, .int (0 : Int32)), (0, .ref this)]) hx hb dX2_clearKnown_1 rfl hl (by decide) rfl ?_; clear hl; intro ls hl
  refine lv_iconst (v := 0) hx hb dX2_clearKnown_2 (by decide) ?_
  refine lv_istore_n (i := 2) (lv' := [(2, .int (0 : Int32)), (1, .int (0 : Int32)), (0, .ref this)]) hx hb dX2_clearKnown_3 rfl hl (by decide) rfl ?_; clear hl; intro ls hl
  exact v_X2_clearKnown_l4 n C hR n this (0 : Int32) (0 : Int32) w _ _ _ _ _ ⟨hZ.1, hZ.2.1, hZ.2.2.1, hZ.2.2.2.1, (List.forall_mem_cons.mpr ⟨⟨Nat.succ_ne_zero _, (fun q hq => by cases hq; exact (hZ.k 0 rfl rfl))⟩, (fun _ hq => absurd hq List.not_mem_nil)⟩), hZ.2.2.2.2.2⟩ (lv_sub hl [2, 1, 0] rfl) hf

def f_X2_dropFirstWaiting_j28 (n : Nat) (x0 : Nat) (w : Wd) : Option Wd :=
  wd_on (wd_R w 206 x0) (
    wd_let (wd_sR w 207 x0 none) fun w3 =>
    some w3)
    (fun a2 =>
    some w)
def f_X2_dropFirstWaiting (n : Nat) (w : Wd) (this : Nat) : Option Wd :=
  wd_on (wd_R w 206 this) (
    f_X2_dropFirstWaiting_j28 n this w)
    (fun a1 =>
    Option.bind (wd_R w 206 this) fun a5 =>
    wd_let (wd_sR w 206 this (wd_R w 413 a5)) fun w6 =>
    wd_let (wd_sI w6 201 this ((wd_I w6 201 this) - (1 : Int32))) fun w8 =>
    f_X2_dropFirstWaiting_j28 n this w8)
set_option maxHeartbeats 4000000 in
set_option maxRecDepth 100000 in
theorem v_X2_dropFirstWaiting_j28 {p : Program} {l : Launch} {e : Env} {R : Room} {s : State} {m : MethodId} {args : Array Value} {below : List Frame} {meth : Method} {c : Code} {E : wd_E} {w0 : Wd} {w' : Wd} (n : Nat) (C : wd_X p s m args meth c cX2_dropFirstWaiting RX2 1 none "dropFirstWaiting" E) (hR : 0 ≤ R.frames ∧ 0 ≤ R.locals) (x0 : Nat) (w : Wd) (H : Heap) (locs : List Loc) (cells slots : Nat) (ls : Array Slot) (hZ : wd_Z E w0 R s w H locs cells slots [(some x0, 3)]) (hl : lv_has ls 1 [(0, .ref x0)]) (hf : f_X2_dropFirstWaiting_j28 n x0 w = some w') : W p l e R s m args below meth c H locs cells slots (wd_fin E w0 none w' True R args s below) (F0 m 28 ls []) := by
  obtain ⟨hx, hb, hr, hml, hts, hown, hlocks, hmn, hK⟩ := id C
  unfold f_X2_dropFirstWaiting_j28 at hf
  refine lv_aload_n (i := 0) hx hb dX2_dropFirstWaiting_28 rfl (lv_at hl 0 rfl) ?_
  refine z_getR (tk := 4) fd_206 rfl hx hb hts hown hK hZ (hZ.k 0 rfl rfl) tw_218 dX2_dropFirstWaiting_29 ?_; clear hZ; intro hZ
  refine z_ifnonnull (tgt := 40) hx hb dX2_dropFirstWaiting_32 (by decide) (fun a2 ha2 => ?_) (fun hn => ?_)
  · replace hf := wd_on_s ha2 hf
    obtain rfl := Option.some.inj hf
    exact z_vret hx hb hr hlocks hZ trivial dX2_dropFirstWaiting_40
  · replace hf := wd_on_n hn hf
    refine lv_aload_n (i := 0) hx hb dX2_dropFirstWaiting_35 rfl (lv_at hl 0 rfl) ?_
    refine z_null hx hb dX2_dropFirstWaiting_36 ?_
    refine z_putR (r := none) rfl fd_207 cok_2 (tk := 4) rfl (fun q hq => by cases hq) rfl rfl (wd_obO _) hx hb hts hown hK hZ (hZ.k 1 rfl rfl) tw_219 dX2_dropFirstWaiting_37 ?_; clear hZ; intro H locs hZ
    have hf9 := wd_let_e hf; clear hf; obtain ⟨w3, e4, hf⟩ := hf9
    rw [e4] at hZ
    obtain rfl := Option.some.inj hf
    exact z_vret hx hb hr hlocks hZ trivial dX2_dropFirstWaiting_40

set_option maxHeartbeats 4000000 in
set_option maxRecDepth 100000 in
theorem c_X2_dropFirstWaiting (l : Launch) (E : wd_E) (n : Nat) (w : Wd) (this : Nat) (w' : Wd) (k_this : wd_K w this = 3) (hf : f_X2_dropFirstWaiting n w this = some w') : wd_C l E yX2_dropFirstWaiting cX2_dropFirstWaiting 1 none 0 0 [.ref this] w none w' True := by
  refine wd_ofW (own := RX2) (nm := "dropFirstWaiting") (ks := [(some this, 3)]) (lv := [(0, .ref this)]) (by decide) rfl rfl (Nat.le_of_ble_eq_true rfl) rfl (List.forall_mem_cons.mpr ⟨⟨Nat.succ_ne_zero _, fun q hq => by cases hq; exact k_this⟩, (fun _ hq => absurd hq List.not_mem_nil)⟩) ?_
  intro p e s m args below meth c R H locs cells slots ls C hR hZ hl
  obtain ⟨hx, hb, hr, hml, hts, hown, hlocks, hmn, hK⟩ := id C
  unfold f_X2_dropFirstWaiting at hf
  refine lv_aload_n (i := 0) hx hb dX2_dropFirstWaiting_0 rfl (lv_at hl 0 rfl) ?_
  refine z_getR (tk := 4) fd_206 rfl hx hb hts hown hK hZ (hZ.k 0 rfl rfl) tw_218 dX2_dropFirstWaiting_1 ?_; clear hZ; intro hZ
  refine z_ifnull (tgt := 28) hx hb dX2_dropFirstWaiting_4 (by decide) (fun hn => ?_) (fun a1 ha1 => ?_)
  · replace hf := wd_on_n hn hf
    exact v_X2_dropFirstWaiting_j28 n C hR this w _ _ _ _ _ ⟨hZ.1, hZ.2.1, hZ.2.2.1, hZ.2.2.2.1, (List.forall_mem_cons.mpr ⟨⟨Nat.succ_ne_zero _, (fun q hq => by cases hq; exact (hZ.k 1 rfl rfl))⟩, (fun _ hq => absurd hq List.not_mem_nil)⟩), hZ.2.2.2.2.2⟩ (lv_sub hl [0] rfl) hf
  · replace hf := wd_on_s ha1 hf
    refine lv_aload_n (i := 0) hx hb dX2_dropFirstWaiting_7 rfl (lv_at hl 0 rfl) ?_
    refine lv_aload_n (i := 0) hx hb dX2_dropFirstWaiting_8 rfl (lv_at hl 0 rfl) ?_
    refine z_getR (tk := 4) fd_206 rfl hx hb hts hown hK hZ (hZ.k 1 rfl rfl) tw_218 dX2_dropFirstWaiting_9 ?_; clear hZ; intro hZ
    have hf9 := Option.bind_eq_some_iff.mp hf; clear hf; obtain ⟨a5, ha5, hf⟩ := hf9
    replace hZ := hZ.add (r := some a5) (k := 5) (Nat.succ_ne_zero _) (fun q hq => by cases hq; exact hZ.k 0 rfl ha5)
    rw [ha5]
    refine z_getR (tk := 4) fd_413 rfl hx hb hts hown hK hZ (hZ.k 0 rfl rfl) tw_723 dX2_dropFirstWaiting_12 ?_; clear hZ; intro hZ
    refine z_putR (r := (wd_R w 413 a5)) rfl fd_206 cok_2 (tk := 4) rfl (fun q hq => hZ.k 0 rfl hq) rfl rfl (wd_obO _) hx hb hts hown hK hZ (hZ.k 4 rfl rfl) tw_218 dX2_dropFirstWaiting_15 ?_; clear hZ; intro H locs hZ
    have hf9 := wd_let_e hf; clear hf; obtain ⟨w6, e7, hf⟩ := hf9
    rw [e7] at hZ
    refine lv_aload_n (i := 0) hx hb dX2_dropFirstWaiting_18 rfl (lv_at hl 0 rfl) ?_
    refine lv_dup hx hb dX2_dropFirstWaiting_19 rfl ?_
    refine z_getI fd_201 rfl hx hb hts hown hK hZ (hZ.k 4 rfl rfl) tw_207 dX2_dropFirstWaiting_20 ?_
    refine lv_iconst (v := 1) hx hb dX2_dropFirstWaiting_23 (by decide) ?_
    refine lv_isub hx hb dX2_dropFirstWaiting_24 ?_
    refine z_putI fd_201 cok_2 rfl rfl rfl rfl rfl hx hb hts hown hK hZ (hZ.k 4 rfl rfl) tw_207 dX2_dropFirstWaiting_25 ?_; clear hZ; intro H locs hZ
    have hf9 := wd_let_e hf; clear hf; obtain ⟨w8, e9, hf⟩ := hf9
    rw [e9] at hZ
    exact v_X2_dropFirstWaiting_j28 n C hR this w8 _ _ _ _ _ ⟨hZ.1, hZ.2.1, hZ.2.2.1, hZ.2.2.2.1, (List.forall_mem_cons.mpr ⟨⟨Nat.succ_ne_zero _, (fun q hq => by cases hq; exact (hZ.k 4 rfl rfl))⟩, (fun _ hq => absurd hq List.not_mem_nil)⟩), hZ.2.2.2.2.2⟩ (lv_sub hl [0] rfl) hf

def f_X2_putToWait_j51 (n : Nat) (x0 : Nat) (x1 : Option Nat) (w : Wd) : Option Wd :=
  wd_let (wd_sR w 207 x0 x1) fun w9 =>
  wd_let (wd_sI w9 201 x0 ((wd_I w9 201 x0) + (1 : Int32))) fun w11 =>
  some w11
def f_X2_putToWait_j23 (n : Nat) (x0 : Nat) (x1 : Option Nat) (w : Wd) : Option Wd :=
  Option.bind x1 fun a2 =>
  wd_let (wd_sR w 413 a2 none) fun w3 =>
  wd_on (wd_R w3 207 x0) (
    wd_let (wd_sR w3 206 x0 (some a2)) fun w13 =>
    f_X2_putToWait_j51 n x0 (some a2) w13)
    (fun a5 =>
    Option.bind (wd_R w3 207 x0) fun a6 =>
    wd_let (wd_sR w3 413 a6 (some a2)) fun w7 =>
    f_X2_putToWait_j51 n x0 (some a2) w7)
def f_X2_putToWait (n : Nat) (w : Wd) (this : Nat) (p0 : Option Nat) : Option Wd :=
  if (wd_I w 201 this) < (6 : Int32) then
    f_X2_putToWait_j23 n this p0 w
  else
    Option.bind (f_X2_dropFirstWaiting n w this) fun w15 =>
    wd_let (wd_sI w15 204 this ((wd_I w15 204 this) + (1 : Int32))) fun w17 =>
    f_X2_putToWait_j23 n this p0 w17
set_option maxHeartbeats 4000000 in
set_option maxRecDepth 100000 in
theorem v_X2_putToWait_j51 {p : Program} {l : Launch} {e : Env} {R : Room} {s : State} {m : MethodId} {args : Array Value} {below : List Frame} {meth : Method} {c : Code} {E : wd_E} {w0 : Wd} {w' : Wd} (n : Nat) (C : wd_X p s m args meth c cX2_putToWait RX2 2 none "putToWait" E) (hR : 1 ≤ R.frames ∧ 20 ≤ R.locals) (x0 : Nat) (x1 : Option Nat) (w : Wd) (H : Heap) (locs : List Loc) (cells slots : Nat) (ls : Array Slot) (hZ : wd_Z E w0 R s w H locs cells slots [(some x0, 3), (x1, 5)]) (hl : lv_has ls 2 [(0, .ref x0), (1, va_rf x1)]) (hf : f_X2_putToWait_j51 n x0 x1 w = some w') : W p l e R s m args below meth c H locs cells slots (wd_fin E w0 none w' True R args s below) (F0 m 51 ls []) := by
  obtain ⟨hx, hb, hr, hml, hts, hown, hlocks, hmn, hK⟩ := id C
  unfold f_X2_putToWait_j51 at hf
  refine lv_aload_n (i := 0) hx hb dX2_putToWait_51 rfl (lv_at hl 0 rfl) ?_
  refine z_aload_n (i := 1) hx hb dX2_putToWait_52 rfl (lv_at hl 1 rfl) ?_
  refine z_putR (r := x1) rfl fd_207 cok_2 (tk := 4) rfl (fun q hq => hZ.k 1 rfl hq) rfl rfl (wd_obO _) hx hb hts hown hK hZ (hZ.k 0 rfl rfl) tw_219 dX2_putToWait_53 ?_; clear hZ; intro H locs hZ
  have hf9 := wd_let_e hf; clear hf; obtain ⟨w9, e10, hf⟩ := hf9
  rw [e10] at hZ
  refine lv_aload_n (i := 0) hx hb dX2_putToWait_56 rfl (lv_at hl 0 rfl) ?_
  refine lv_dup hx hb dX2_putToWait_57 rfl ?_
  refine z_getI fd_201 rfl hx hb hts hown hK hZ (hZ.k 0 rfl rfl) tw_207 dX2_putToWait_58 ?_
  refine lv_iconst (v := 1) hx hb dX2_putToWait_61 (by decide) ?_
  refine lv_iadd hx hb dX2_putToWait_62 ?_
  refine z_putI fd_201 cok_2 rfl rfl rfl rfl rfl hx hb hts hown hK hZ (hZ.k 0 rfl rfl) tw_207 dX2_putToWait_63 ?_; clear hZ; intro H locs hZ
  have hf9 := wd_let_e hf; clear hf; obtain ⟨w11, e12, hf⟩ := hf9
  rw [e12] at hZ
  obtain rfl := Option.some.inj hf
  exact z_vret hx hb hr hlocks hZ trivial dX2_putToWait_66

set_option maxHeartbeats 4000000 in
set_option maxRecDepth 100000 in
theorem v_X2_putToWait_j23 {p : Program} {l : Launch} {e : Env} {R : Room} {s : State} {m : MethodId} {args : Array Value} {below : List Frame} {meth : Method} {c : Code} {E : wd_E} {w0 : Wd} {w' : Wd} (n : Nat) (C : wd_X p s m args meth c cX2_putToWait RX2 2 none "putToWait" E) (hR : 1 ≤ R.frames ∧ 20 ≤ R.locals) (x0 : Nat) (x1 : Option Nat) (w : Wd) (H : Heap) (locs : List Loc) (cells slots : Nat) (ls : Array Slot) (hZ : wd_Z E w0 R s w H locs cells slots [(some x0, 3), (x1, 5)]) (hl : lv_has ls 2 [(0, .ref x0), (1, va_rf x1)]) (hf : f_X2_putToWait_j23 n x0 x1 w = some w') : W p l e R s m args below meth c H locs cells slots (wd_fin E w0 none w' True R args s below) (F0 m 23 ls []) := by
  obtain ⟨hx, hb, hr, hml, hts, hown, hlocks, hmn, hK⟩ := id C
  unfold f_X2_putToWait_j23 at hf
  refine z_aload_n (i := 1) hx hb dX2_putToWait_23 rfl (lv_at hl 1 rfl) ?_
  refine z_null hx hb dX2_putToWait_24 ?_
  have hf9 := Option.bind_eq_some_iff.mp hf; clear hf; obtain ⟨a2, ha2, hf⟩ := hf9
  subst ha2
  replace hl : lv_has ls 2 [(0, .ref x0), (1, .ref a2)] := hl
  replace hZ : wd_Z E w0 R s w H locs cells slots [(some x0, 3), (some a2, 5)] := hZ
  refine z_putR (r := none) rfl fd_413 cok_4 (tk := 4) rfl (fun q hq => by cases hq) rfl rfl (wd_obO _) hx hb hts hown hK hZ (hZ.k 1 rfl rfl) tw_723 dX2_putToWait_25 ?_; clear hZ; intro H locs hZ
  have hf9 := wd_let_e hf; clear hf; obtain ⟨w3, e4, hf⟩ := hf9
  rw [e4] at hZ
  refine lv_aload_n (i := 0) hx hb dX2_putToWait_28 rfl (lv_at hl 0 rfl) ?_
  refine z_getR (tk := 4) fd_207 rfl hx hb hts hown hK hZ (hZ.k 0 rfl rfl) tw_219 dX2_putToWait_29 ?_; clear hZ; intro hZ
  refine z_ifnonnull (tgt := 43) hx hb dX2_putToWait_32 (by decide) (fun a5 ha5 => ?_) (fun hn => ?_)
  · replace hf := wd_on_s ha5 hf
    refine lv_aload_n (i := 0) hx hb dX2_putToWait_43 rfl (lv_at hl 0 rfl) ?_
    refine z_getR (tk := 4) fd_207 rfl hx hb hts hown hK hZ (hZ.k 1 rfl rfl) tw_219 dX2_putToWait_44 ?_; clear hZ; intro hZ
    refine lv_aload_n (i := 1) hx hb dX2_putToWait_47 rfl (lv_at hl 1 rfl) ?_
    have hf9 := Option.bind_eq_some_iff.mp hf; clear hf; obtain ⟨a6, ha6, hf⟩ := hf9
    replace hZ := hZ.add (r := some a6) (k := 5) (Nat.succ_ne_zero _) (fun q hq => by cases hq; exact hZ.k 0 rfl ha6)
    rw [ha6]
    refine z_putR (r := (some a2)) rfl fd_413 cok_4 (tk := 4) rfl (fun q hq => by cases hq; exact (hZ.k 4 rfl rfl)) rfl rfl (wd_obO _) hx hb hts hown hK hZ (hZ.k 0 rfl rfl) tw_723 dX2_putToWait_48 ?_; clear hZ; intro H locs hZ
    have hf9 := wd_let_e hf; clear hf; obtain ⟨w7, e8, hf⟩ := hf9
    rw [e8] at hZ
    exact v_X2_putToWait_j51 n C hR x0 (some a2) w7 _ _ _ _ _ ⟨hZ.1, hZ.2.1, hZ.2.2.1, hZ.2.2.2.1, (List.forall_mem_cons.mpr ⟨⟨Nat.succ_ne_zero _, (fun q hq => by cases hq; exact (hZ.k 3 rfl rfl))⟩, (List.forall_mem_cons.mpr ⟨⟨Nat.succ_ne_zero _, (fun q hq => by cases hq; exact (hZ.k 4 rfl rfl))⟩, (fun _ hq => absurd hq List.not_mem_nil)⟩)⟩), hZ.2.2.2.2.2⟩ (lv_sub hl [0, 1] rfl) hf
  · replace hf := wd_on_n hn hf
    refine lv_aload_n (i := 0) hx hb dX2_putToWait_35 rfl (lv_at hl 0 rfl) ?_
    refine lv_aload_n (i := 1) hx hb dX2_putToWait_36 rfl (lv_at hl 1 rfl) ?_
    refine z_putR (r := (some a2)) rfl fd_206 cok_2 (tk := 4) rfl (fun q hq => by cases hq; exact (hZ.k 2 rfl rfl)) rfl rfl (wd_obO _) hx hb hts hown hK hZ (hZ.k 1 rfl rfl) tw_218 dX2_putToWait_37 ?_; clear hZ; intro H locs hZ
    have hf9 := wd_let_e hf; clear hf; obtain ⟨w13, e14, hf⟩ := hf9
    rw [e14] at hZ
    refine lv_goto (tgt := 51) hx hb dX2_putToWait_40 (by decide) ?_
    exact v_X2_putToWait_j51 n C hR x0 (some a2) w13 _ _ _ _ _ ⟨hZ.1, hZ.2.1, hZ.2.2.1, hZ.2.2.2.1, (List.forall_mem_cons.mpr ⟨⟨Nat.succ_ne_zero _, (fun q hq => by cases hq; exact (hZ.k 1 rfl rfl))⟩, (List.forall_mem_cons.mpr ⟨⟨Nat.succ_ne_zero _, (fun q hq => by cases hq; exact (hZ.k 2 rfl rfl))⟩, (fun _ hq => absurd hq List.not_mem_nil)⟩)⟩), hZ.2.2.2.2.2⟩ (lv_sub hl [0, 1] rfl) hf

set_option maxHeartbeats 4000000 in
set_option maxRecDepth 100000 in
theorem c_X2_putToWait (l : Launch) (E : wd_E) (n : Nat) (w : Wd) (this : Nat) (p0 : Option Nat) (w' : Wd) (k_this : wd_K w this = 3) (k_p0 : ∀ q, p0 = some q → wd_K w q = 5) (hf : f_X2_putToWait n w this p0 = some w') : wd_C l E yX2_putToWait cX2_putToWait 2 none 1 20 [.ref this, va_rf p0] w none w' True := by
  refine wd_ofW (own := RX2) (nm := "putToWait") (ks := [(some this, 3), (p0, 5)]) (lv := [(0, .ref this), (1, va_rf p0)]) (by decide) rfl rfl (by simp [lg_sl, va_rf_cat, va_cat_r, va_cat_i, va_cat_l, va_cat_d]) (by simp [lv_args, va_rf_cat, va_cat_r, va_cat_i, va_cat_l, va_cat_d]) (List.forall_mem_cons.mpr ⟨⟨Nat.succ_ne_zero _, fun q hq => by cases hq; exact k_this⟩, (List.forall_mem_cons.mpr ⟨⟨Nat.succ_ne_zero _, k_p0⟩, (fun _ hq => absurd hq List.not_mem_nil)⟩)⟩) ?_
  intro p e s m args below meth c R H locs cells slots ls C hR hZ hl
  obtain ⟨hx, hb, hr, hml, hts, hown, hlocks, hmn, hK⟩ := id C
  unfold f_X2_putToWait at hf
  refine lv_aload_n (i := 0) hx hb dX2_putToWait_0 rfl (lv_at hl 0 rfl) ?_
  refine z_getI fd_201 rfl hx hb hts hown hK hZ (hZ.k 0 rfl rfl) tw_207 dX2_putToWait_1 ?_
  refine lv_bipush (v := 6) hx hb dX2_putToWait_4 (by decide) ?_
  refine lv_icmp_lt (tgt := 23) hx hb dX2_putToWait_6 (by decide) (fun h1 => ?_) (fun h1 => ?_)
  · replace hf := wd_ite_p h1 hf
    exact v_X2_putToWait_j23 n C hR this p0 w _ _ _ _ _ ⟨hZ.1, hZ.2.1, hZ.2.2.1, hZ.2.2.2.1, (List.forall_mem_cons.mpr ⟨⟨Nat.succ_ne_zero _, (fun q hq => by cases hq; exact (hZ.k 0 rfl rfl))⟩, (List.forall_mem_cons.mpr ⟨⟨Nat.succ_ne_zero _, (fun q hq => hZ.k 1 rfl hq)⟩, (fun _ hq => absurd hq List.not_mem_nil)⟩)⟩), hZ.2.2.2.2.2⟩ (lv_sub hl [0, 1] rfl) hf
  · replace hf := wd_ite_n h1 hf
    refine lv_aload_n (i := 0) hx hb dX2_putToWait_9 rfl (lv_at hl 0 rfl) ?_
    have hf9 := Option.bind_eq_some_iff.mp hf; clear hf; obtain ⟨w15, hc16, hf⟩ := hf9
    refine z_callV (ci := 2) (As := []) (rest := []) (c_X2_dropFirstWaiting l E n w this w15 (hZ.k 0 rfl rfl) hc16) mo_X2_dropFirstWaiting rfl (by decide) rfl tw_848 tw_17 tw_846 hx hb hml hts hown hK ⟨Nat.le_trans (by decide) hR.1, Nat.le_trans (by decide) hR.2⟩ hZ (hZ.k 0 rfl rfl) rfl hl.1 rfl (Nat.le_of_ble_eq_true rfl) rfl dX2_putToWait_10 ?_; clear hZ; intro H locs cells slots hX hZ
    refine lv_aload_n (i := 0) hx hb dX2_putToWait_13 rfl (lv_at hl 0 rfl) ?_
    refine lv_dup hx hb dX2_putToWait_14 rfl ?_
    refine z_getI fd_204 rfl hx hb hts hown hK hZ (hZ.k 0 rfl rfl) tw_215 dX2_putToWait_15 ?_
    refine lv_iconst (v := 1) hx hb dX2_putToWait_18 (by decide) ?_
    refine lv_iadd hx hb dX2_putToWait_19 ?_
    refine z_putI fd_204 cok_2 rfl rfl rfl rfl rfl hx hb hts hown hK hZ (hZ.k 0 rfl rfl) tw_215 dX2_putToWait_20 ?_; clear hZ; intro H locs hZ
    have hf9 := wd_let_e hf; clear hf; obtain ⟨w17, e18, hf⟩ := hf9
    rw [e18] at hZ
    exact v_X2_putToWait_j23 n C hR this p0 w17 _ _ _ _ _ ⟨hZ.1, hZ.2.1, hZ.2.2.1, hZ.2.2.2.1, (List.forall_mem_cons.mpr ⟨⟨Nat.succ_ne_zero _, (fun q hq => by cases hq; exact (hZ.k 0 rfl rfl))⟩, (List.forall_mem_cons.mpr ⟨⟨Nat.succ_ne_zero _, (fun q hq => hZ.k 1 rfl hq)⟩, (fun _ hq => absurd hq List.not_mem_nil)⟩)⟩), hZ.2.2.2.2.2⟩ (lv_sub hl [0, 1] rfl) hf

