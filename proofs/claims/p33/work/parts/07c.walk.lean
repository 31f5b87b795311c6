/-! ===== meanings and contracts, laid by wip/p33/gen ===== -/
def f_X2_dropWaitingAndKept (n : Nat) (w : Wd) (this : Nat) : Option Wd :=
  wd_b2 (f_X2_takeWaiting n w this) fun r3 w1 =>
  wd_let (wd_sI w1 202 this (0 : Int32)) fun w4 =>
  some w4
set_option maxHeartbeats 4000000 in
set_option maxRecDepth 100000 in
theorem c_X2_dropWaitingAndKept (l : Launch) (E : wd_E) (n : Nat) (w : Wd) (this : Nat) (w' : Wd) (k_this : wd_K w this = 3) (hf : f_X2_dropWaitingAndKept n w this = some w') : wd_C l E yX2_dropWaitingAndKept cX2_dropWaitingAndKept 1 none 1 21 [.ref this] w none w' True := by
  refine wd_ofW (own := RX2) (nm := "dropWaitingAndKept") (ks := [(some this, 3)]) (lv := [(0, .ref this)]) (by decide) rfl rfl (Nat.le_of_ble_eq_true rfl) rfl (List.forall_mem_cons.mpr ⟨⟨Nat.succ_ne_zero _, fun q hq => by cases hq; exact k_this⟩, (fun _ hq => absurd hq List.not_mem_nil)⟩) ?_
  intro p e s m args below meth c R H locs cells slots ls C hR hZ hl
  obtain ⟨hx, hb, hr, hml, hts, hown, hlocks, hmn, hK⟩ := id C
  unfold f_X2_dropWaitingAndKept at hf
  refine lv_aload_n (i := 0) hx hb dX2_dropWaitingAndKept_0 rfl (lv_at hl 0 rfl) ?_
  have hf9 := wd_b2_e hf; clear hf; obtain ⟨r3, w1, hc2, hf⟩ := hf9
  refine z_callV (ci := 2) (As := []) (rest := []) (c_X2_takeWaiting l E n w this r3 w1 (hZ.k 0 rfl rfl) hc2) mo_X2_takeWaiting rfl (by decide) rfl tw_894 tw_895 tw_1075 hx hb hml hts hown hK ⟨Nat.le_trans (by decide) hR.1, Nat.le_trans (by decide) hR.2⟩ hZ (hZ.k 0 rfl rfl) rfl hl.1 rfl (Nat.le_of_ble_eq_true rfl) rfl dX2_dropWaitingAndKept_1 ?_; clear hZ; intro H locs cells slots hX hZ
  replace hZ := hZ.add (Nat.succ_ne_zero _) hX
  refine lv_pop hx hb dX2_dropWaitingAndKept_4 (va_rf_cat _) ?_
  refine lv_aload_n (i := 0) hx hb dX2_dropWaitingAndKept_5 rfl (lv_at hl 0 rfl) ?_
  refine lv_iconst (v := 0) hx hb dX2_dropWaitingAndKept_6 (by decide) ?_
  refine z_putI fd_202 cok_2 rfl rfl rfl rfl rfl hx hb hts hown hK hZ (hZ.k 1 rfl rfl) tw_210 dX2_dropWaitingAndKept_7 ?_; clear hZ; intro H locs hZ
  have hf9 := wd_let_e hf; clear hf; obtain ⟨w4, e5, hf⟩ := hf9
  rw [e5] at hZ
  obtain rfl := Option.some.inj hf
  exact z_vret hx hb hr hlocks hZ trivial dX2_dropWaitingAndKept_10

def f_X2_learnAllOf (n : Nat) (w : Wd) (this : Nat) (p0 : Option Nat) : Option Wd :=
  Option.bind p0 fun a1 =>
  Option.bind (wd_R w 205 a1) fun a2 =>
  Option.bind (wd_R w 205 this) fun a3 =>
  wd_gd (wd_N w a2 < 256 ∨ wd_N w a3 < 256) <|
  wd_let (wd_sF w a3 (va_cpy (wd_A w a2) (wd_A w a3) 0 0 256)) fun w5 =>
  some w5
set_option maxHeartbeats 4000000 in
set_option maxRecDepth 100000 in
theorem c_X2_learnAllOf (l : Launch) (E : wd_E) (n : Nat) (w : Wd) (this : Nat) (p0 : Option Nat) (w' : Wd) (k_this : wd_K w this = 3) (k_p0 : ∀ q, p0 = some q → wd_K w q = 3) (hf : f_X2_learnAllOf n w this p0 = some w') : wd_C l E yX2_learnAllOf cX2_learnAllOf 2 none 1 60 [.ref this, va_rf p0] w none w' True := by
  refine wd_ofW (own := RX2) (nm := "learnAllOf") (ks := [(some this, 3), (p0, 3)]) (lv := [(0, .ref this), (1, va_rf p0)]) (by decide) rfl rfl (by simp [lg_sl, va_rf_cat, va_cat_r, va_cat_i, va_cat_l, va_cat_d]) (by simp [lv_args, va_rf_cat, va_cat_r, va_cat_i, va_cat_l, va_cat_d]) (List.forall_mem_cons.mpr ⟨⟨Nat.succ_ne_zero _, fun q hq => by cases hq; exact k_this⟩, (List.forall_mem_cons.mpr ⟨⟨Nat.succ_ne_zero _, k_p0⟩, (fun _ hq => absurd hq List.not_mem_nil)⟩)⟩) ?_
  intro p e s m args below meth c R H locs cells slots ls C hR hZ hl
  obtain ⟨hx, hb, hr, hml, hts, hown, hlocks, hmn, hK⟩ := id C
  unfold f_X2_learnAllOf at hf
  refine z_aload_n (i := 1) hx hb dX2_learnAllOf_0 rfl (lv_at hl 1 rfl) ?_
  have hf9 := Option.bind_eq_some_iff.mp hf; clear hf; obtain ⟨a1, ha1, hf⟩ := hf9
  subst ha1
  replace hl : lv_has ls 2 [(0, .ref this), (1, .ref a1)] := hl
  replace hZ : wd_Z E w R s w H locs cells slots [(some this, 3), (some a1, 3)] := hZ
  refine z_getR (tk := 20) fd_205 rfl hx hb hts hown hK hZ (hZ.k 1 rfl rfl) tw_217 dX2_learnAllOf_1 ?_; clear hZ; intro hZ
  refine lv_iconst (v := 0) hx hb dX2_learnAllOf_4 (by decide) ?_
  refine lv_aload_n (i := 0) hx hb dX2_learnAllOf_5 rfl (lv_at hl 0 rfl) ?_
  refine z_getR (tk := 20) fd_205 rfl hx hb hts hown hK hZ (hZ.k 1 rfl rfl) tw_217 dX2_learnAllOf_6 ?_; clear hZ; intro hZ
  refine lv_iconst (v := 0) hx hb dX2_learnAllOf_9 (by decide) ?_
  refine lv_sipush (v := 256) hx hb dX2_learnAllOf_10 (by decide) ?_
  have hf9 := Option.bind_eq_some_iff.mp hf; clear hf; obtain ⟨a2, ha2, hf⟩ := hf9
  replace hZ := hZ.add (r := some a2) (k := 21) (Nat.succ_ne_zero _) (fun q hq => by cases hq; exact hZ.k 1 rfl ha2)
  rw [ha2]
  have hf9 := Option.bind_eq_some_iff.mp hf; clear hf; obtain ⟨a3, ha3, hf⟩ := hf9
  replace hZ := hZ.add (r := some a3) (k := 21) (Nat.succ_ne_zero _) (fun q hq => by cases hq; exact hZ.k 1 rfl ha3)
  rw [ha3]
  have hf9 := wd_gd_e hf; clear hf; obtain ⟨h4, hf⟩ := hf9
  refine z_copy (N := 256) (by decide) (by decide) hx hb (hml.trans hl.1.symm) hown (hts _ tw_1056) (hts _ tw_1058) (hts _ tw_1057) (hts _ tw_47) hK hZ (hZ.k 1 rfl rfl) (hZ.k 0 rfl rfl) h4 (Nat.le_trans (by decide) hR.1) (Nat.le_trans (by decide) hR.2) dX2_learnAllOf_13 ?_; clear hZ; intro H locs hZ
  have hf9 := wd_let_e hf; clear hf; obtain ⟨w5, e6, hf⟩ := hf9
  rw [e6] at hZ
  obtain rfl := Option.some.inj hf
  exact z_vret hx hb hr hlocks hZ trivial dX2_learnAllOf_16

def f_X3_init (n : Nat) (w : Wd) (this : Nat) (p0 : Int32) : Option Wd :=
  wd_gd (wd_M w = 0 ∨ wd_S w < 4) <|
  wd_let (wd_H w) fun a2 =>
  wd_let (wd_nw w 22 4 4) fun w4 =>
  wd_let (wd_sR w4 302 this (some a2)) fun w6 =>
  wd_gd (wd_M w6 = 0 ∨ wd_S w6 < 6) <|
  wd_let (wd_H w6) fun a9 =>
  wd_let (wd_nw w6 21 6 6) fun w11 =>
  wd_let (wd_sR w11 304 this (some a9)) fun w13 =>
  wd_gd (wd_M w13 = 0 ∨ wd_S w13 < 6) <|
  wd_let (wd_H w13) fun a16 =>
  wd_let (wd_nw w13 21 6 6) fun w18 =>
  wd_let (wd_sR w18 305 this (some a16)) fun w20 =>
  wd_gd (wd_M w20 = 0 ∨ wd_S w20 < 6) <|
  wd_let (wd_H w20) fun a23 =>
  wd_let (wd_nw w20 21 6 6) fun w25 =>
  wd_let (wd_sR w25 306 this (some a23)) fun w27 =>
  wd_gd (wd_M w27 = 0 ∨ wd_S w27 < 2) <|
  wd_let (wd_H w27) fun a30 =>
  wd_let (wd_nw w27 21 2 2) fun w32 =>
  wd_let (wd_sR w32 308 this (some a30)) fun w34 =>
  wd_gd (wd_M w34 = 0 ∨ wd_S w34 < 256) <|
  wd_let (wd_H w34) fun a37 =>
  wd_let (wd_nw w34 21 256 256) fun w39 =>
  wd_let (wd_sR w39 310 this (some a37)) fun w41 =>
  wd_gd (wd_M w41 = 0 ∨ wd_S w41 < 256) <|
  wd_let (wd_H w41) fun a44 =>
  wd_let (wd_nw w41 21 256 256) fun w46 =>
  wd_let (wd_sR w46 311 this (some a44)) fun w48 =>
  wd_gd (wd_M w48 = 0 ∨ wd_S w48 < 256) <|
  wd_let (wd_H w48) fun a51 =>
  wd_let (wd_nw w48 21 256 256) fun w53 =>
  wd_let (wd_sR w53 312 this (some a51)) fun w55 =>
  wd_let (wd_sI w55 300 this p0) fun w57 =>
  Option.bind (f_J7_fill_53178 n w57 (wd_R w57 310 this) (-1 : Int32)) fun w59 =>
  Option.bind (f_J7_fill_53178 n w59 (wd_R w59 311 this) (-1 : Int32)) fun w61 =>
  Option.bind (f_J7_fill_53178 n w61 (wd_R w61 312 this) (-1 : Int32)) fun w63 =>
  some w63
set_option maxHeartbeats 4000000 in
set_option maxRecDepth 100000 in
theorem c_X3_init (l : Launch) (E : wd_E) (n : Nat) (w : Wd) (this : Nat) (p0 : Int32) (w' : Wd) (k_this : wd_K w this = 4) (hf : f_X3_init n w this p0 = some w') : wd_C l E yX3_init cX3_init 2 none 1 24 [.ref this, .int p0] w none w' True := by
  refine wd_ofW (own := RX3) (nm := "<init>") (ks := [(some this, 4)]) (lv := [(0, .ref this), (1, .int p0)]) (by decide) rfl rfl (Nat.le_of_ble_eq_true rfl) rfl (List.forall_mem_cons.mpr ⟨⟨Nat.succ_ne_zero _, fun q hq => by cases hq; exact k_this⟩, (fun _ hq => absurd hq List.not_mem_nil)⟩) ?_
  intro p e s m args below meth c R H locs cells slots ls C hR hZ hl
  obtain ⟨hx, hb, hr, hml, hts, hown, hlocks, hmn, hK⟩ := id C
  unfold f_X3_init at hf
  refine lv_aload_n (i := 0) hx hb dX3_init_0 rfl (lv_at hl 0 rfl) ?_
  refine W.objInit hx hb hown (hts _ tw_70) (hts _ tw_54) (hts _ tw_55) rfl (by rw [hml]; exact hl.1) rfl dX3_init_1 (Nat.le_trans (by decide) hR.1) (Nat.le_trans (Nat.le_of_ble_eq_true rfl) hR.2) ?_
  refine W.eq (g2 := F0 m 4 ls []) rfl ?_
  refine lv_aload_n (i := 0) hx hb dX3_init_4 rfl (lv_at hl 0 rfl) ?_
  refine lv_iconst (v := 4) hx hb dX3_init_5 (by decide) ?_
  have hf9 := wd_gd_e hf; clear hf; obtain ⟨h1, hf⟩ := hf9
  refine z_anew (k := 22) (N := 4) (by decide) (by decide) rfl hK.2.2.1.1 hx hb hts hown hK hZ tw_71 (by decide) (by decide) (by decide) h1 dX3_init_6 ?_; clear hZ; intro H cells slots hZ
  have hf9 := wd_let_e hf; clear hf; obtain ⟨a2, e3, hf⟩ := hf9
  rw [e3]
  rw [e3] at hZ
  have hf9 := wd_let_e hf; clear hf; obtain ⟨w4, e5, hf⟩ := hf9
  rw [e5] at hZ
  refine z_putFR (r := (some a2)) rfl hmn rfl fd_302 cok_3 (tk := 21) rfl (fun q hq => by cases hq; exact (hZ.k 0 rfl rfl)) rfl rfl (wd_obA _) hx hb hts hown hK hZ (hZ.k 1 rfl rfl) tw_79 dX3_init_9 ?_; clear hZ; intro H locs hZ
  have hf9 := wd_let_e hf; clear hf; obtain ⟨w6, e7, hf⟩ := hf9
  rw [e7] at hZ
  refine lv_aload_n (i := 0) hx hb dX3_init_12 rfl (lv_at hl 0 rfl) ?_
  refine lv_bipush (v := 6) hx hb dX3_init_13 (by decide) ?_
  have hf9 := wd_gd_e hf; clear hf; obtain ⟨h8, hf⟩ := hf9
  refine z_newa (N := 6) hx hb hts hK hZ tw_117 (by decide) (by decide) (by decide) h8 dX3_init_15 ?_; clear hZ; intro H cells slots hZ
  have hf9 := wd_let_e hf; clear hf; obtain ⟨a9, e10, hf⟩ := hf9
  rw [e10]
  rw [e10] at hZ
  have hf9 := wd_let_e hf; clear hf; obtain ⟨w11, e12, hf⟩ := hf9
  rw [e12] at hZ
  refine z_putFR (r := (some a9)) rfl hmn rfl fd_304 cok_3 (tk := 20) rfl (fun q hq => by cases hq; exact (hZ.k 0 rfl rfl)) rfl rfl (wd_obA _) hx hb hts hown hK hZ (hZ.k 2 rfl rfl) tw_81 dX3_init_17 ?_; clear hZ; intro H locs hZ
  have hf9 := wd_let_e hf; clear hf; obtain ⟨w13, e14, hf⟩ := hf9
  rw [e14] at hZ
  refine lv_aload_n (i := 0) hx hb dX3_init_20 rfl (lv_at hl 0 rfl) ?_
  refine lv_bipush (v := 6) hx hb dX3_init_21 (by decide) ?_
  have hf9 := wd_gd_e hf; clear hf; obtain ⟨h15, hf⟩ := hf9
  refine z_newa (N := 6) hx hb hts hK hZ tw_117 (by decide) (by decide) (by decide) h15 dX3_init_23 ?_; clear hZ; intro H cells slots hZ
  have hf9 := wd_let_e hf; clear hf; obtain ⟨a16, e17, hf⟩ := hf9
  rw [e17]
  rw [e17] at hZ
  have hf9 := wd_let_e hf; clear hf; obtain ⟨w18, e19, hf⟩ := hf9
  rw [e19] at hZ
  refine z_putFR (r := (some a16)) rfl hmn rfl fd_305 cok_3 (tk := 20) rfl (fun q hq => by cases hq; exact (hZ.k 0 rfl rfl)) rfl rfl (wd_obA _) hx hb hts hown hK hZ (hZ.k 3 rfl rfl) tw_82 dX3_init_25 ?_; clear hZ; intro H locs hZ
  have hf9 := wd_let_e hf; clear hf; obtain ⟨w20, e21, hf⟩ := hf9
  rw [e21] at hZ
  refine lv_aload_n (i := 0) hx hb dX3_init_28 rfl (lv_at hl 0 rfl) ?_
  refine lv_bipush (v := 6) hx hb dX3_init_29 (by decide) ?_
  have hf9 := wd_gd_e hf; clear hf; obtain ⟨h22, hf⟩ := hf9
  refine z_newa (N := 6) hx hb hts hK hZ tw_117 (by decide) (by decide) (by decide) h22 dX3_init_31 ?_; clear hZ; intro H cells slots hZ
  have hf9 := wd_let_e hf; clear hf; obtain ⟨a23, e24, hf⟩ := hf9
  rw [e24]
  rw [e24] at hZ
  have hf9 := wd_let_e hf; clear hf; obtain ⟨w25, e26, hf⟩ := hf9
  rw [e26] at hZ
  refine z_putFR (r := (some a23)) rfl hmn rfl fd_306 cok_3 (tk := 20) rfl (fun q hq => by cases hq; exact (hZ.k 0 rfl rfl)) rfl rfl (wd_obA _) hx hb hts hown hK hZ (hZ.k 4 rfl rfl) tw_83 dX3_init_33 ?_; clear hZ; intro H locs hZ
  have hf9 := wd_let_e hf; clear hf; obtain ⟨w27, e28, hf⟩ := hf9
  rw [e28] at hZ
  refine lv_aload_n (i := 0) hx hb dX3_init_36 rfl (lv_at hl 0 rfl) ?_
  refine lv_iconst (v := 2) hx hb dX3_init_37 (by decide) ?_
  have hf9 := wd_gd_e hf; clear hf; obtain ⟨h29, hf⟩ := hf9
  refine z_newa (N := 2) hx hb hts hK hZ tw_117 (by decide) (by decide) (by decide) h29 dX3_init_38 ?_; clear hZ; intro H cells slots hZ
  have hf9 := wd_let_e hf; clear hf; obtain ⟨a30, e31, hf⟩ := hf9
  rw [e31]
  rw [e31] at hZ
  have hf9 := wd_let_e hf; clear hf; obtain ⟨w32, e33, hf⟩ := hf9
  rw [e33] at hZ
  refine z_putFR (r := (some a30)) rfl hmn rfl fd_308 cok_3 (tk := 20) rfl (fun q hq => by cases hq; exact (hZ.k 0 rfl rfl)) rfl rfl (wd_obA _) hx hb hts hown hK hZ (hZ.k 5 rfl rfl) tw_85 dX3_init_40 ?_; clear hZ; intro H locs hZ
  have hf9 := wd_let_e hf; clear hf; obtain ⟨w34, e35, hf⟩ := hf9
  rw [e35] at hZ
  refine lv_aload_n (i := 0) hx hb dX3_init_43 rfl (lv_at hl 0 rfl) ?_
  refine lv_sipush (v := 256) hx hb dX3_init_44 (by decide) ?_
  have hf9 := wd_gd_e hf; clear hf; obtain ⟨h36, hf⟩ := hf9
  refine z_newa (N := 256) hx hb hts hK hZ tw_117 (by decide) (by decide) (by decide) h36 dX3_init_47 ?_; clear hZ; intro H cells slots hZ
  have hf9 := wd_let_e hf; clear hf; obtain ⟨a37, e38, hf⟩ := hf9
  rw [e38]
  rw [e38] at hZ
  have hf9 := wd_let_e hf; clear hf; obtain ⟨w39, e40, hf⟩ := hf9
  rw [e40] at hZ
  refine z_putFR (r := (some a37)) rfl hmn rfl fd_310 cok_3 (tk := 20) rfl (fun q hq => by cases hq; exact (hZ.k 0 rfl rfl)) rfl rfl (wd_obA _) hx hb hts hown hK hZ (hZ.k 6 rfl rfl) tw_87 dX3_init_49 ?_; clear hZ; intro H locs hZ
  have hf9 := wd_let_e hf; clear hf; obtain ⟨w41, e42, hf⟩ := hf9
  rw [e42] at hZ
  refine lv_aload_n (i := 0) hx hb dX3_init_52 rfl (lv_at hl 0 rfl) ?_
  refine lv_sipush (v := 256) hx hb dX3_init_53 (by decide) ?_
  have hf9 := wd_gd_e hf; clear hf; obtain ⟨h43, hf⟩ := hf9
  refine z_newa (N := 256) hx hb hts hK hZ tw_117 (by decide) (by decide) (by decide) h43 dX3_init_56 ?_; clear hZ; intro H cells slots hZ
  have hf9 := wd_let_e hf; clear hf; obtain ⟨a44, e45, hf⟩ := hf9
  rw [e45]
  rw [e45] at hZ
  have hf9 := wd_let_e hf; clear hf; obtain ⟨w46, e47, hf⟩ := hf9
  rw [e47] at hZ
  refine z_putFR (r := (some a44)) rfl hmn rfl fd_311 cok_3 (tk := 20) rfl (fun q hq => by cases hq; exact (hZ.k 0 rfl rfl)) rfl rfl (wd_obA _) hx hb hts hown hK hZ (hZ.k 7 rfl rfl) tw_88 dX3_init_58 ?_; clear hZ; intro H locs hZ
  have hf9 := wd_let_e hf; clear hf; obtain ⟨w48, e49, hf⟩ := hf9
  rw [e49] at hZ
  refine lv_aload_n (i := 0) hx hb dX3_init_61 rfl (lv_at hl 0 rfl) ?_
  refine lv_sipush (v := 256) hx hb dX3_init_62 (by decide) ?_
  have hf9 := wd_gd_e hf; clear hf; obtain ⟨h50, hf⟩ := hf9
  refine z_newa (N := 256) hx hb hts hK hZ tw_117 (by decide) (by decide) (by decide) h50 dX3_init_65 ?_; clear hZ; intro H cells slots hZ
  have hf9 := wd_let_e hf; clear hf; obtain ⟨a51, e52, hf⟩ := hf9
  rw [e52]
  rw [e52] at hZ
  have hf9 := wd_let_e hf; clear hf; obtain ⟨w53, e54, hf⟩ := hf9
  rw [e54] at hZ
  refine z_putFR (r := (some a51)) rfl hmn rfl fd_312 cok_3 (tk := 20) rfl (fun q hq => by cases hq; exact (hZ.k 0 rfl rfl)) rfl rfl (wd_obA _) hx hb hts hown hK hZ (hZ.k 8 rfl rfl) tw_89 dX3_init_67 ?_; clear hZ; intro H locs hZ
  have hf9 := wd_let_e hf; clear hf; obtain ⟨w55, e56, hf⟩ := hf9
  rw [e56] at hZ
  refine lv_aload_n (i := 0) hx hb dX3_init_70 rfl (lv_at hl 0 rfl) ?_
  refine lv_iload_n (i := 1) hx hb dX3_init_71 rfl (lv_at hl 1 rfl) ?_
  refine z_putFI hmn rfl fd_300 cok_3 rfl rfl rfl rfl rfl hx hb hts hown hK hZ (hZ.k 8 rfl rfl) tw_75 dX3_init_72 ?_; clear hZ; intro H locs hZ
  have hf9 := wd_let_e hf; clear hf; obtain ⟨w57, e58, hf⟩ := hf9
  rw [e58] at hZ
  refine lv_aload_n (i := 0) hx hb dX3_init_75 rfl (lv_at hl 0 rfl) ?_
  refine z_getR (tk := 20) fd_310 rfl hx hb hts hown hK hZ (hZ.k 8 rfl rfl) tw_87 dX3_init_76 ?_; clear hZ; intro hZ
  refine lv_iconst (v := -1) hx hb dX3_init_79 (by decide) ?_
  have hf9 := Option.bind_eq_some_iff.mp hf; clear hf; obtain ⟨w59, hc60, hf⟩ := hf9
  refine z_callS (As := [va_rf (wd_R w57 310 this), .int (-1 : Int32)]) (rest := []) (c_J7_fill_53178 l E n w57 (wd_R w57 310 this) (-1 : Int32) w59 (fun q hq => hZ.k 0 rfl hq) hc60) mo_J7_fill_53178 tw_73 tw_72 hx hb hml hts hown hK ⟨Nat.le_trans (by decide) hR.1, Nat.le_trans (by decide) hR.2⟩ hZ rfl hl.1 rfl (Nat.le_of_ble_eq_true rfl) rfl dX3_init_80 ?_; clear hZ; intro H locs cells slots hX hZ
  refine lv_aload_n (i := 0) hx hb dX3_init_83 rfl (lv_at hl 0 rfl) ?_
  refine z_getR (tk := 20) fd_311 rfl hx hb hts hown hK hZ (hZ.k 9 rfl rfl) tw_88 dX3_init_84 ?_; clear hZ; intro hZ
  refine lv_iconst (v := -1) hx hb dX3_init_87 (by decide) ?_
  have hf9 := Option.bind_eq_some_iff.mp hf; clear hf; obtain ⟨w61, hc62, hf⟩ := hf9
  refine z_callS (As := [va_rf (wd_R w59 311 this), .int (-1 : Int32)]) (rest := []) (c_J7_fill_53178 l E n w59 (wd_R w59 311 this) (-1 : Int32) w61 (fun q hq => hZ.k 0 rfl hq) hc62) mo_J7_fill_53178 tw_73 tw_72 hx hb hml hts hown hK ⟨Nat.le_trans (by decide) hR.1, Nat.le_trans (by decide) hR.2⟩ hZ rfl hl.1 rfl (Nat.le_of_ble_eq_true rfl) rfl dX3_init_88 ?_; clear hZ; intro H locs cells slots hX hZ
  refine lv_aload_n (i := 0) hx hb dX3_init_91 rfl (lv_at hl 0 rfl) ?_
  refine z_getR (tk := 20) fd_312 rfl hx hb hts hown hK hZ (hZ.k 10 rfl rfl) tw_89 dX3_init_92 ?_; clear hZ; intro hZ
  refine lv_iconst (v := -1) hx hb dX3_init_95 (by decide) ?_
  have hf9 := Option.bind_eq_some_iff.mp hf; clear hf; obtain ⟨w63, hc64, hf⟩ := hf9
  refine z_callS (As := [va_rf (wd_R w61 312 this), .int (-1 : Int32)]) (rest := []) (c_J7_fill_53178 l E n w61 (wd_R w61 312 this) (-1 : Int32) w63 (fun q hq => hZ.k 0 rfl hq) hc64) mo_J7_fill_53178 tw_73 tw_72 hx hb hml hts hown hK ⟨Nat.le_trans (by decide) hR.1, Nat.le_trans (by decide) hR.2⟩ hZ rfl hl.1 rfl (Nat.le_of_ble_eq_true rfl) rfl dX3_init_96 ?_; clear hZ; intro H locs cells slots hX hZ
  obtain rfl := Option.some.inj hf
  exact z_vret hx hb hr hlocks hZ trivial dX3_init_99

def f_X7_init (n : Nat) (w : Wd) (this : Nat) (p0 : Int32) (p1 : Int32) (p2 : Int32) (p3 : Int32) : Option Wd :=
  wd_let (wd_sI w 700 this p0) fun w1 =>
  wd_let (wd_sI w1 701 this p1) fun w3 =>
  wd_let (wd_sI w3 702 this p2) fun w5 =>
  wd_let (wd_sI w5 703 this p3) fun w7 =>
  some w7
set_option maxHeartbeats 4000000 in
set_option maxRecDepth 100000 in
theorem c_X7_init (l : Launch) (E : wd_E) (n : Nat) (w : Wd) (this : Nat) (p0 : Int32) (p1 : Int32) (p2 : Int32) (p3 : Int32) (w' : Wd) (k_this : wd_K w this = 8) (hf : f_X7_init n w this p0 p1 p2 p3 = some w') : wd_C l E yX7_init cX7_init 5 none 1 24 [.ref this, .int p0, .int p1, .int p2, .int p3] w none w' True := by
  refine wd_ofW (own := RX7) (nm := "<init>") (ks := [(some this, 8)]) (lv := [(0, .ref this), (1, .int p0), (2, .int p1), (3, .int p2), (4, .int p3)]) (by decide) rfl rfl (Nat.le_of_ble_eq_true rfl) rfl (List.forall_mem_cons.mpr ⟨⟨Nat.succ_ne_zero _, fun q hq => by cases hq; exact k_this⟩, (fun _ hq => absurd hq List.not_mem_nil)⟩) ?_
  intro p e s m args below meth c R H locs cells slots ls C hR hZ hl
  obtain ⟨hx, hb, hr, hml, hts, hown, hlocks, hmn, hK⟩ := id C
  unfold f_X7_init at hf
  refine lv_aload_n (i := 0) hx hb dX7_init_0 rfl (lv_at hl 0 rfl) ?_
  refine W.objInit hx hb hown (hts _ tw_558) (hts _ tw_54) (hts _ tw_55) rfl (by rw [hml]; exact hl.1) rfl dX7_init_1 (Nat.le_trans (by decide) hR.1) (Nat.le_trans (Nat.le_of_ble_eq_true rfl) hR.2) ?_
  refine W.eq (g2 := F0 m 4 ls []) rfl ?_
  refine lv_aload_n (i := 0) hx hb dX7_init_4 rfl (lv_at hl 0 rfl) ?_
  refine lv_iload_n (i := 1) hx hb dX7_init_5 rfl (lv_at hl 1 rfl) ?_
  refine z_putFI hmn rfl fd_700 cok_7 rfl rfl rfl rfl rfl hx hb hts hown hK hZ (hZ.k 0 rfl rfl) tw_559 dX7_init_6 ?_; clear hZ; intro H locs hZ
  have hf9 := wd_let_e hf; clear hf; obtain ⟨w1, e2, hf⟩ := hf9
  rw [e2] at hZ
  refine lv_aload_n (i := 0) hx hb dX7_init_9 rfl (lv_at hl 0 rfl) ?_
  refine lv_iload_n (i := 2) hx hb dX7_init_10 rfl (lv_at hl 2 rfl) ?_
  refine z_putFI hmn rfl fd_701 cok_7 rfl rfl rfl rfl rfl hx hb hts hown hK hZ (hZ.k 0 rfl rfl) tw_563 dX7_init_11 ?_; clear hZ; intro H locs hZ
  have hf9 := wd_let_e hf; clear hf; obtain ⟨w3, e4, hf⟩ := hf9
  rw [e4] at hZ
  refine lv_aload_n (i := 0) hx hb dX7_init_14 rfl (lv_at hl 0 rfl) ?_
  refine lv_iload_n (i := 3) hx hb dX7_init_15 rfl (lv_at hl 3 rfl) ?_
  refine z_putFI hmn rfl fd_702 cok_7 rfl rfl rfl rfl rfl hx hb hts hown hK hZ (hZ.k 0 rfl rfl) tw_566 dX7_init_16 ?_; clear hZ; intro H locs hZ
  have hf9 := wd_let_e hf; clear hf; obtain ⟨w5, e6, hf⟩ := hf9
  rw [e6] at hZ
  refine lv_aload_n (i := 0) hx hb dX7_init_19 rfl (lv_at hl 0 rfl) ?_
  refine lv_iload hx hb dX7_init_20 (lv_at hl 4 rfl) ?_
  refine z_putFI hmn rfl fd_703 cok_7 rfl rfl rfl rfl rfl hx hb hts hown hK hZ (hZ.k 0 rfl rfl) tw_570 dX7_init_22 ?_; clear hZ; intro H locs hZ
  have hf9 := wd_let_e hf; clear hf; obtain ⟨w7, e8, hf⟩ := hf9
  rw [e8] at hZ
  obtain rfl := Option.some.inj hf
  exact z_vret hx hb hr hlocks hZ trivial dX7_init_25

def f_X3_netHas (n : Nat) (w : Wd) (p0 : Int32) (p1 : Int32) (p2 : Int32) : Option (Int32 × Wd) :=
  if ((p0 ^^^ p2) >>> (((8 : Int32) - p1) &&& 31)) = 0 then
    some ((1 : Int32), w)
  else
    some ((0 : Int32), w)
set_option maxHeartbeats 4000000 in
set_option maxRecDepth 100000 in
theorem c_X3_netHas (l : Launch) (E : wd_E) (n : Nat) (w : Wd) (p0 : Int32) (p1 : Int32) (p2 : Int32) (r' : Int32) (w' : Wd)  (hf : f_X3_netHas n w p0 p1 p2 = some (r', w')) : wd_C l E yX3_netHas cX3_netHas 3 (some .boolean) 0 0 [.int p0, .int p1, .int p2] w (some (.int r')) w' True := by
  refine wd_ofW (own := RX3) (nm := "netHas") (ks := []) (lv := [(0, .int p0), (1, .int p1), (2, .int p2)]) (by decide) rfl rfl (Nat.le_of_ble_eq_true rfl) rfl (fun _ hq => absurd hq List.not_mem_nil) ?_
  intro p e s m args below meth c R H locs cells slots ls C hR hZ hl
  obtain ⟨hx, hb, hr, hml, hts, hown, hlocks, hmn, hK⟩ := id C
  unfold f_X3_netHas at hf
  refine lv_iload_n (i := 0) hx hb dX3_netHas_0 rfl (lv_at hl 0 rfl) ?_
  refine lv_iload_n (i := 2) hx hb dX3_netHas_1 rfl (lv_at hl 2 rfl) ?_
  refine lv_ixor hx hb dX3_netHas_2 ?_
  refine lv_bipush (v := 8) hx hb dX3_netHas_3 (by decide) ?_
  refine lv_iload_n (i := 1) hx hb dX3_netHas_5 rfl (lv_at hl 1 rfl) ?_
  refine lv_isub hx hb dX3_netHas_6 ?_
  refine lv_ishr hx hb dX3_netHas_7 ?_
  refine lv_if_ne (tgt := 15) hx hb dX3_netHas_8 (by decide) (fun h1 => ?_) (fun h1 => ?_)
  · replace hf := wd_ite_n h1 hf
    refine lv_iconst (v := 0) hx hb dX3_netHas_15 (by decide) ?_
    obtain ⟨rfl, rfl⟩ := Prod.mk.inj (Option.some.inj hf)
    exact z_zret (by decide) hx hb hr hlocks hZ trivial dX3_netHas_16
  · replace hf := wd_ite_p h1 hf
    refine lv_iconst (v := 1) hx hb dX3_netHas_11 (by decide) ?_
    refine lv_goto (tgt := 16) hx hb dX3_netHas_12 (by decide) ?_
    obtain ⟨rfl, rfl⟩ := Prod.mk.inj (Option.some.inj hf)
    exact z_zret (by decide) hx hb hr hlocks hZ trivial dX3_netHas_16

def f_X3_portWithNetOf_j62 (n : Nat) (rec7 : Nat → Int32 → Int32 → Int32 → Int32 → Wd → Option (Int32 × Wd)) (x0 : Nat) (x1 : Int32) (x2 : Int32) (x3 : Int32) (x4 : Int32) (w : Wd) : Option (Int32 × Wd) :=
  wd_let (x4 + 1) fun v7 =>
  rec7 x0 x1 x2 x3 v7 w
def f_X3_portWithNetOf_l7 (n : Nat) (rec7 : Nat → Int32 → Int32 → Int32 → Int32 → Wd → Option (Int32 × Wd)) (x0 : Nat) (x1 : Int32) (x2 : Int32) (x3 : Int32) (x4 : Int32) (w : Wd) : Option (Int32 × Wd) :=
  if (4 : Int32) ≤ x4 then
    some (x2, w)
  else
    Option.bind (wd_R w 302 x0) fun a2 =>
    wd_gd (x4 < 0 ∨ wd_N w a2 ≤ x4.toNatClampNeg) <|
    wd_let (wd_Q w a2 x4.toNatClampNeg) fun v4 =>
    wd_on v4 (
      f_X3_portWithNetOf_j62 n rec7 x0 x1 x2 x3 x4 w)
      (fun a6 =>
      if (wd_I w 703 a6) ≤ x3 then
        f_X3_portWithNetOf_j62 n rec7 x0 x1 x2 x3 x4 w
      else
        wd_b2 (f_X3_netHas n w (wd_I w 702 a6) (wd_I w 703 a6) x1) fun r12 w10 =>
        if r12 = 0 then
          f_X3_portWithNetOf_j62 n rec7 x0 x1 x2 x3 x4 w10
        else
          wd_let (wd_I w10 703 a6) fun v14 =>
          f_X3_portWithNetOf_j62 n rec7 x0 x1 x4 v14 x4 w10)
def f_X3_portWithNetOf (n : Nat) (w : Wd) (this : Nat) (p0 : Int32) : Option (Int32 × Wd) :=
  wd_lp6 (f_X3_portWithNetOf_l7 n) n this p0 (-1 : Int32) (-1 : Int32) (0 : Int32) w
set_option maxHeartbeats 4000000 in
set_option maxRecDepth 100000 in
theorem v_X3_portWithNetOf_j62 {p : Program} {l : Launch} {e : Env} {R : Room} {s : State} {m : MethodId} {args : Array Value} {below : List Frame} {meth : Method} {c : Code} {E : wd_E} {w0 : Wd} {r' : Int32} {w' : Wd} (n : Nat) (C : wd_X p s m args meth c cX3_portWithNetOf RX3 6 (some .int) "portWithNetOf" E) (hR : 1 ≤ R.frames ∧ 22 ≤ R.locals) (rec7 : Nat → Int32 → Int32 → Int32 → Int32 → Wd → Option (Int32 × Wd)) (hrec7 : ∀ (x0_ : Nat) (x1_ : Int32) (x2_ : Int32) (x3_ : Int32) (x4_ : Int32) (w_ : Wd) (H : Heap) (locs : List Loc) (cells slots : Nat) (ls : Array Slot), wd_Z E w0 R s w_ H locs cells slots [(some x0_, 4)] → lv_has ls 6 [(0, .ref x0_), (1, .int x1_), (2, .int x2_), (3, .int x3_), (4, .int x4_)] → rec7 x0_ x1_ x2_ x3_ x4_ w_ = some (r', w') → W p l e R s m args below meth c H locs cells slots (wd_fin E w0 (some (.int r')) w' True R args s below) (F0 m 7 ls [])) (x0 : Nat) (x1 : Int32) (x2 : Int32) (x3 : Int32) (x4 : Int32) (w : Wd) (H : Heap) (locs : List Loc) (cells slots : Nat) (ls : Array Slot) (hZ : wd_Z E w0 R s w H locs cells slots [(some x0, 4)]) (hl : lv_has ls 6 [(0, .ref x0), (1, .int x1), (2, .int x2), (3, .int x3), (4, .int x4)]) (hf : f_X3_portWithNetOf_j62 n rec7 x0 x1 x2 x3 x4 w = some (r', w')) : W p l e R s m args below meth c H locs cells slots (wd_fin E w0 (some (.int r')) w' True R args s below) (F0 m 62 ls []) := by
  obtain ⟨hx, hb, hr, hml, hts, hown, hlocks, hmn, hK⟩ := id C
  unfold f_X3_portWithNetOf_j62 at hf
  have hf9 := wd_let_e hf; clear hf; obtain ⟨v7, e8, hf⟩ := hf9
  refine lv_iinc (k := 4) (v := v7) (lv' := [(4, .int v7), (0, .ref x0), (1, .int x1), (2, .int x2), (3, .int x3)]) hx hb dX3_portWithNetOf_62 hl rfl (by rw [← e8]; rfl) (by decide) rfl ?_; clear hl; intro ls hl
  refine lv_goto (tgt := 7) hx hb dX3_portWithNetOf_65 (by decide) ?_
  exact hrec7 x0 x1 x2 x3 v7 w _ _ _ _ _ ⟨hZ.1, hZ.2.1, hZ.2.2.1, hZ.2.2.2.1, (List.forall_mem_cons.mpr ⟨⟨Nat.succ_ne_zero _, (fun q hq => by cases hq; exact (hZ.k 0 rfl rfl))⟩, (fun _ hq => absurd hq List.not_mem_nil)⟩), hZ.2.2.2.2.2⟩ (lv_sub hl [1, 2, 3, 4, 0] rfl) hf

set_option maxHeartbeats 4000000 in
set_option maxRecDepth 100000 in
theorem v_X3_portWithNetOf_b7 {p : Program} {l : Launch} {e : Env} {R : Room} {s : State} {m : MethodId} {args : Array Value} {below : List Frame} {meth : Method} {c : Code} {E : wd_E} {w0 : Wd} {r' : Int32} {w' : Wd} (n : Nat) (C : wd_X p s m args meth c cX3_portWithNetOf RX3 6 (some .int) "portWithNetOf" E) (hR : 1 ≤ R.frames ∧ 22 ≤ R.locals) (rec7 : Nat → Int32 → Int32 → Int32 → Int32 → Wd → Option (Int32 × Wd)) (hrec7 : ∀ (x0_ : Nat) (x1_ : Int32) (x2_ : Int32) (x3_ : Int32) (x4_ : Int32) (w_ : Wd) (H : Heap) (locs : List Loc) (cells slots : Nat) (ls : Array Slot), wd_Z E w0 R s w_ H locs cells slots [(some x0_, 4)] → lv_has ls 6 [(0, .ref x0_), (1, .int x1_), (2, .int x2_), (3, .int x3_), (4, .int x4_)] → rec7 x0_ x1_ x2_ x3_ x4_ w_ = some (r', w') → W p l e R s m args below meth c H locs cells slots (wd_fin E w0 (some (.int r')) w' True R args s below) (F0 m 7 ls [])) (x0 : Nat) (x1 : Int32) (x2 : Int32) (x3 : Int32) (x4 : Int32) (w : Wd) (H : Heap) (locs : List Loc) (cells slots : Nat) (ls : Array Slot) (hZ : wd_Z E w0 R s w H locs cells slots [(some x0, 4)]) (hl : lv_has ls 6 [(0, .ref x0), (1, .int x1), (2, .int x2), (3, .int x3), (4, .int x4)]) (hf : f_X3_portWithNetOf_l7 n rec7 x0 x1 x2 x3 x4 w = some (r', w')) : W p l e R s m args below meth c H locs cells slots (wd_fin E w0 (some (.int r')) w' True R args s below) (F0 m 7 ls []) := by
  obtain ⟨hx, hb, hr, hml, hts, hown, hlocks, hmn, hK⟩ := id C
  unfold f_X3_portWithNetOf_l7 at hf
  refine lv_iload hx hb dX3_portWithNetOf_7 (lv_at hl 4 rfl) ?_
  refine lv_iconst (v := 4) hx hb dX3_portWithNetOf_9 (by decide) ?_
  refine lv_icmp_ge (tgt := 68) hx hb dX3_portWithNetOf_10 (by decide) (fun h1 => ?_) (fun h1 => ?_)
  · replace hf := wd_ite_p h1 hf
    refine lv_iload_n (i := 2) hx hb dX3_portWithNetOf_68 rfl (lv_at hl 2 rfl) ?_
    obtain ⟨rfl, rfl⟩ := Prod.mk.inj (Option.some.inj hf)
    exact z_iret hx hb hr hlocks hZ trivial dX3_portWithNetOf_69
  · replace hf := wd_ite_n h1 hf
    refine lv_aload_n (i := 0) hx hb dX3_portWithNetOf_13 rfl (lv_at hl 0 rfl) ?_
    refine z_getR (tk := 21) fd_302 rfl hx hb hts hown hK hZ (hZ.k 0 rfl rfl) tw_79 dX3_portWithNetOf_14 ?_; clear hZ; intro hZ
    refine lv_iload hx hb dX3_portWithNetOf_17 (lv_at hl 4 rfl) ?_
    have hf9 := Option.bind_eq_some_iff.mp hf; clear hf; obtain ⟨a2, ha2, hf⟩ := hf9
    replace hZ := hZ.add (r := some a2) (k := 22) (Nat.succ_ne_zero _) (fun q hq => by cases hq; exact hZ.k 0 rfl ha2)
    rw [ha2]
    have hf9 := wd_gd_e hf; clear hf; obtain ⟨h3, hf⟩ := hf9
    refine z_aald (k := 22) (by decide) (by decide) (tk := 7) rfl hx hb hK hZ (hZ.k 0 rfl rfl) h3 dX3_portWithNetOf_19 ?_; clear hZ; intro hZ
    have hf9 := wd_let_e hf; clear hf; obtain ⟨v4, e5, hf⟩ := hf9
    rw [e5]
    rw [e5] at hZ
    refine z_astore (i := 5) (lv' := [(5, va_rf v4), (0, .ref x0), (1, .int x1), (2, .int x2), (3, .int x3), (4, .int x4)]) hx hb dX3_portWithNetOf_20 hl (by decide) rfl ?_; clear hl; intro ls hl
    refine z_aload hx hb dX3_portWithNetOf_22 (lv_at hl 0 rfl) ?_
    refine z_ifnull (tgt := 62) hx hb dX3_portWithNetOf_24 (by decide) (fun hn => ?_) (fun a6 ha6 => ?_)
    · replace hf := wd_on_n hn hf
      subst hn
      replace hl : lv_has ls 6 [(5, va_rf none), (0, .ref x0), (1, .int x1), (2, .int x2), (3, .int x3), (4, .int x4)] := hl
      replace hZ : wd_Z E w0 R s w H locs cells slots [(none, 8), (some a2, 22), ((wd_R w 302 x0), 22), (some x0, 4)] := hZ
      exact v_X3_portWithNetOf_j62 n C hR rec7 hrec7 x0 x1 x2 x3 x4 w _ _ _ _ _ ⟨hZ.1, hZ.2.1, hZ.2.2.1, hZ.2.2.2.1, (List.forall_mem_cons.mpr ⟨⟨Nat.succ_ne_zero _, (fun q hq => by cases hq; exact (hZ.k 3 rfl rfl))⟩, (fun _ hq => absurd hq List.not_mem_nil)⟩), hZ.2.2.2.2.2⟩ (lv_sub hl [1, 2, 3, 4, 5] rfl) hf
    · replace hf := wd_on_s ha6 hf
      subst ha6
      replace hl : lv_has ls 6 [(5, .ref a6), (0, .ref x0), (1, .int x1), (2, .int x2), (3, .int x3), (4, .int x4)] := hl
      replace hZ : wd_Z E w0 R s w H locs cells slots [(some a6, 8), (some a2, 22), ((wd_R w 302 x0), 22), (some x0, 4)] := hZ
      refine lv_aload hx hb dX3_portWithNetOf_27 (lv_at hl 0 rfl) ?_
      refine z_getI fd_703 rfl hx hb hts hown hK hZ (hZ.k 0 rfl rfl) tw_571 dX3_portWithNetOf_29 ?_
      refine lv_iload_n (i := 3) hx hb dX3_portWithNetOf_32 rfl (lv_at hl 4 rfl) ?_
      refine lv_icmp_le (tgt := 62) hx hb dX3_portWithNetOf_33 (by decide) (fun h9 => ?_) (fun h9 => ?_)
      · replace hf := wd_ite_p h9 hf
        exact v_X3_portWithNetOf_j62 n C hR rec7 hrec7 x0 x1 x2 x3 x4 w _ _ _ _ _ ⟨hZ.1, hZ.2.1, hZ.2.2.1, hZ.2.2.2.1, (List.forall_mem_cons.mpr ⟨⟨Nat.succ_ne_zero _, (fun q hq => by cases hq; exact (hZ.k 3 rfl rfl))⟩, (fun _ hq => absurd hq List.not_mem_nil)⟩), hZ.2.2.2.2.2⟩ (lv_sub hl [1, 2, 3, 4, 5] rfl) hf
      · replace hf := wd_ite_n h9 hf
        refine lv_aload hx hb dX3_portWithNetOf_36 (lv_at hl 0 rfl) ?_
        refine z_getI fd_702 rfl hx hb hts hown hK hZ (hZ.k 0 rfl rfl) tw_567 dX3_portWithNetOf_38 ?_
        refine lv_aload hx hb dX3_portWithNetOf_41 (lv_at hl 0 rfl) ?_
        refine z_getI fd_703 rfl hx hb hts hown hK hZ (hZ.k 0 rfl rfl) tw_571 dX3_portWithNetOf_43 ?_
        refine lv_iload_n (i := 1) hx hb dX3_portWithNetOf_46 rfl (lv_at hl 2 rfl) ?_
        have hf9 := wd_b2_e hf; clear hf; obtain ⟨r12, w10, hc11, hf⟩ := hf9
        refine z_callS (As := [.int (wd_I w 702 a6), .int (wd_I w 703 a6), .int x1]) (rest := []) (c_X3_netHas l E n w (wd_I w 702 a6) (wd_I w 703 a6) x1 r12 w10  hc11) mo_X3_netHas tw_590 tw_589 hx hb hml hts hown hK ⟨Nat.le_trans (by decide) hR.1, Nat.le_trans (by decide) hR.2⟩ hZ rfl hl.1 rfl (Nat.le_of_ble_eq_true rfl) rfl dX3_portWithNetOf_47 ?_; clear hZ; intro H locs cells slots hX hZ
        refine lv_if_eq (tgt := 62) hx hb dX3_portWithNetOf_50 (by decide) (fun h13 => ?_) (fun h13 => ?_)
        · replace hf := wd_ite_p h13 hf
          exact v_X3_portWithNetOf_j62 n C hR rec7 hrec7 x0 x1 x2 x3 x4 w10 _ _ _ _ _ ⟨hZ.1, hZ.2.1, hZ.2.2.1, hZ.2.2.2.1, (List.forall_mem_cons.mpr ⟨⟨Nat.succ_ne_zero _, (fun q hq => by cases hq; exact (hZ.k 3 rfl rfl))⟩, (fun _ hq => absurd hq List.not_mem_nil)⟩), hZ.2.2.2.2.2⟩ (lv_sub hl [1, 2, 3, 4, 5] rfl) hf
        · replace hf := wd_ite_n h13 hf
          refine lv_iload hx hb dX3_portWithNetOf_53 (lv_at hl 5 rfl) ?_
          refine lv_istore_n (i := 2) (lv' := [(2, .int x4), (5, .ref a6), (0, .ref x0), (1, .int x1), (3, .int x3), (4, .int x4)]) hx hb dX3_portWithNetOf_55 rfl hl (by decide) rfl ?_; clear hl; intro ls hl
          refine lv_aload hx hb dX3_portWithNetOf_56 (lv_at hl 1 rfl) ?_
          refine z_getI fd_703 rfl hx hb hts hown hK hZ (hZ.k 0 rfl rfl) tw_571 dX3_portWithNetOf_58 ?_
          have hf9 := wd_let_e hf; clear hf; obtain ⟨v14, e15, hf⟩ := hf9
          rw [e15]
          refine lv_istore_n (i := 3) (lv' := [(3, .int v14), (2, .int x4), (5, .ref a6), (0, .ref x0), (1, .int x1), (4, .int x4)]) hx hb dX3_portWithNetOf_61 rfl hl (by decide) rfl ?_; clear hl; intro ls hl
          exact v_X3_portWithNetOf_j62 n C hR rec7 hrec7 x0 x1 x4 v14 x4 w10 _ _ _ _ _ ⟨hZ.1, hZ.2.1, hZ.2.2.1, hZ.2.2.2.1, (List.forall_mem_cons.mpr ⟨⟨Nat.succ_ne_zero _, (fun q hq => by cases hq; exact (hZ.k 3 rfl rfl))⟩, (fun _ hq => absurd hq List.not_mem_nil)⟩), hZ.2.2.2.2.2⟩ (lv_sub hl [3, 4, 1, 0, 5] rfl) hf

theorem v_X3_portWithNetOf_l7 {p : Program} {l : Launch} {e : Env} {R : Room} {s : State} {m : MethodId} {args : Array Value} {below : List Frame} {meth : Method} {c : Code} {E : wd_E} {w0 : Wd} {r' : Int32} {w' : Wd} (n : Nat) (C : wd_X p s m args meth c cX3_portWithNetOf RX3 6 (some .int) "portWithNetOf" E) (hR : 1 ≤ R.frames ∧ 22 ≤ R.locals) : ∀ (k : Nat) (x0 : Nat) (x1 : Int32) (x2 : Int32) (x3 : Int32) (x4 : Int32) (w : Wd) (H : Heap) (locs : List Loc) (cells slots : Nat) (ls : Array Slot), wd_Z E w0 R s w H locs cells slots [(some x0, 4)] → lv_has ls 6 [(0, .ref x0), (1, .int x1), (2, .int x2), (3, .int x3), (4, .int x4)] → wd_lp6 (f_X3_portWithNetOf_l7 n) k x0 x1 x2 x3 x4 w = some (r', w') → W p l e R s m args below meth c H locs cells slots (wd_fin E w0 (some (.int r')) w' True R args s below) (F0 m 7 ls []) := by
  intro k
  induction k with
  | zero => intro _ _ _ _ _ _ _ _ _ _ _ _ _ hf; cases hf
  | succ k ih =>
    intro x0 x1 x2 x3 x4 w H locs cells slots ls hZ hl hf
    exact v_X3_portWithNetOf_b7 n C hR (wd_lp6 (f_X3_portWithNetOf_l7 n) k) ih x0 x1 x2 x3 x4 w H locs cells slots ls hZ hl hf

set_option maxHeartbeats 4000000 in
set_option maxRecDepth 100000 in
theorem c_X3_portWithNetOf (l : Launch) (E : wd_E) (n : Nat) (w : Wd) (this : Nat) (p0 : Int32) (r' : Int32) (w' : Wd) (k_this : wd_K w this = 4) (hf : f_X3_portWithNetOf n w this p0 = some (r', w')) : wd_C l E yX3_portWithNetOf cX3_portWithNetOf 6 (some .int) 1 22 [.ref this, .int p0] w (some (.int r')) w' True := by
  refine wd_ofW (own := RX3) (nm := "portWithNetOf") (ks := [(some this, 4)]) (lv := [(0, .ref this), (1, .int p0)]) (by decide) rfl rfl (Nat.le_of_ble_eq_true rfl) rfl (List.forall_mem_cons.mpr ⟨⟨Nat.succ_ne_zero _, fun q hq => by cases hq; exact k_this⟩, (fun _ hq => absurd hq List.not_mem_nil)⟩) ?_
  intro p e s m args below meth c R H locs cells slots ls C hR hZ hl
  obtain ⟨hx, hb, hr, hml, hts, hown, hlocks, hmn, hK⟩ := id C
  unfold f_X3_portWithNetOf at hf
  refine lv_iconst (v := -1) hx hb dX3_portWithNetOf_0 (by decide) ?_
  refine lv_istore_n (i := 2) (lv' := [(2, .int (-1 : Int32)), (0, .ref this), (1, .int p0)]) hx hb dX3_portWithNetOf_1 rfl hl (by decide) rfl ?_; clear hl; intro ls hl
  refine lv_iconst (v := -1) hx hb dX3_portWithNetOf_2 (by decide) ?_
  refine lv_istore_n (i := 3) (lv' := [(3, .int (-1 : Int32)), (2, .int (-1 : Int32)), (0, .ref this), (1, .int p0)]) hx hb dX3_portWithNetOf_3 rfl hl (by decide) rfl ?_; clear hl; intro ls hl
  refine lv_iconst (v := 0) hx hb dX3_portWithNetOf_4 (by decide) ?_
  refine lv_istore (i := 4) (lv' := [(4, .int (0 : Int32)), (3, .int (-1 : Int32)), (2, .int (-1 : Int32)), (0, .ref this), (1, .int p0)]) hx hb dX3_portWithNetOf_5 hl (by decide) rfl ?_; clear hl; intro ls hl
  exact v_X3_portWithNetOf_l7 n C hR n this p0 (-1 : Int32) (-1 : Int32) (0 : Int32) w _ _ _ _ _ ⟨hZ.1, hZ.2.1, hZ.2.2.1, hZ.2.2.2.1, (List.forall_mem_cons.mpr ⟨⟨Nat.succ_ne_zero _, (fun q hq => by cases hq; exact (hZ.k 0 rfl rfl))⟩, (fun _ hq => absurd hq List.not_mem_nil)⟩), hZ.2.2.2.2.2⟩ (lv_sub hl [3, 4, 2, 1, 0] rfl) hf

def f_X3_port_j18 (n : Nat) (w : Wd) : Option (Option Nat × Wd) :=
  some (none, w)
def f_X3_port (n : Nat) (w : Wd) (this : Nat) (p0 : Int32) : Option (Option Nat × Wd) :=
  if p0 < 0 then
    f_X3_port_j18 n w
  else
    if (4 : Int32) ≤ p0 then
      f_X3_port_j18 n w
    else
      Option.bind (wd_R w 302 this) fun a3 =>
      wd_gd (p0 < 0 ∨ wd_N w a3 ≤ p0.toNatClampNeg) <|
      some ((wd_Q w a3 p0.toNatClampNeg), w)
set_option maxHeartbeats 4000000 in
set_option maxRecDepth 100000 in
theorem v_X3_port_j18 {p : Program} {l : Launch} {e : Env} {R : Room} {s : State} {m : MethodId} {args : Array Value} {below : List Frame} {meth : Method} {c : Code} {E : wd_E} {w0 : Wd} {r' : Option Nat} {w' : Wd} (n : Nat) (C : wd_X p s m args meth c cX3_port RX3 2 (some (.object "SeamarkNet$Port")) "port" E) (hR : 0 ≤ R.frames ∧ 0 ≤ R.locals) (w : Wd) (H : Heap) (locs : List Loc) (cells slots : Nat) (ls : Array Slot) (hZ : wd_Z E w0 R s w H locs cells slots []) (hl : lv_has ls 2 []) (hf : f_X3_port_j18 n w = some (r', w')) : W p l e R s m args below meth c H locs cells slots (wd_fin E w0 (some (va_rf r')) w' (∀ q, r' = some q → wd_K w' q = 8) R args s below) (F0 m 18 ls []) := by
  obtain ⟨hx, hb, hr, hml, hts, hown, hlocks, hmn, hK⟩ := id C
  unfold f_X3_port_j18 at hf
  refine z_null hx hb dX3_port_18 ?_
  obtain ⟨rfl, rfl⟩ := Prod.mk.inj (Option.some.inj hf)
  exact z_aret rfl hx hb hr hlocks hZ (fun q hq => by cases hq) dX3_port_19

set_option maxHeartbeats 4000000 in
set_option maxRecDepth 100000 in
theorem c_X3_port (l : Launch) (E : wd_E) (n : Nat) (w : Wd) (this : Nat) (p0 : Int32) (r' : Option Nat) (w' : Wd) (k_this : wd_K w this = 4) (hf : f_X3_port n w this p0 = some (r', w')) : wd_C l E yX3_port cX3_port 2 (some (.object "SeamarkNet$Port")) 0 0 [.ref this, .int p0] w (some (va_rf r')) w' (∀ q, r' = some q → wd_K w' q = 8) := by
  refine wd_ofW (own := RX3) (nm := "port") (ks := [(some this, 4)]) (lv := [(0, .ref this), (1, .int p0)]) (by decide) rfl rfl (Nat.le_of_ble_eq_true rfl) rfl (List.forall_mem_cons.mpr ⟨⟨Nat.succ_ne_zero _, fun q hq => by cases hq; exact k_this⟩, (fun _ hq => absurd hq List.not_mem_nil)⟩) ?_
  intro p e s m args below meth c R H locs cells slots ls C hR hZ hl
  obtain ⟨hx, hb, hr, hml, hts, hown, hlocks, hmn, hK⟩ := id C
  unfold f_X3_port at hf
  refine lv_iload_n (i := 1) hx hb dX3_port_0 rfl (lv_at hl 1 rfl) ?_
  refine lv_if_lt (tgt := 18) hx hb dX3_port_1 (by decide) (fun h1 => ?_) (fun h1 => ?_)
  · replace hf := wd_ite_p h1 hf
    exact v_X3_port_j18 n C hR w _ _ _ _ _ ⟨hZ.1, hZ.2.1, hZ.2.2.1, hZ.2.2.2.1, (fun _ hq => absurd hq List.not_mem_nil), hZ.2.2.2.2.2⟩ (lv_sub hl [] rfl) hf
  · replace hf := wd_ite_n h1 hf
    refine lv_iload_n (i := 1) hx hb dX3_port_4 rfl (lv_at hl 1 rfl) ?_
    refine lv_iconst (v := 4) hx hb dX3_port_5 (by decide) ?_
    refine lv_icmp_ge (tgt := 18) hx hb dX3_port_6 (by decide) (fun h2 => ?_) (fun h2 => ?_)
    · replace hf := wd_ite_p h2 hf
      exact v_X3_port_j18 n C hR w _ _ _ _ _ ⟨hZ.1, hZ.2.1, hZ.2.2.1, hZ.2.2.2.1, (fun _ hq => absurd hq List.not_mem_nil), hZ.2.2.2.2.2⟩ (lv_sub hl [] rfl) hf
    · replace hf := wd_ite_n h2 hf
      refine lv_aload_n (i := 0) hx hb dX3_port_9 rfl (lv_at hl 0 rfl) ?_
      refine z_getR (tk := 21) fd_302 rfl hx hb hts hown hK hZ (hZ.k 0 rfl rfl) tw_79 dX3_port_10 ?_; clear hZ; intro hZ
      refine lv_iload_n (i := 1) hx hb dX3_port_13 rfl (lv_at hl 1 rfl) ?_
      have hf9 := Option.bind_eq_some_iff.mp hf; clear hf; obtain ⟨a3, ha3, hf⟩ := hf9
      replace hZ := hZ.add (r := some a3) (k := 22) (Nat.succ_ne_zero _) (fun q hq => by cases hq; exact hZ.k 0 rfl ha3)
      rw [ha3]
      have hf9 := wd_gd_e hf; clear hf; obtain ⟨h4, hf⟩ := hf9
      refine z_aald (k := 22) (by decide) (by decide) (tk := 7) rfl hx hb hK hZ (hZ.k 0 rfl rfl) h4 dX3_port_14 ?_; clear hZ; intro hZ
      refine lv_goto (tgt := 19) hx hb dX3_port_15 (by decide) ?_
      obtain ⟨rfl, rfl⟩ := Prod.mk.inj (Option.some.inj hf)
      exact z_aret rfl hx hb hr hlocks hZ (fun q hq => hZ.k 0 rfl hq) dX3_port_19

def f_X3_routeFor_j59 (n : Nat) (rec7 : Nat → Int32 → Int32 → Int32 → Int32 → Wd → Option (Int32 × Wd)) (x0 : Nat) (x1 : Int32) (x2 : Int32) (x3 : Int32) (x4 : Int32) (w : Wd) : Option (Int32 × Wd) :=
  wd_let (x4 + 1) fun v5 =>
  rec7 x0 x1 x2 x3 v5 w
def f_X3_routeFor_l7 (n : Nat) (rec7 : Nat → Int32 → Int32 → Int32 → Int32 → Wd → Option (Int32 × Wd)) (x0 : Nat) (x1 : Int32) (x2 : Int32) (x3 : Int32) (x4 : Int32) (w : Wd) : Option (Int32 × Wd) :=
  if (wd_I w 307 x0) ≤ x4 then
    some (x2, w)
  else
    Option.bind (wd_R w 305 x0) fun a2 =>
    wd_gd (x4 < 0 ∨ wd_N w a2 ≤ x4.toNatClampNeg) <|
    if (wd_A w a2 x4.toNatClampNeg) ≤ x3 then
      f_X3_routeFor_j59 n rec7 x0 x1 x2 x3 x4 w
    else
      Option.bind (wd_R w 304 x0) fun a7 =>
      wd_gd (x4 < 0 ∨ wd_N w a7 ≤ x4.toNatClampNeg) <|
      Option.bind (wd_R w 305 x0) fun a9 =>
      wd_gd (x4 < 0 ∨ wd_N w a9 ≤ x4.toNatClampNeg) <|
      wd_b2 (f_X3_netHas n w (wd_A w a7 x4.toNatClampNeg) (wd_A w a9 x4.toNatClampNeg) x1) fun r13 w11 =>
      if r13 = 0 then
        f_X3_routeFor_j59 n rec7 x0 x1 x2 x3 x4 w11
      else
        Option.bind (wd_R w11 305 x0) fun a15 =>
        wd_gd (x4 < 0 ∨ wd_N w11 a15 ≤ x4.toNatClampNeg) <|
        wd_let (wd_A w11 a15 x4.toNatClampNeg) fun v17 =>
        f_X3_routeFor_j59 n rec7 x0 x1 x4 v17 x4 w11
def f_X3_routeFor (n : Nat) (w : Wd) (this : Nat) (p0 : Int32) : Option (Int32 × Wd) :=
  wd_lp6 (f_X3_routeFor_l7 n) n this p0 (-1 : Int32) (-1 : Int32) (0 : Int32) w
set_option maxHeartbeats 4000000 in
set_option maxRecDepth 100000 in
theorem v_X3_routeFor_j59 {p : Program} {l : Launch} {e : Env} {R : Room} {s : State} {m : MethodId} {args : Array Value} {below : List Frame} {meth : Method} {c : Code} {E : wd_E} {w0 : Wd} {r' : Int32} {w' : Wd} (n : Nat) (C : wd_X p s m args meth c cX3_routeFor RX3 5 (some .int) "routeFor" E) (hR : 1 ≤ R.frames ∧ 22 ≤ R.locals) (rec7 : Nat → Int32 → Int32 → Int32 → Int32 → Wd → Option (Int32 × Wd)) (hrec7 : ∀ (x0_ : Nat) (x1_ : Int32) (x2_ : Int32) (x3_ : Int32) (x4_ : Int32) (w_ : Wd) (H : Heap) (locs : List Loc) (cells slots : Nat) (ls : Array Slot), wd_Z E w0 R s w_ H locs cells slots [(some x0_, 4)] → lv_has ls 5 [(0, .ref x0_), (1, .int x1_), (2, .int x2_), (3, .int x3_), (4, .int x4_)] → rec7 x0_ x1_ x2_ x3_ x4_ w_ = some (r', w') → W p l e R s m args below meth c H locs cells slots (wd_fin E w0 (some (.int r')) w' True R args s below) (F0 m 7 ls [])) (x0 : Nat) (x1 : Int32) (x2 : Int32) (x3 : Int32) (x4 : Int32) (w : Wd) (H : Heap) (locs : List Loc) (cells slots : Nat) (ls : Array Slot) (hZ : wd_Z E w0 R s w H locs cells slots [(some x0, 4)]) (hl : lv_has ls 5 [(0, .ref x0), (1, .int x1), (2, .int x2), (3, .int x3), (4, .int x4)]) (hf : f_X3_routeFor_j59 n rec7 x0 x1 x2 x3 x4 w = some (r', w')) : W p l e R s m args below meth c H locs cells slots (wd_fin E w0 (some (.int r')) w' True R args s below) (F0 m 59 ls []) := by
  obtain ⟨hx, hb, hr, hml, hts, hown, hlocks, hmn, hK⟩ := id C
  unfold f_X3_routeFor_j59 at hf
  have hf9 := wd_let_e hf; clear hf; obtain ⟨v5, e6, hf⟩ := hf9
  refine lv_iinc (k := 4) (v := v5) (lv' := [(4, .int v5), (0, .ref x0), (1, .int x1), (2, .int x2), (3, .int x3)]) hx hb dX3_routeFor_59 hl rfl (by rw [← e6]; rfl) (by decide) rfl ?_; clear hl; intro ls hl
  refine lv_goto (tgt := 7) hx hb dX3_routeFor_62 (by decide) ?_
  exact hrec7 x0 x1 x2 x3 v5 w _ _ _ _ _ ⟨hZ.1, hZ.2.1, hZ.2.2.1, hZ.2.2.2.1, (List.forall_mem_cons.mpr ⟨⟨Nat.succ_ne_zero _, (fun q hq => by cases hq; exact (hZ.k 0 rfl rfl))⟩, (fun _ hq => absurd hq List.not_mem_nil)⟩), hZ.2.2.2.2.2⟩ (lv_sub hl [1, 2, 3, 4, 0] rfl) hf

set_option maxHeartbeats 4000000 in
set_option maxRecDepth 100000 in
theorem v_X3_routeFor_b7 {p : Program} {l : Launch} {e : Env} {R : Room} {s : State} {m : MethodId} {args : Array Value} {below : List Frame} {meth : Method} {c : Code} {E : wd_E} {w0 : Wd} {r' : Int32} {w' : Wd} (n : Nat) (C : wd_X p s m args meth c cX3_routeFor RX3 5 (some .int) "routeFor" E) (hR : 1 ≤ R.frames ∧ 22 ≤ R.locals) (rec7 : Nat → Int32 → Int32 → Int32 → Int32 → Wd → Option (Int32 × Wd)) (hrec7 : ∀ (x0_ : Nat) (x1_ : Int32) (x2_ : Int32) (x3_ : Int32) (x4_ : Int32) (w_ : Wd) (H : Heap) (locs : List Loc) (cells slots : Nat) (ls : Array Slot), wd_Z E w0 R s w_ H locs cells slots [(some x0_, 4)] → lv_has ls 5 [(0, .ref x0_), (1, .int x1_), (2, .int x2_), (3, .int x3_), (4, .int x4_)] → rec7 x0_ x1_ x2_ x3_ x4_ w_ = some (r', w') → W p l e R s m args below meth c H locs cells slots (wd_fin E w0 (some (.int r')) w' True R args s below) (F0 m 7 ls [])) (x0 : Nat) (x1 : Int32) (x2 : Int32) (x3 : Int32) (x4 : Int32) (w : Wd) (H : Heap) (locs : List Loc) (cells slots : Nat) (ls : Array Slot) (hZ : wd_Z E w0 R s w H locs cells slots [(some x0, 4)]) (hl : lv_has ls 5 [(0, .ref x0), (1, .int x1), (2, .int x2), (3, .int x3), (4, .int x4)]) (hf : f_X3_routeFor_l7 n rec7 x0 x1 x2 x3 x4 w = some (r', w')) : W p l e R s m args below meth c H locs cells slots (wd_fin E w0 (some (.int r')) w' True R args s below) (F0 m 7 ls []) := by
  obtain ⟨hx, hb, hr, hml, hts, hown, hlocks, hmn, hK⟩ := id C
  unfold f_X3_routeFor_l7 at hf
  refine lv_iload hx hb dX3_routeFor_7 (lv_at hl 4 rfl) ?_
  refine lv_aload_n (i := 0) hx hb dX3_routeFor_9 rfl (lv_at hl 0 rfl) ?_
  refine z_getI fd_307 rfl hx hb hts hown hK hZ (hZ.k 0 rfl rfl) tw_84 dX3_routeFor_10 ?_
  refine lv_icmp_ge (tgt := 65) hx hb dX3_routeFor_13 (by decide) (fun h1 => ?_) (fun h1 => ?_)
  · replace hf := wd_ite_p h1 hf
    refine lv_iload_n (i := 2) hx hb dX3_routeFor_65 rfl (lv_at hl 2 rfl) ?_
    obtain ⟨rfl, rfl⟩ := Prod.mk.inj (Option.some.inj hf)
    exact z_iret hx hb hr hlocks hZ trivial dX3_routeFor_66
  · replace hf := wd_ite_n h1 hf
    refine lv_aload_n (i := 0) hx hb dX3_routeFor_16 rfl (lv_at hl 0 rfl) ?_
    refine z_getR (tk := 20) fd_305 rfl hx hb hts hown hK hZ (hZ.k 0 rfl rfl) tw_82 dX3_routeFor_17 ?_; clear hZ; intro hZ
    refine lv_iload hx hb dX3_routeFor_20 (lv_at hl 4 rfl) ?_
    have hf9 := Option.bind_eq_some_iff.mp hf; clear hf; obtain ⟨a2, ha2, hf⟩ := hf9
    replace hZ := hZ.add (r := some a2) (k := 21) (Nat.succ_ne_zero _) (fun q hq => by cases hq; exact hZ.k 0 rfl ha2)
    rw [ha2]
    have hf9 := wd_gd_e hf; clear hf; obtain ⟨h3, hf⟩ := hf9
    refine z_iald hx hb hK hZ (hZ.k 0 rfl rfl) h3 dX3_routeFor_22 ?_
    refine lv_iload_n (i := 3) hx hb dX3_routeFor_23 rfl (lv_at hl 3 rfl) ?_
    refine lv_icmp_le (tgt := 59) hx hb dX3_routeFor_24 (by decide) (fun h4 => ?_) (fun h4 => ?_)
    · replace hf := wd_ite_p h4 hf
      exact v_X3_routeFor_j59 n C hR rec7 hrec7 x0 x1 x2 x3 x4 w _ _ _ _ _ ⟨hZ.1, hZ.2.1, hZ.2.2.1, hZ.2.2.2.1, (List.forall_mem_cons.mpr ⟨⟨Nat.succ_ne_zero _, (fun q hq => by cases hq; exact (hZ.k 2 rfl rfl))⟩, (fun _ hq => absurd hq List.not_mem_nil)⟩), hZ.2.2.2.2.2⟩ (lv_sub hl [0, 1, 2, 3, 4] rfl) hf
    · replace hf := wd_ite_n h4 hf
      refine lv_aload_n (i := 0) hx hb dX3_routeFor_27 rfl (lv_at hl 0 rfl) ?_
      refine z_getR (tk := 20) fd_304 rfl hx hb hts hown hK hZ (hZ.k 2 rfl rfl) tw_81 dX3_routeFor_28 ?_; clear hZ; intro hZ
      refine lv_iload hx hb dX3_routeFor_31 (lv_at hl 4 rfl) ?_
      have hf9 := Option.bind_eq_some_iff.mp hf; clear hf; obtain ⟨a7, ha7, hf⟩ := hf9
      replace hZ := hZ.add (r := some a7) (k := 21) (Nat.succ_ne_zero _) (fun q hq => by cases hq; exact hZ.k 0 rfl ha7)
      rw [ha7]
      have hf9 := wd_gd_e hf; clear hf; obtain ⟨h8, hf⟩ := hf9
      refine z_iald hx hb hK hZ (hZ.k 0 rfl rfl) h8 dX3_routeFor_33 ?_
      refine lv_aload_n (i := 0) hx hb dX3_routeFor_34 rfl (lv_at hl 0 rfl) ?_
      refine z_getR (tk := 20) fd_305 rfl hx hb hts hown hK hZ (hZ.k 4 rfl rfl) tw_82 dX3_routeFor_35 ?_; clear hZ; intro hZ
      refine lv_iload hx hb dX3_routeFor_38 (lv_at hl 4 rfl) ?_
      have hf9 := Option.bind_eq_some_iff.mp hf; clear hf; obtain ⟨a9, ha9, hf⟩ := hf9
      replace hZ := hZ.add (r := some a9) (k := 21) (Nat.succ_ne_zero _) (fun q hq => by cases hq; exact hZ.k 0 rfl ha9)
      rw [ha9]
      have hf9 := wd_gd_e hf; clear hf; obtain ⟨h10, hf⟩ := hf9
      refine z_iald hx hb hK hZ (hZ.k 0 rfl rfl) h10 dX3_routeFor_40 ?_
      refine lv_iload_n (i := 1) hx hb dX3_routeFor_41 rfl (lv_at hl 1 rfl) ?_
      have hf9 := wd_b2_e hf; clear hf; obtain ⟨r13, w11, hc12, hf⟩ := hf9
      refine z_callS (As := [.int (wd_A w a7 x4.toNatClampNeg), .int (wd_A w a9 x4.toNatClampNeg), .int x1]) (rest := []) (c_X3_netHas l E n w (wd_A w a7 x4.toNatClampNeg) (wd_A w a9 x4.toNatClampNeg) x1 r13 w11  hc12) mo_X3_netHas tw_590 tw_589 hx hb hml hts hown hK ⟨Nat.le_trans (by decide) hR.1, Nat.le_trans (by decide) hR.2⟩ hZ rfl hl.1 rfl (Nat.le_of_ble_eq_true rfl) rfl dX3_routeFor_42 ?_; clear hZ; intro H locs cells slots hX hZ
      refine lv_if_eq (tgt := 59) hx hb dX3_routeFor_45 (by decide) (fun h14 => ?_) (fun h14 => ?_)
      · replace hf := wd_ite_p h14 hf
        exact v_X3_routeFor_j59 n C hR rec7 hrec7 x0 x1 x2 x3 x4 w11 _ _ _ _ _ ⟨hZ.1, hZ.2.1, hZ.2.2.1, hZ.2.2.2.1, (List.forall_mem_cons.mpr ⟨⟨Nat.succ_ne_zero _, (fun q hq => by cases hq; exact (hZ.k 6 rfl rfl))⟩, (fun _ hq => absurd hq List.not_mem_nil)⟩), hZ.2.2.2.2.2⟩ (lv_sub hl [0, 1, 2, 3, 4] rfl) hf
      · replace hf := wd_ite_n h14 hf
        refine lv_iload hx hb dX3_routeFor_48 (lv_at hl 4 rfl) ?_
        refine lv_istore_n (i := 2) (lv' := [(2, .int x4), (0, .ref x0), (1, .int x1), (3, .int x3), (4, .int x4)]) hx hb dX3_routeFor_50 rfl hl (by decide) rfl ?_; clear hl; intro ls hl
        refine lv_aload_n (i := 0) hx hb dX3_routeFor_51 rfl (lv_at hl 1 rfl) ?_
        refine z_getR (tk := 20) fd_305 rfl hx hb hts hown hK hZ (hZ.k 6 rfl rfl) tw_82 dX3_routeFor_52 ?_; clear hZ; intro hZ
        refine lv_iload hx hb dX3_routeFor_55 (lv_at hl 4 rfl) ?_
        have hf9 := Option.bind_eq_some_iff.mp hf; clear hf; obtain ⟨a15, ha15, hf⟩ := hf9
        replace hZ := hZ.add (r := some a15) (k := 21) (Nat.succ_ne_zero _) (fun q hq => by cases hq; exact hZ.k 0 rfl ha15)
        rw [ha15]
        have hf9 := wd_gd_e hf; clear hf; obtain ⟨h16, hf⟩ := hf9
        refine z_iald hx hb hK hZ (hZ.k 0 rfl rfl) h16 dX3_routeFor_57 ?_
        have hf9 := wd_let_e hf; clear hf; obtain ⟨v17, e18, hf⟩ := hf9
        rw [e18]
        refine lv_istore_n (i := 3) (lv' := [(3, .int v17), (2, .int x4), (0, .ref x0), (1, .int x1), (4, .int x4)]) hx hb dX3_routeFor_58 rfl hl (by decide) rfl ?_; clear hl; intro ls hl
        exact v_X3_routeFor_j59 n C hR rec7 hrec7 x0 x1 x4 v17 x4 w11 _ _ _ _ _ ⟨hZ.1, hZ.2.1, hZ.2.2.1, hZ.2.2.2.1, (List.forall_mem_cons.mpr ⟨⟨Nat.succ_ne_zero _, (fun q hq => by cases hq; exact (hZ.k 8 rfl rfl))⟩, (fun _ hq => absurd hq List.not_mem_nil)⟩), hZ.2.2.2.2.2⟩ (lv_sub hl [2, 3, 1, 0, 4] rfl) hf

theorem v_X3_routeFor_l7 {p : Program} {l : Launch} {e : Env} {R : Room} {s : State} {m : MethodId} {args : Array Value} {below : List Frame} {meth : Method} {c : Code} {E : wd_E} {w0 : Wd} {r' : Int32} {w' : Wd} (n : Nat) (C : wd_X p s m args meth c cX3_routeFor RX3 5 (some .int) "routeFor" E) (hR : 1 ≤ R.frames ∧ 22 ≤ R.locals) : ∀ (k : Nat) (x0 : Nat) (x1 : Int32) (x2 : Int32) (x3 : Int32) (x4 : Int32) (w : Wd) (H : Heap) (locs : List Loc) (cells slots : Nat) (ls : Array Slot), wd_Z E w0 R s w H locs cells slots [(some x0, 4)] → lv_has ls 5 [(0, .ref x0), (1, .int x1), (2, .int x2), (3, .int x3), (4, .int x4)] → wd_lp6 (f_X3_routeFor_l7 n) k x0 x1 x2 x3 x4 w = some (r', w') → W p l e R s m args below meth c H locs cells slots (wd_fin E w0 (some (.int r')) w' True R args s below) (F0 m 7 ls []) := by
  intro k
  induction k with
  | zero => intro _ _ _ _ _ _ _ _ _ _ _ _ _ hf; cases hf
  | succ k ih =>
    intro x0 x1 x2 x3 x4 w H locs cells slots ls hZ hl hf
    exact v_X3_routeFor_b7 n C hR (wd_lp6 (f_X3_routeFor_l7 n) k) ih x0 x1 x2 x3 x4 w H locs cells slots ls hZ hl hf

set_option maxHeartbeats 4000000 in
set_option maxRecDepth 100000 in
theorem c_X3_routeFor (l : Launch) (E : wd_E) (n : Nat) (w : Wd) (this : Nat) (p0 : Int32) (r' : Int32) (w' : Wd) (k_this : wd_K w this = 4) (hf : f_X3_routeFor n w this p0 = some (r', w')) : wd_C l E yX3_routeFor cX3_routeFor 5 (some .int) 1 22 [.ref this, .int p0] w (some (.int r')) w' True := by
  refine wd_ofW (own := RX3) (nm := "routeFor") (ks := [(some this, 4)]) (lv := [(0, .ref this), (1, .int p0)]) (by decide) rfl rfl (Nat.le_of_ble_eq_true rfl) rfl (List.forall_mem_cons.mpr ⟨⟨Nat.succ_ne_zero _, fun q hq => by cases hq; exact k_this⟩, (fun _ hq => absurd hq List.not_mem_nil)⟩) ?_
  intro p e s m args below meth c R H locs cells slots ls C hR hZ hl
  obtain ⟨hx, hb, hr, hml, hts, hown, hlocks, hmn, hK⟩ := id C
  unfold f_X3_routeFor at hf
  refine lv_iconst (v := -1) hx hb dX3_routeFor_0 (by decide) ?_
  refine lv_istore_n (i := 2) (lv' := [(2, .int (-1 : Int32)), (0, .ref this), (1, .int p0)]) hx hb dX3_routeFor_1 rfl hl (by decide) rfl ?_; clear hl; intro ls hl
  refine lv_iconst (v := -1) hx hb dX3_routeFor_2 (by decide) ?_
  refine lv_istore_n (i := 3) (lv' := [(3, .int (-1 : Int32)), (2, .int (-1 : Int32)), (0, .ref this), (1, .int p0)]) hx hb dX3_routeFor_3 rfl hl (by decide) rfl ?_; clear hl; intro ls hl
  refine lv_iconst (v := 0) hx hb dX3_routeFor_4 (by decide) ?_
  refine lv_istore (i := 4) (lv' := [(4, .int (0 : Int32)), (3, .int (-1 : Int32)), (2, .int (-1 : Int32)), (0, .ref this), (1, .int p0)]) hx hb dX3_routeFor_5 hl (by decide) rfl ?_; clear hl; intro ls hl
  exact v_X3_routeFor_l7 n C hR n this p0 (-1 : Int32) (-1 : Int32) (0 : Int32) w _ _ _ _ _ ⟨hZ.1, hZ.2.1, hZ.2.2.1, hZ.2.2.2.1, (List.forall_mem_cons.mpr ⟨⟨Nat.succ_ne_zero _, (fun q hq => by cases hq; exact (hZ.k 0 rfl rfl))⟩, (fun _ hq => absurd hq List.not_mem_nil)⟩), hZ.2.2.2.2.2⟩ (lv_sub hl [3, 4, 2, 1, 0] rfl) hf

def f_X3_layWay (n : Nat) (w : Wd) (this : Nat) (p0 : Int32) (p1 : Int32) (p2 : Int32) (p3 : Int32) : Option Wd :=
  Option.bind (wd_R w 310 this) fun a1 =>
  wd_gd (p0 < 0 ∨ wd_N w a1 ≤ p0.toNatClampNeg) <|
  wd_let (wd_sA w a1 p0.toNatClampNeg p1) fun w3 =>
  Option.bind (wd_R w3 311 this) fun a5 =>
  wd_gd (p0 < 0 ∨ wd_N w3 a5 ≤ p0.toNatClampNeg) <|
  wd_let (wd_sA w3 a5 p0.toNatClampNeg p2) fun w7 =>
  Option.bind (wd_R w7 312 this) fun a9 =>
  wd_gd (p0 < 0 ∨ wd_N w7 a9 ≤ p0.toNatClampNeg) <|
  wd_let (wd_sA w7 a9 p0.toNatClampNeg p3) fun w11 =>
  some w11
set_option maxHeartbeats 4000000 in
set_option maxRecDepth 100000 in
theorem c_X3_layWay (l : Launch) (E : wd_E) (n : Nat) (w : Wd) (this : Nat) (p0 : Int32) (p1 : Int32) (p2 : Int32) (p3 : Int32) (w' : Wd) (k_this : wd_K w this = 4) (hf : f_X3_layWay n w this p0 p1 p2 p3 = some w') : wd_C l E yX3_layWay cX3_layWay 5 none 0 0 [.ref this, .int p0, .int p1, .int p2, .int p3] w none w' True := by
  refine wd_ofW (own := RX3) (nm := "layWay") (ks := [(some this, 4)]) (lv := [(0, .ref this), (1, .int p0), (2, .int p1), (3, .int p2), (4, .int p3)]) (by decide) rfl rfl (Nat.le_of_ble_eq_true rfl) rfl (List.forall_mem_cons.mpr ⟨⟨Nat.succ_ne_zero _, fun q hq => by cases hq; exact k_this⟩, (fun _ hq => absurd hq List.not_mem_nil)⟩) ?_
  intro p e s m args below meth c R H locs cells slots ls C hR hZ hl
  obtain ⟨hx, hb, hr, hml, hts, hown, hlocks, hmn, hK⟩ := id C
  unfold f_X3_layWay at hf
  refine lv_aload_n (i := 0) hx hb dX3_layWay_0 rfl (lv_at hl 0 rfl) ?_
  refine z_getR (tk := 20) fd_310 rfl hx hb hts hown hK hZ (hZ.k 0 rfl rfl) tw_87 dX3_layWay_1 ?_; clear hZ; intro hZ
  refine lv_iload_n (i := 1) hx hb dX3_layWay_4 rfl (lv_at hl 1 rfl) ?_
  refine lv_iload_n (i := 2) hx hb dX3_layWay_5 rfl (lv_at hl 2 rfl) ?_
  have hf9 := Option.bind_eq_some_iff.mp hf; clear hf; obtain ⟨a1, ha1, hf⟩ := hf9
  replace hZ := hZ.add (r := some a1) (k := 21) (Nat.succ_ne_zero _) (fun q hq => by cases hq; exact hZ.k 0 rfl ha1)
  rw [ha1]
  have hf9 := wd_gd_e hf; clear hf; obtain ⟨h2, hf⟩ := hf9
  refine z_iast hx hb hK hZ (hZ.k 0 rfl rfl) h2 dX3_layWay_6 ?_; clear hZ; intro H locs hZ
  have hf9 := wd_let_e hf; clear hf; obtain ⟨w3, e4, hf⟩ := hf9
  rw [e4] at hZ
  refine lv_aload_n (i := 0) hx hb dX3_layWay_7 rfl (lv_at hl 0 rfl) ?_
  refine z_getR (tk := 20) fd_311 rfl hx hb hts hown hK hZ (hZ.k 2 rfl rfl) tw_88 dX3_layWay_8 ?_; clear hZ; intro hZ
  refine lv_iload_n (i := 1) hx hb dX3_layWay_11 rfl (lv_at hl 1 rfl) ?_
  refine lv_iload_n (i := 3) hx hb dX3_layWay_12 rfl (lv_at hl 3 rfl) ?_
  have hf9 := Option.bind_eq_some_iff.mp hf; clear hf; obtain ⟨a5, ha5, hf⟩ := hf9
  replace hZ := hZ.add (r := some a5) (k := 21) (Nat.succ_ne_zero _) (fun q hq => by cases hq; exact hZ.k 0 rfl ha5)
  rw [ha5]
  have hf9 := wd_gd_e hf; clear hf; obtain ⟨h6, hf⟩ := hf9
  refine z_iast hx hb hK hZ (hZ.k 0 rfl rfl) h6 dX3_layWay_13 ?_; clear hZ; intro H locs hZ
  have hf9 := wd_let_e hf; clear hf; obtain ⟨w7, e8, hf⟩ := hf9
  rw [e8] at hZ
  refine lv_aload_n (i := 0) hx hb dX3_layWay_14 rfl (lv_at hl 0 rfl) ?_
  refine z_getR (tk := 20) fd_312 rfl hx hb hts hown hK hZ (hZ.k 4 rfl rfl) tw_89 dX3_layWay_15 ?_; clear hZ; intro hZ
  refine lv_iload_n (i := 1) hx hb dX3_layWay_18 rfl (lv_at hl 1 rfl) ?_
  refine lv_iload hx hb dX3_layWay_19 (lv_at hl 4 rfl) ?_
  have hf9 := Option.bind_eq_some_iff.mp hf; clear hf; obtain ⟨a9, ha9, hf⟩ := hf9
  replace hZ := hZ.add (r := some a9) (k := 21) (Nat.succ_ne_zero _) (fun q hq => by cases hq; exact hZ.k 0 rfl ha9)
  rw [ha9]
  have hf9 := wd_gd_e hf; clear hf; obtain ⟨h10, hf⟩ := hf9
  refine z_iast hx hb hK hZ (hZ.k 0 rfl rfl) h10 dX3_layWay_21 ?_; clear hZ; intro H locs hZ
  have hf9 := wd_let_e hf; clear hf; obtain ⟨w11, e12, hf⟩ := hf9
  rw [e12] at hZ
  obtain rfl := Option.some.inj hf
  exact z_vret hx hb hr hlocks hZ trivial dX3_layWay_22

def f_X3_layByRoute (n : Nat) (w : Wd) (this : Nat) (p0 : Int32) (p1 : Int32) : Option Wd :=
  Option.bind (wd_R w 306 this) fun a1 =>
  wd_gd (p1 < 0 ∨ wd_N w a1 ≤ p1.toNatClampNeg) <|
  wd_let (wd_A w a1 p1.toNatClampNeg) fun v3 =>
  if 0 ≤ v3 then
    wd_b2 (f_X3_portWithNetOf n w this v3) fun r8 w6 =>
    if 0 ≤ r8 then
      Option.bind (wd_R w6 305 this) fun a10 =>
      wd_gd (p1 < 0 ∨ wd_N w6 a10 ≤ p1.toNatClampNeg) <|
      Option.bind (f_X3_layWay n w6 this p0 r8 v3 (wd_A w6 a10 p1.toNatClampNeg)) fun w12 =>
      some w12
    else
      Option.bind (f_X3_layWay n w6 this p0 (-1 : Int32) (-1 : Int32) (-1 : Int32)) fun w14 =>
      some w14
  else
    Option.bind (wd_R w 305 this) fun a16 =>
    wd_gd (p1 < 0 ∨ wd_N w a16 ≤ p1.toNatClampNeg) <|
    Option.bind (f_X3_layWay n w this p0 (-2 : Int32) ((-1 : Int32) - v3) (wd_A w a16 p1.toNatClampNeg)) fun w18 =>
    some w18
set_option maxHeartbeats 4000000 in
set_option maxRecDepth 100000 in
theorem c_X3_layByRoute (l : Launch) (E : wd_E) (n : Nat) (w : Wd) (this : Nat) (p0 : Int32) (p1 : Int32) (w' : Wd) (k_this : wd_K w this = 4) (hf : f_X3_layByRoute n w this p0 p1 = some w') : wd_C l E yX3_layByRoute cX3_layByRoute 5 none 2 47 [.ref this, .int p0, .int p1] w none w' True := by
  refine wd_ofW (own := RX3) (nm := "layByRoute") (ks := [(some this, 4)]) (lv := [(0, .ref this), (1, .int p0), (2, .int p1)]) (by decide) rfl rfl (Nat.le_of_ble_eq_true rfl) rfl (List.forall_mem_cons.mpr ⟨⟨Nat.succ_ne_zero _, fun q hq => by cases hq; exact k_this⟩, (fun _ hq => absurd hq List.not_mem_nil)⟩) ?_
  intro p e s m args below meth c R H locs cells slots ls C hR hZ hl
  obtain ⟨hx, hb, hr, hml, hts, hown, hlocks, hmn, hK⟩ := id C
  unfold f_X3_layByRoute at hf
  refine lv_aload_n (i := 0) hx hb dX3_layByRoute_0 rfl (lv_at hl 0 rfl) ?_
  refine z_getR (tk := 20) fd_306 rfl hx hb hts hown hK hZ (hZ.k 0 rfl rfl) tw_83 dX3_layByRoute_1 ?_; clear hZ; intro hZ
  refine lv_iload_n (i := 2) hx hb dX3_layByRoute_4 rfl (lv_at hl 2 rfl) ?_
  have hf9 := Option.bind_eq_some_iff.mp hf; clear hf; obtain ⟨a1, ha1, hf⟩ := hf9
  replace hZ := hZ.add (r := some a1) (k := 21) (Nat.succ_ne_zero _) (fun q hq => by cases hq; exact hZ.k 0 rfl ha1)
  rw [ha1]
  have hf9 := wd_gd_e hf; clear hf; obtain ⟨h2, hf⟩ := hf9
  refine z_iald hx hb hK hZ (hZ.k 0 rfl rfl) h2 dX3_layByRoute_5 ?_
  have hf9 := wd_let_e hf; clear hf; obtain ⟨v3, e4, hf⟩ := hf9
  rw [e4]
  refine lv_istore_n (i := 3) (lv' := [(3, .int v3), (0, .ref this), (1, .int p0), (2, .int p1)]) hx hb dX3_layByRoute_6 rfl hl (by decide) rfl ?_; clear hl; intro ls hl
  refine lv_iload_n (i := 3) hx hb dX3_layByRoute_7 rfl (lv_at hl 0 rfl) ?_
  refine lv_if_ge (tgt := 28) hx hb dX3_layByRoute_8 (by decide) (fun h5 => ?_) (fun h5 => ?_)
  · replace hf := wd_ite_p h5 hf
    refine lv_aload_n (i := 0) hx hb dX3_layByRoute_28 rfl (lv_at hl 1 rfl) ?_
    refine lv_iload_n (i := 3) hx hb dX3_layByRoute_29 rfl (lv_at hl 0 rfl) ?_
    have hf9 := wd_b2_e hf; clear hf; obtain ⟨r8, w6, hc7, hf⟩ := hf9
    refine z_callV (ci := 3) (As := [.int v3]) (rest := []) (c_X3_portWithNetOf l E n w this v3 r8 w6 (hZ.k 2 rfl rfl) hc7) mo_X3_portWithNetOf rfl (by decide) rfl tw_587 tw_6 tw_585 hx hb hml hts hown hK ⟨Nat.le_trans (by decide) hR.1, Nat.le_trans (by decide) hR.2⟩ hZ (hZ.k 2 rfl rfl) rfl hl.1 rfl (Nat.le_of_ble_eq_true rfl) rfl dX3_layByRoute_30 ?_; clear hZ; intro H locs cells slots hX hZ
    refine lv_istore (i := 4) (lv' := [(4, .int r8), (3, .int v3), (0, .ref this), (1, .int p0), (2, .int p1)]) hx hb dX3_layByRoute_33 hl (by decide) rfl ?_; clear hl; intro ls hl
    refine lv_iload hx hb dX3_layByRoute_35 (lv_at hl 0 rfl) ?_
    refine lv_if_ge (tgt := 51) hx hb dX3_layByRoute_37 (by decide) (fun h9 => ?_) (fun h9 => ?_)
    · replace hf := wd_ite_p h9 hf
      refine lv_aload_n (i := 0) hx hb dX3_layByRoute_51 rfl (lv_at hl 2 rfl) ?_
      refine lv_iload_n (i := 1) hx hb dX3_layByRoute_52 rfl (lv_at hl 3 rfl) ?_
      refine lv_iload hx hb dX3_layByRoute_53 (lv_at hl 0 rfl) ?_
      refine lv_iload_n (i := 3) hx hb dX3_layByRoute_55 rfl (lv_at hl 1 rfl) ?_
      refine lv_aload_n (i := 0) hx hb dX3_layByRoute_56 rfl (lv_at hl 2 rfl) ?_
      refine z_getR (tk := 20) fd_305 rfl hx hb hts hown hK hZ (hZ.k 2 rfl rfl) tw_82 dX3_layByRoute_57 ?_; clear hZ; intro hZ
      refine lv_iload_n (i := 2) hx hb dX3_layByRoute_60 rfl (lv_at hl 4 rfl) ?_
      have hf9 := Option.bind_eq_some_iff.mp hf; clear hf; obtain ⟨a10, ha10, hf⟩ := hf9
      replace hZ := hZ.add (r := some a10) (k := 21) (Nat.succ_ne_zero _) (fun q hq => by cases hq; exact hZ.k 0 rfl ha10)
      rw [ha10]
      have hf9 := wd_gd_e hf; clear hf; obtain ⟨h11, hf⟩ := hf9
      refine z_iald hx hb hK hZ (hZ.k 0 rfl rfl) h11 dX3_layByRoute_61 ?_
      have hf9 := Option.bind_eq_some_iff.mp hf; clear hf; obtain ⟨w12, hc13, hf⟩ := hf9
      refine z_callV (ci := 3) (As := [.int p0, .int r8, .int v3, .int (wd_A w6 a10 p1.toNatClampNeg)]) (rest := []) (c_X3_layWay l E n w6 this p0 r8 v3 (wd_A w6 a10 p1.toNatClampNeg) w12 (hZ.k 4 rfl rfl) hc13) mo_X3_layWay rfl (by decide) rfl tw_603 tw_9 tw_601 hx hb hml hts hown hK ⟨Nat.le_trans (by decide) hR.1, Nat.le_trans (by decide) hR.2⟩ hZ (hZ.k 4 rfl rfl) rfl hl.1 rfl (Nat.le_of_ble_eq_true rfl) rfl dX3_layByRoute_62 ?_; clear hZ; intro H locs cells slots hX hZ
      obtain rfl := Option.some.inj hf
      exact z_vret hx hb hr hlocks hZ trivial dX3_layByRoute_65
    · replace hf := wd_ite_n h9 hf
      refine lv_aload_n (i := 0) hx hb dX3_layByRoute_40 rfl (lv_at hl 2 rfl) ?_
      refine lv_iload_n (i := 1) hx hb dX3_layByRoute_41 rfl (lv_at hl 3 rfl) ?_
      refine lv_iconst (v := -1) hx hb dX3_layByRoute_42 (by decide) ?_
      refine lv_iconst (v := -1) hx hb dX3_layByRoute_43 (by decide) ?_
      refine lv_iconst (v := -1) hx hb dX3_layByRoute_44 (by decide) ?_
      have hf9 := Option.bind_eq_some_iff.mp hf; clear hf; obtain ⟨w14, hc15, hf⟩ := hf9
      refine z_callV (ci := 3) (As := [.int p0, .int (-1 : Int32), .int (-1 : Int32), .int (-1 : Int32)]) (rest := []) (c_X3_layWay l E n w6 this p0 (-1 : Int32) (-1 : Int32) (-1 : Int32) w14 (hZ.k 2 rfl rfl) hc15) mo_X3_layWay rfl (by decide) rfl tw_603 tw_9 tw_601 hx hb hml hts hown hK ⟨Nat.le_trans (by decide) hR.1, Nat.le_trans (by decide) hR.2⟩ hZ (hZ.k 2 rfl rfl) rfl hl.1 rfl (Nat.le_of_ble_eq_true rfl) rfl dX3_layByRoute_45 ?_; clear hZ; intro H locs cells slots hX hZ
      refine lv_goto (tgt := 65) hx hb dX3_layByRoute_48 (by decide) ?_
      obtain rfl := Option.some.inj hf
      exact z_vret hx hb hr hlocks hZ trivial dX3_layByRoute_65
  · replace hf := wd_ite_n h5 hf
    refine lv_aload_n (i := 0) hx hb dX3_layByRoute_11 rfl (lv_at hl 1 rfl) ?_
    refine lv_iload_n (i := 1) hx hb dX3_layByRoute_12 rfl (lv_at hl 2 rfl) ?_
    refine lv_bipush (v := -2) hx hb dX3_layByRoute_13 (by decide) ?_
    refine lv_iconst (v := -1) hx hb dX3_layByRoute_15 (by decide) ?_
    refine lv_iload_n (i := 3) hx hb dX3_layByRoute_16 rfl (lv_at hl 0 rfl) ?_
    refine lv_isub hx hb dX3_layByRoute_17 ?_
    refine lv_aload_n (i := 0) hx hb dX3_layByRoute_18 rfl (lv_at hl 1 rfl) ?_
    refine z_getR (tk := 20) fd_305 rfl hx hb hts hown hK hZ (hZ.k 2 rfl rfl) tw_82 dX3_layByRoute_19 ?_; clear hZ; intro hZ
    refine lv_iload_n (i := 2) hx hb dX3_layByRoute_22 rfl (lv_at hl 3 rfl) ?_
    have hf9 := Option.bind_eq_some_iff.mp hf; clear hf; obtain ⟨a16, ha16, hf⟩ := hf9
    replace hZ := hZ.add (r := some a16) (k := 21) (Nat.succ_ne_zero _) (fun q hq => by cases hq; exact hZ.k 0 rfl ha16)
    rw [ha16]
    have hf9 := wd_gd_e hf; clear hf; obtain ⟨h17, hf⟩ := hf9
    refine z_iald hx hb hK hZ (hZ.k 0 rfl rfl) h17 dX3_layByRoute_23 ?_
    have hf9 := Option.bind_eq_some_iff.mp hf; clear hf; obtain ⟨w18, hc19, hf⟩ := hf9
    refine z_callV (ci := 3) (As := [.int p0, .int (-2 : Int32), .int ((-1 : Int32) - v3), .int (wd_A w a16 p1.toNatClampNeg)]) (rest := []) (c_X3_layWay l E n w this p0 (-2 : Int32) ((-1 : Int32) - v3) (wd_A w a16 p1.toNatClampNeg) w18 (hZ.k 4 rfl rfl) hc19) mo_X3_layWay rfl (by decide) rfl tw_603 tw_9 tw_601 hx hb hml hts hown hK ⟨Nat.le_trans (by decide) hR.1, Nat.le_trans (by decide) hR.2⟩ hZ (hZ.k 4 rfl rfl) rfl hl.1 rfl (Nat.le_of_ble_eq_true rfl) rfl dX3_layByRoute_24 ?_; clear hZ; intro H locs cells slots hX hZ
    obtain rfl := Option.some.inj hf
    exact z_vret hx hb hr hlocks hZ trivial dX3_layByRoute_27

def f_X3_layWays_j86 (n : Nat) (rec2 : Nat → Int32 → Wd → Option Wd) (x0 : Nat) (x1 : Int32) (w : Wd) : Option Wd :=
  wd_let (x1 + 1) fun v16 =>
  rec2 x0 v16 w
def f_X3_layWays_j81 (n : Nat) (rec2 : Nat → Int32 → Wd → Option Wd) (y0 : Int32) (y1 : Int32) (y2 : Int32) (y3 : Nat) (x0 : Nat) (x1 : Int32) (x4 : Int32) (w : Wd) : Option Wd :=
  Option.bind (f_X3_layWay n w y3 y2 y1 y0 x4) fun w14 =>
  f_X3_layWays_j86 n rec2 x0 x1 w14
def f_X3_layWays_j69 (n : Nat) (rec2 : Nat → Int32 → Wd → Option Wd) (x0 : Nat) (x1 : Int32) (x2 : Int32) (x3 : Option Nat) (x4 : Int32) (w : Wd) : Option Wd :=
  wd_on x3 (
    f_X3_layWays_j81 n rec2 (-1 : Int32) x2 x1 x0 x0 x1 x4 w)
    (fun a13 =>
    f_X3_layWays_j81 n rec2 x1 x2 x1 x0 x0 x1 x4 w)
def f_X3_layWays_j33 (n : Nat) (rec2 : Nat → Int32 → Wd → Option Wd) (y0 : Int32) (x0 : Nat) (x1 : Int32) (x2 : Int32) (x3 : Option Nat) (w : Wd) : Option Wd :=
  wd_b2 (f_X3_routeFor n w x0 x1) fun r11 w9 =>
  if r11 < 0 then
    f_X3_layWays_j69 n rec2 x0 x1 x2 x3 y0 w9
  else
    Option.bind (wd_R w9 305 x0) fun a18 =>
    wd_gd (r11 < 0 ∨ wd_N w9 a18 ≤ r11.toNatClampNeg) <|
    if (wd_A w9 a18 r11.toNatClampNeg) ≤ y0 then
      f_X3_layWays_j69 n rec2 x0 x1 x2 x3 y0 w9
    else
      Option.bind (f_X3_layByRoute n w9 x0 x1 r11) fun w21 =>
      f_X3_layWays_j86 n rec2 x0 x1 w21
def f_X3_layWays_l2 (n : Nat) (rec2 : Nat → Int32 → Wd → Option Wd) (x0 : Nat) (x1 : Int32) (w : Wd) : Option Wd :=
  if (256 : Int32) ≤ x1 then
    some w
  else
    wd_b2 (f_X3_portWithNetOf n w x0 x1) fun r4 w2 =>
    wd_b2 (f_X3_port n w2 x0 r4) fun r7 w5 =>
    wd_on r7 (
      f_X3_layWays_j33 n rec2 (-1 : Int32) x0 x1 r4 none w5)
      (fun a8 =>
      f_X3_layWays_j33 n rec2 (wd_I w5 703 a8) x0 x1 r4 (some a8) w5)
def f_X3_layWays (n : Nat) (w : Wd) (this : Nat) : Option Wd :=
  wd_lp3 (f_X3_layWays_l2 n) n this (0 : Int32) w
set_option maxHeartbeats 4000000 in
set_option maxRecDepth 100000 in
theorem v_X3_layWays_j86 {p : Program} {l : Launch} {e : Env} {R : Room} {s : State} {m : MethodId} {args : Array Value} {below : List Frame} {meth : Method} {c : Code} {E : wd_E} {w0 : Wd} {w' : Wd} (n : Nat) (C : wd_X p s m args meth c cX3_layWays RX3 6 none "layWays" E) (hR : 3 ≤ R.frames ∧ 71 ≤ R.locals) (rec2 : Nat → Int32 → Wd → Option Wd) (hrec2 : ∀ (x0_ : Nat) (x1_ : Int32) (w_ : Wd) (H : Heap) (locs : List Loc) (cells slots : Nat) (ls : Array Slot), wd_Z E w0 R s w_ H locs cells slots [(some x0_, 4)] → lv_has ls 6 [(0, .ref x0_), (1, .int x1_)] → rec2 x0_ x1_ w_ = some w' → W p l e R s m args below meth c H locs cells slots (wd_fin E w0 none w' True R args s below) (F0 m 2 ls [])) (x0 : Nat) (x1 : Int32) (w : Wd) (H : Heap) (locs : List Loc) (cells slots : Nat) (ls : Array Slot) (hZ : wd_Z E w0 R s w H locs cells slots [(some x0, 4)]) (hl : lv_has ls 6 [(0, .ref x0), (1, .int x1)]) (hf : f_X3_layWays_j86 n rec2 x0 x1 w = some w') : W p l e R s m args below meth c H locs cells slots (wd_fin E w0 none w' True R args s below) (F0 m 86 ls []) := by
  obtain ⟨hx, hb, hr, hml, hts, hown, hlocks, hmn, hK⟩ := id C
  unfold f_X3_layWays_j86 at hf
  have hf9 := wd_let_e hf; clear hf; obtain ⟨v16, e17, hf⟩ := hf9
  refine lv_iinc (k := 1) (v := v16) (lv' := [(1, .int v16), (0, .ref x0)]) hx hb dX3_layWays_86 hl rfl (by rw [← e17]; rfl) (by decide) rfl ?_; clear hl; intro ls hl
  refine lv_goto (tgt := 2) hx hb dX3_layWays_89 (by decide) ?_
  exact hrec2 x0 v16 w _ _ _ _ _ ⟨hZ.1, hZ.2.1, hZ.2.2.1, hZ.2.2.2.1, (List.forall_mem_cons.mpr ⟨⟨Nat.succ_ne_zero _, (fun q hq => by cases hq; exact (hZ.k 0 rfl rfl))⟩, (fun _ hq => absurd hq List.not_mem_nil)⟩), hZ.2.2.2.2.2⟩ (lv_sub hl [1, 0] rfl) hf

set_option maxHeartbeats 4000000 in
set_option maxRecDepth 100000 in
theorem v_X3_layWays_j81 {p : Program} {l : Launch} {e : Env} {R : Room} {s : State} {m : MethodId} {args : Array Value} {below : List Frame} {meth : Method} {c : Code} {E : wd_E} {w0 : Wd} {w' : Wd} (n : Nat) (C : wd_X p s m args meth c cX3_layWays RX3 6 none "layWays" E) (hR : 3 ≤ R.frames ∧ 71 ≤ R.locals) (rec2 : Nat → Int32 → Wd → Option Wd) (hrec2 : ∀ (x0_ : Nat) (x1_ : Int32) (w_ : Wd) (H : Heap) (locs : List Loc) (cells slots : Nat) (ls : Array Slot), wd_Z E w0 R s w_ H locs cells slots [(some x0_, 4)] → lv_has ls 6 [(0, .ref x0_), (1, .int x1_)] → rec2 x0_ x1_ w_ = some w' → W p l e R s m args below meth c H locs cells slots (wd_fin E w0 none w' True R args s below) (F0 m 2 ls [])) (y0 : Int32) (y1 : Int32) (y2 : Int32) (y3 : Nat) (x0 : Nat) (x1 : Int32) (x4 : Int32) (w : Wd) (H : Heap) (locs : List Loc) (cells slots : Nat) (ls : Array Slot) (hZ : wd_Z E w0 R s w H locs cells slots [(some y3, 4), (some x0, 4)]) (hl : lv_has ls 6 [(0, .ref x0), (1, .int x1), (4, .int x4)]) (hf : f_X3_layWays_j81 n rec2 y0 y1 y2 y3 x0 x1 x4 w = some w') : W p l e R s m args below meth c H locs cells slots (wd_fin E w0 none w' True R args s below) (F0 m 81 ls [.int y0, .int y1, .int y2, .ref y3]) := by
  obtain ⟨hx, hb, hr, hml, hts, hown, hlocks, hmn, hK⟩ := id C
  unfold f_X3_layWays_j81 at hf
  refine lv_iload hx hb dX3_layWays_81 (lv_at hl 2 rfl) ?_
  have hf9 := Option.bind_eq_some_iff.mp hf; clear hf; obtain ⟨w14, hc15, hf⟩ := hf9
  refine z_callV (ci := 3) (As := [.int y2, .int y1, .int y0, .int x4]) (rest := []) (c_X3_layWay l E n w y3 y2 y1 y0 x4 w14 (hZ.k 0 rfl rfl) hc15) mo_X3_layWay rfl (by decide) rfl tw_603 tw_9 tw_601 hx hb hml hts hown hK ⟨Nat.le_trans (by decide) hR.1, Nat.le_trans (by decide) hR.2⟩ hZ (hZ.k 0 rfl rfl) rfl hl.1 rfl (Nat.le_of_ble_eq_true rfl) rfl dX3_layWays_83 ?_; clear hZ; intro H locs cells slots hX hZ
  exact v_X3_layWays_j86 n C hR rec2 hrec2 x0 x1 w14 _ _ _ _ _ ⟨hZ.1, hZ.2.1, hZ.2.2.1, hZ.2.2.2.1, (List.forall_mem_cons.mpr ⟨⟨Nat.succ_ne_zero _, (fun q hq => by cases hq; exact (hZ.k 1 rfl rfl))⟩, (fun _ hq => absurd hq List.not_mem_nil)⟩), hZ.2.2.2.2.2⟩ (lv_sub hl [0, 1] rfl) hf

set_option maxHeartbeats 4000000 in
set_option maxRecDepth 100000 in
theorem v_X3_layWays_j69 {p : Program} {l : Launch} {e : Env} {R : Room} {s : State} {m : MethodId} {args : Array Value} {below : List Frame} {meth : Method} {c : Code} {E : wd_E} {w0 : Wd} {w' : Wd} (n : Nat) (C : wd_X p s m args meth c cX3_layWays RX3 6 none "layWays" E) (hR : 3 ≤ R.frames ∧ 71 ≤ R.locals) (rec2 : Nat → Int32 → Wd → Option Wd) (hrec2 : ∀ (x0_ : Nat) (x1_ : Int32) (w_ : Wd) (H : Heap) (locs : List Loc) (cells slots : Nat) (ls : Array Slot), wd_Z E w0 R s w_ H locs cells slots [(some x0_, 4)] → lv_has ls 6 [(0, .ref x0_), (1, .int x1_)] → rec2 x0_ x1_ w_ = some w' → W p l e R s m args below meth c H locs cells slots (wd_fin E w0 none w' True R args s below) (F0 m 2 ls [])) (x0 : Nat) (x1 : Int32) (x2 : Int32) (x3 : Option Nat) (x4 : Int32) (w : Wd) (H : Heap) (locs : List Loc) (cells slots : Nat) (ls : Array Slot) (hZ : wd_Z E w0 R s w H locs cells slots [(some x0, 4), (x3, 8)]) (hl : lv_has ls 6 [(0, .ref x0), (1, .int x1), (2, .int x2), (3, va_rf x3), (4, .int x4)]) (hf : f_X3_layWays_j69 n rec2 x0 x1 x2 x3 x4 w = some w') : W p l e R s m args below meth c H locs cells slots (wd_fin E w0 none w' True R args s below) (F0 m 69 ls []) := by
  obtain ⟨hx, hb, hr, hml, hts, hown, hlocks, hmn, hK⟩ := id C
  unfold f_X3_layWays_j69 at hf
  refine lv_aload_n (i := 0) hx hb dX3_layWays_69 rfl (lv_at hl 0 rfl) ?_
  refine lv_iload_n (i := 1) hx hb dX3_layWays_70 rfl (lv_at hl 1 rfl) ?_
  refine lv_iload_n (i := 2) hx hb dX3_layWays_71 rfl (lv_at hl 2 rfl) ?_
  refine z_aload_n (i := 3) hx hb dX3_layWays_72 rfl (lv_at hl 3 rfl) ?_
  refine z_ifnonnull (tgt := 80) hx hb dX3_layWays_73 (by decide) (fun a13 ha13 => ?_) (fun hn => ?_)
  · replace hf := wd_on_s ha13 hf
    subst ha13
    replace hl : lv_has ls 6 [(0, .ref x0), (1, .int x1), (2, .int x2), (3, .ref a13), (4, .int x4)] := hl
    replace hZ : wd_Z E w0 R s w H locs cells slots [(some x0, 4), (some a13, 8)] := hZ
    refine lv_iload_n (i := 1) hx hb dX3_layWays_80 rfl (lv_at hl 1 rfl) ?_
    exact v_X3_layWays_j81 n C hR rec2 hrec2 x1 x2 x1 x0 x0 x1 x4 w _ _ _ _ _ ⟨hZ.1, hZ.2.1, hZ.2.2.1, hZ.2.2.2.1, (List.forall_mem_cons.mpr ⟨⟨Nat.succ_ne_zero _, (fun q hq => by cases hq; exact (hZ.k 0 rfl rfl))⟩, (List.forall_mem_cons.mpr ⟨⟨Nat.succ_ne_zero _, (fun q hq => by cases hq; exact (hZ.k 0 rfl rfl))⟩, (fun _ hq => absurd hq List.not_mem_nil)⟩)⟩), hZ.2.2.2.2.2⟩ (lv_sub hl [0, 1, 4] rfl) hf
  · replace hf := wd_on_n hn hf
    subst hn
    replace hl : lv_has ls 6 [(0, .ref x0), (1, .int x1), (2, .int x2), (3, va_rf none), (4, .int x4)] := hl
    replace hZ : wd_Z E w0 R s w H locs cells slots [(some x0, 4), (none, 8)] := hZ
    refine lv_iconst (v := -1) hx hb dX3_layWays_76 (by decide) ?_
    refine lv_goto (tgt := 81) hx hb dX3_layWays_77 (by decide) ?_
    exact v_X3_layWays_j81 n C hR rec2 hrec2 (-1 : Int32) x2 x1 x0 x0 x1 x4 w _ _ _ _ _ ⟨hZ.1, hZ.2.1, hZ.2.2.1, hZ.2.2.2.1, (List.forall_mem_cons.mpr ⟨⟨Nat.succ_ne_zero _, (fun q hq => by cases hq; exact (hZ.k 0 rfl rfl))⟩, (List.forall_mem_cons.mpr ⟨⟨Nat.succ_ne_zero _, (fun q hq => by cases hq; exact (hZ.k 0 rfl rfl))⟩, (fun _ hq => absurd hq List.not_mem_nil)⟩)⟩), hZ.2.2.2.2.2⟩ (lv_sub hl [0, 1, 4] rfl) hf

set_option maxHeartbeats 4000000 in
set_option maxRecDepth 100000 in
theorem v_X3_layWays_j33 {p : Program} {l : Launch} {e : Env} {R : Room} {s : State} {m : MethodId} {args : Array Value} {below : List Frame} {meth : Method} {c : Code} {E : wd_E} {w0 : Wd} {w' : Wd} (n : Nat) (C : wd_X p s m args meth c cX3_layWays RX3 6 none "layWays" E) (hR : 3 ≤ R.frames ∧ 71 ≤ R.locals) (rec2 : Nat → Int32 → Wd → Option Wd) (hrec2 : ∀ (x0_ : Nat) (x1_ : Int32) (w_ : Wd) (H : Heap) (locs : List Loc) (cells slots : Nat) (ls : Array Slot), wd_Z E w0 R s w_ H locs cells slots [(some x0_, 4)] → lv_has ls 6 [(0, .ref x0_), (1, .int x1_)] → rec2 x0_ x1_ w_ = some w' → W p l e R s m args below meth c H locs cells slots (wd_fin E w0 none w' True R args s below) (F0 m 2 ls [])) (y0 : Int32) (x0 : Nat) (x1 : Int32) (x2 : Int32) (x3 : Option Nat) (w : Wd) (H : Heap) (locs : List Loc) (cells slots : Nat) (ls : Array Slot) (hZ : wd_Z E w0 R s w H locs cells slots [(some x0, 4), (x3, 8)]) (hl : lv_has ls 6 [(0, .ref x0), (1, .int x1), (2, .int x2), (3, va_rf x3)]) (hf : f_X3_layWays_j33 n rec2 y0 x0 x1 x2 x3 w = some w') : W p l e R s m args below meth c H locs cells slots (wd_fin E w0 none w' True R args s below) (F0 m 33 ls [.int y0]) := by
  obtain ⟨hx, hb, hr, hml, hts, hown, hlocks, hmn, hK⟩ := id C
  unfold f_X3_layWays_j33 at hf
  refine lv_istore (i := 4) (lv' := [(4, .int y0), (0, .ref x0), (1, .int x1), (2, .int x2), (3, va_rf x3)]) hx hb dX3_layWays_33 hl (by decide) (by simp [va_rf_cat, va_cat_r, va_cat_i, va_cat_l, va_cat_d]) ?_; clear hl; intro ls hl
  refine lv_aload_n (i := 0) hx hb dX3_layWays_35 rfl (lv_at hl 1 rfl) ?_
  refine lv_iload_n (i := 1) hx hb dX3_layWays_36 rfl (lv_at hl 2 rfl) ?_
  have hf9 := wd_b2_e hf; clear hf; obtain ⟨r11, w9, hc10, hf⟩ := hf9
  refine z_callV (ci := 3) (As := [.int x1]) (rest := []) (c_X3_routeFor l E n w x0 x1 r11 w9 (hZ.k 0 rfl rfl) hc10) mo_X3_routeFor rfl (by decide) rfl tw_595 tw_7 tw_593 hx hb hml hts hown hK ⟨Nat.le_trans (by decide) hR.1, Nat.le_trans (by decide) hR.2⟩ hZ (hZ.k 0 rfl rfl) rfl hl.1 rfl (Nat.le_of_ble_eq_true rfl) rfl dX3_layWays_37 ?_; clear hZ; intro H locs cells slots hX hZ
  refine lv_istore (i := 5) (lv' := [(5, .int r11), (4, .int y0), (0, .ref x0), (1, .int x1), (2, .int x2), (3, va_rf x3)]) hx hb dX3_layWays_40 hl (by decide) rfl ?_; clear hl; intro ls hl
  refine lv_iload hx hb dX3_layWays_42 (lv_at hl 0 rfl) ?_
  refine lv_if_lt (tgt := 69) hx hb dX3_layWays_44 (by decide) (fun h12 => ?_) (fun h12 => ?_)
  · replace hf := wd_ite_p h12 hf
    exact v_X3_layWays_j69 n C hR rec2 hrec2 x0 x1 x2 x3 y0 w9 _ _ _ _ _ ⟨hZ.1, hZ.2.1, hZ.2.2.1, hZ.2.2.2.1, (List.forall_mem_cons.mpr ⟨⟨Nat.succ_ne_zero _, (fun q hq => by cases hq; exact (hZ.k 0 rfl rfl))⟩, (List.forall_mem_cons.mpr ⟨⟨Nat.succ_ne_zero _, (fun q hq => hZ.k 1 rfl hq)⟩, (fun _ hq => absurd hq List.not_mem_nil)⟩)⟩), hZ.2.2.2.2.2⟩ (lv_sub hl [2, 3, 4, 5, 1] rfl) hf
  · replace hf := wd_ite_n h12 hf
    refine lv_aload_n (i := 0) hx hb dX3_layWays_47 rfl (lv_at hl 2 rfl) ?_
    refine z_getR (tk := 20) fd_305 rfl hx hb hts hown hK hZ (hZ.k 0 rfl rfl) tw_82 dX3_layWays_48 ?_; clear hZ; intro hZ
    refine lv_iload hx hb dX3_layWays_51 (lv_at hl 0 rfl) ?_
    have hf9 := Option.bind_eq_some_iff.mp hf; clear hf; obtain ⟨a18, ha18, hf⟩ := hf9
    replace hZ := hZ.add (r := some a18) (k := 21) (Nat.succ_ne_zero _) (fun q hq => by cases hq; exact hZ.k 0 rfl ha18)
    rw [ha18]
    have hf9 := wd_gd_e hf; clear hf; obtain ⟨h19, hf⟩ := hf9
    refine z_iald hx hb hK hZ (hZ.k 0 rfl rfl) h19 dX3_layWays_53 ?_
    refine lv_iload hx hb dX3_layWays_54 (lv_at hl 1 rfl) ?_
    refine lv_icmp_le (tgt := 69) hx hb dX3_layWays_56 (by decide) (fun h20 => ?_) (fun h20 => ?_)
    · replace hf := wd_ite_p h20 hf
      exact v_X3_layWays_j69 n C hR rec2 hrec2 x0 x1 x2 x3 y0 w9 _ _ _ _ _ ⟨hZ.1, hZ.2.1, hZ.2.2.1, hZ.2.2.2.1, (List.forall_mem_cons.mpr ⟨⟨Nat.succ_ne_zero _, (fun q hq => by cases hq; exact (hZ.k 2 rfl rfl))⟩, (List.forall_mem_cons.mpr ⟨⟨Nat.succ_ne_zero _, (fun q hq => hZ.k 3 rfl hq)⟩, (fun _ hq => absurd hq List.not_mem_nil)⟩)⟩), hZ.2.2.2.2.2⟩ (lv_sub hl [2, 3, 4, 5, 1] rfl) hf
    · replace hf := wd_ite_n h20 hf
      refine lv_aload_n (i := 0) hx hb dX3_layWays_59 rfl (lv_at hl 2 rfl) ?_
      refine lv_iload_n (i := 1) hx hb dX3_layWays_60 rfl (lv_at hl 3 rfl) ?_
      refine lv_iload hx hb dX3_layWays_61 (lv_at hl 0 rfl) ?_
      have hf9 := Option.bind_eq_some_iff.mp hf; clear hf; obtain ⟨w21, hc22, hf⟩ := hf9
      refine z_callV (ci := 3) (As := [.int x1, .int r11]) (rest := []) (c_X3_layByRoute l E n w9 x0 x1 r11 w21 (hZ.k 2 rfl rfl) hc22) mo_X3_layByRoute rfl (by decide) rfl tw_599 tw_8 tw_597 hx hb hml hts hown hK ⟨Nat.le_trans (by decide) hR.1, Nat.le_trans (by decide) hR.2⟩ hZ (hZ.k 2 rfl rfl) rfl hl.1 rfl (Nat.le_of_ble_eq_true rfl) rfl dX3_layWays_63 ?_; clear hZ; intro H locs cells slots hX hZ
      refine lv_goto (tgt := 86) hx hb dX3_layWays_66 (by decide) ?_
      exact v_X3_layWays_j86 n C hR rec2 hrec2 x0 x1 w21 _ _ _ _ _ ⟨hZ.1, hZ.2.1, hZ.2.2.1, hZ.2.2.2.1, (List.forall_mem_cons.mpr ⟨⟨Nat.succ_ne_zero _, (fun q hq => by cases hq; exact (hZ.k 2 rfl rfl))⟩, (fun _ hq => absurd hq List.not_mem_nil)⟩), hZ.2.2.2.2.2⟩ (lv_sub hl [2, 3] rfl) hf

set_option maxHeartbeats 4000000 in
set_option maxRecDepth 100000 in
theorem v_X3_layWays_b2 {p : Program} {l : Launch} {e : Env} {R : Room} {s : State} {m : MethodId} {args : Array Value} {below : List Frame} {meth : Method} {c : Code} {E : wd_E} {w0 : Wd} {w' : Wd} (n : Nat) (C : wd_X p s m args meth c cX3_layWays RX3 6 none "layWays" E) (hR : 3 ≤ R.frames ∧ 71 ≤ R.locals) (rec2 : Nat → Int32 → Wd → Option Wd) (hrec2 : ∀ (x0_ : Nat) (x1_ : Int32) (w_ : Wd) (H : Heap) (locs : List Loc) (cells slots : Nat) (ls : Array Slot), wd_Z E w0 R s w_ H locs cells slots [(some x0_, 4)] → lv_has ls 6 [(0, .ref x0_), (1, .int x1_)] → rec2 x0_ x1_ w_ = some w' → W p l e R s m args below meth c H locs cells slots (wd_fin E w0 none w' True R args s below) (F0 m 2 ls [])) (x0 : Nat) (x1 : Int32) (w : Wd) (H : Heap) (locs : List Loc) (cells slots : Nat) (ls : Array Slot) (hZ : wd_Z E w0 R s w H locs cells slots [(some x0, 4)]) (hl : lv_has ls 6 [(0, .ref x0), (1, .int x1)]) (hf : f_X3_layWays_l2 n rec2 x0 x1 w = some w') : W p l e R s m args below meth c H locs cells slots (wd_fin E w0 none w' True R args s below) (F0 m 2 ls []) := by
  obtain ⟨hx, hb, hr, hml, hts, hown, hlocks, hmn, hK⟩ := id C
  unfold f_X3_layWays_l2 at hf
  refine lv_iload_n (i := 1) hx hb dX3_layWays_2 rfl (lv_at hl 1 rfl) ?_
  refine lv_sipush (v := 256) hx hb dX3_layWays_3 (by decide) ?_
  refine lv_icmp_ge (tgt := 92) hx hb dX3_layWays_6 (by decide) (fun h1 => ?_) (fun h1 => ?_)
  · replace hf := wd_ite_p h1 hf
    obtain rfl := Option.some.inj hf
    exact z_vret hx hb hr hlocks hZ trivial dX3_layWays_92
  · replace hf := wd_ite_n h1 hf
    refine lv_aload_n (i := 0) hx hb dX3_layWays_9 rfl (lv_at hl 0 rfl) ?_
    refine lv_iload_n (i := 1) hx hb dX3_layWays_10 rfl (lv_at hl 1 rfl) ?_
    have hf9 := wd_b2_e hf; clear hf; obtain ⟨r4, w2, hc3, hf⟩ := hf9
    refine z_callV (ci := 3) (As := [.int x1]) (rest := []) (c_X3_portWithNetOf l E n w x0 x1 r4 w2 (hZ.k 0 rfl rfl) hc3) mo_X3_portWithNetOf rfl (by decide) rfl tw_587 tw_6 tw_585 hx hb hml hts hown hK ⟨Nat.le_trans (by decide) hR.1, Nat.le_trans (by decide) hR.2⟩ hZ (hZ.k 0 rfl rfl) rfl hl.1 rfl (Nat.le_of_ble_eq_true rfl) rfl dX3_layWays_11 ?_; clear hZ; intro H locs cells slots hX hZ
    refine lv_istore_n (i := 2) (lv' := [(2, .int r4), (0, .ref x0), (1, .int x1)]) hx hb dX3_layWays_14 rfl hl (by decide) rfl ?_; clear hl; intro ls hl
    refine lv_aload_n (i := 0) hx hb dX3_layWays_15 rfl (lv_at hl 1 rfl) ?_
    refine lv_iload_n (i := 2) hx hb dX3_layWays_16 rfl (lv_at hl 0 rfl) ?_
    have hf9 := wd_b2_e hf; clear hf; obtain ⟨r7, w5, hc6, hf⟩ := hf9
    refine z_callV (ci := 3) (As := [.int r4]) (rest := []) (c_X3_port l E n w2 x0 r4 r7 w5 (hZ.k 0 rfl rfl) hc6) mo_X3_port rfl (by decide) rfl tw_488 tw_489 tw_592 hx hb hml hts hown hK ⟨Nat.le_trans (by decide) hR.1, Nat.le_trans (by decide) hR.2⟩ hZ (hZ.k 0 rfl rfl) rfl hl.1 rfl (Nat.le_of_ble_eq_true rfl) rfl dX3_layWays_17 ?_; clear hZ; intro H locs cells slots hX hZ
    replace hZ := hZ.add (Nat.succ_ne_zero _) hX
    refine z_astore_n (i := 3) (lv' := [(3, va_rf r7), (2, .int r4), (0, .ref x0), (1, .int x1)]) hx hb dX3_layWays_20 rfl hl (by decide) rfl ?_; clear hl; intro ls hl
    refine z_aload_n (i := 3) hx hb dX3_layWays_21 rfl (lv_at hl 0 rfl) ?_
    refine z_ifnonnull (tgt := 29) hx hb dX3_layWays_22 (by decide) (fun a8 ha8 => ?_) (fun hn => ?_)
    · replace hf := wd_on_s ha8 hf
      subst ha8
      replace hl : lv_has ls 6 [(3, .ref a8), (2, .int r4), (0, .ref x0), (1, .int x1)] := hl
      replace hZ : wd_Z E w0 R s w5 H locs cells slots [(some a8, 8), (some x0, 4)] := hZ
      refine lv_aload_n (i := 3) hx hb dX3_layWays_29 rfl (lv_at hl 0 rfl) ?_
      refine z_getI fd_703 rfl hx hb hts hown hK hZ (hZ.k 0 rfl rfl) tw_571 dX3_layWays_30 ?_
      exact v_X3_layWays_j33 n C hR rec2 hrec2 (wd_I w5 703 a8) x0 x1 r4 (some a8) w5 _ _ _ _ _ ⟨hZ.1, hZ.2.1, hZ.2.2.1, hZ.2.2.2.1, (List.forall_mem_cons.mpr ⟨⟨Nat.succ_ne_zero _, (fun q hq => by cases hq; exact (hZ.k 1 rfl rfl))⟩, (List.forall_mem_cons.mpr ⟨⟨Nat.succ_ne_zero _, (fun q hq => by cases hq; exact (hZ.k 0 rfl rfl))⟩, (fun _ hq => absurd hq List.not_mem_nil)⟩)⟩), hZ.2.2.2.2.2⟩ (lv_sub hl [2, 3, 1, 0] rfl) hf
    · replace hf := wd_on_n hn hf
      subst hn
      replace hl : lv_has ls 6 [(3, va_rf none), (2, .int r4), (0, .ref x0), (1, .int x1)] := hl
      replace hZ : wd_Z E w0 R s w5 H locs cells slots [(none, 8), (some x0, 4)] := hZ
      refine lv_iconst (v := -1) hx hb dX3_layWays_25 (by decide) ?_
      refine lv_goto (tgt := 33) hx hb dX3_layWays_26 (by decide) ?_
      exact v_X3_layWays_j33 n C hR rec2 hrec2 (-1 : Int32) x0 x1 r4 none w5 _ _ _ _ _ ⟨hZ.1, hZ.2.1, hZ.2.2.1, hZ.2.2.2.1, (List.forall_mem_cons.mpr ⟨⟨Nat.succ_ne_zero _, (fun q hq => by cases hq; exact (hZ.k 1 rfl rfl))⟩, (List.forall_mem_cons.mpr ⟨⟨Nat.succ_ne_zero _, (fun q hq => by cases hq)⟩, (fun _ hq => absurd hq List.not_mem_nil)⟩)⟩), hZ.2.2.2.2.2⟩ (lv_sub hl [2, 3, 1, 0] rfl) hf

theorem v_X3_layWays_l2 {p : Program} {l : Launch} {e : Env} {R : Room} {s : State} {m : MethodId} {args : Array Value} {below : List Frame} {meth : Method} {c : Code} {E : wd_E} {w0 : Wd} {w' : Wd} (n : Nat) (C : wd_X p s m args meth c cX3_layWays RX3 6 none "layWays" E) (hR : 3 ≤ R.frames ∧ 71 ≤ R.locals) : ∀ (k : Nat) (x0 : Nat) (x1 : Int32) (w : Wd) (H : Heap) (locs : List Loc) (cells slots : Nat) (ls : Array Slot), wd_Z E w0 R s w H locs cells slots [(some x0, 4)] → lv_has ls 6 [(0, .ref x0), (1, .int x1)] → wd_lp3 (f_X3_layWays_l2 n) k x0 x1 w = some w' → W p l e R s m args below meth c H locs cells slots (wd_fin E w0 none w' True R args s below) (F0 m 2 ls []) := by
  intro k
  induction k with
  | zero => intro _ _ _ _ _ _ _ _ _ _ hf; cases hf
  | succ k ih =>
    intro x0 x1 w H locs cells slots ls hZ hl hf
    exact v_X3_layWays_b2 n C hR (wd_lp3 (f_X3_layWays_l2 n) k) ih x0 x1 w H locs cells slots ls hZ hl hf

set_option maxHeartbeats 4000000 in
set_option maxRecDepth 100000 in
theorem c_X3_layWays (l : Launch) (E : wd_E) (n : Nat) (w : Wd) (this : Nat) (w' : Wd) (k_this : wd_K w this = 4) (hf : f_X3_layWays n w this = some w') : wd_C l E yX3_layWays cX3_layWays 6 none 3 71 [.ref this] w none w' True := by
  refine wd_ofW (own := RX3) (nm := "layWays") (ks := [(some this, 4)]) (lv := [(0, .ref this)]) (by decide) rfl rfl (Nat.le_of_ble_eq_true rfl) rfl (List.forall_mem_cons.mpr ⟨⟨Nat.succ_ne_zero _, fun q hq => by cases hq; exact k_this⟩, (fun _ hq => absurd hq List.not_mem_nil)⟩) ?_
  intro p e s m args below meth c R H locs cells slots ls C hR hZ hl
  obtain ⟨hx, hb, hr, hml, hts, hown, hlocks, hmn, hK⟩ := id C
  unfold f_X3_layWays at hf
  refine lv_iconst (v := 0) hx hb dX3_layWays_0 (by decide) ?_
  refine lv_istore_n (i := 1) (lv' := [(1, .int (0 : Int32)), (0, .ref this)]) hx hb dX3_layWays_1 rfl hl (by decide) rfl ?_; clear hl; intro ls hl
  exact v_X3_layWays_l2 n C hR n this (0 : Int32) w _ _ _ _ _ ⟨hZ.1, hZ.2.1, hZ.2.2.1, hZ.2.2.2.1, (List.forall_mem_cons.mpr ⟨⟨Nat.succ_ne_zero _, (fun q hq => by cases hq; exact (hZ.k 0 rfl rfl))⟩, (fun _ hq => absurd hq List.not_mem_nil)⟩), hZ.2.2.2.2.2⟩ (lv_sub hl [1, 0] rfl) hf

def f_X3_addNextPort (n : Nat) (w : Wd) (this : Nat) (p0 : Int32) (p1 : Int32) (p2 : Int32) : Option (Option Nat × Wd) :=
  if (wd_I w 303 this) < (4 : Int32) then
    wd_gd (wd_M w = 0 ∨ wd_S w < 4) <|
    wd_let (wd_H w) fun a3 =>
    wd_let (wd_nw w 8 0 4) fun w5 =>
    Option.bind (f_X7_init n w5 a3 (((4 : Int32) * (wd_I w5 300 this)) + (wd_I w5 303 this)) p0 p1 p2) fun w7 =>
    Option.bind (wd_R w7 302 this) fun a9 =>
    wd_gd ((wd_I w7 303 this) < 0 ∨ wd_N w7 a9 ≤ (wd_I w7 303 this).toNatClampNeg) <|
    wd_let (wd_sQ w7 a9 (wd_I w7 303 this).toNatClampNeg (some a3)) fun w11 =>
    wd_let (wd_sI w11 303 this ((wd_I w11 303 this) + (1 : Int32))) fun w13 =>
    Option.bind (f_X3_layWays n w13 this) fun w15 =>
    some ((some a3), w15)
  else
    some (none, w)
set_option maxHeartbeats 4000000 in
set_option maxRecDepth 100000 in
theorem c_X3_addNextPort (l : Launch) (E : wd_E) (n : Nat) (w : Wd) (this : Nat) (p0 : Int32) (p1 : Int32) (p2 : Int32) (r' : Option Nat) (w' : Wd) (k_this : wd_K w this = 4) (hf : f_X3_addNextPort n w this p0 p1 p2 = some (r', w')) : wd_C l E yX3_addNextPort cX3_addNextPort 5 (some (.object "SeamarkNet$Port")) 4 96 [.ref this, .int p0, .int p1, .int p2] w (some (va_rf r')) w' (∀ q, r' = some q → wd_K w' q = 8) := by
  refine wd_ofW (own := RX3) (nm := "addNextPort") (ks := [(some this, 4)]) (lv := [(0, .ref this), (1, .int p0), (2, .int p1), (3, .int p2)]) (by decide) rfl rfl (Nat.le_of_ble_eq_true rfl) rfl (List.forall_mem_cons.mpr ⟨⟨Nat.succ_ne_zero _, fun q hq => by cases hq; exact k_this⟩, (fun _ hq => absurd hq List.not_mem_nil)⟩) ?_
  intro p e s m args below meth c R H locs cells slots ls C hR hZ hl
  obtain ⟨hx, hb, hr, hml, hts, hown, hlocks, hmn, hK⟩ := id C
  unfold f_X3_addNextPort at hf
  refine lv_aload_n (i := 0) hx hb dX3_addNextPort_0 rfl (lv_at hl 0 rfl) ?_
  refine z_getI fd_303 rfl hx hb hts hown hK hZ (hZ.k 0 rfl rfl) tw_80 dX3_addNextPort_1 ?_
  refine lv_iconst (v := 4) hx hb dX3_addNextPort_4 (by decide) ?_
  refine lv_icmp_lt (tgt := 10) hx hb dX3_addNextPort_5 (by decide) (fun h1 => ?_) (fun h1 => ?_)
  · replace hf := wd_ite_p h1 hf
    have hf9 := wd_gd_e hf; clear hf; obtain ⟨h2, hf⟩ := hf9
    refine z_new cok_7 hx hb hts hown hK hZ tw_71 tw_554 tw_43 h2 dX3_addNextPort_10 ?_; clear hZ; intro H cells slots hZ
    have hf9 := wd_let_e hf; clear hf; obtain ⟨a3, e4, hf⟩ := hf9
    rw [e4]
    rw [e4] at hZ
    have hf9 := wd_let_e hf; clear hf; obtain ⟨w5, e6, hf⟩ := hf9
    rw [e6] at hZ
    refine lv_dup hx hb dX3_addNextPort_13 rfl ?_
    refine lv_iconst (v := 4) hx hb dX3_addNextPort_14 (by decide) ?_
    refine lv_aload_n (i := 0) hx hb dX3_addNextPort_15 rfl (lv_at hl 0 rfl) ?_
    refine z_getI fd_300 rfl hx hb hts hown hK hZ (hZ.k 1 rfl rfl) tw_75 dX3_addNextPort_16 ?_
    refine lv_imul hx hb dX3_addNextPort_19 ?_
    refine lv_aload_n (i := 0) hx hb dX3_addNextPort_20 rfl (lv_at hl 0 rfl) ?_
    refine z_getI fd_303 rfl hx hb hts hown hK hZ (hZ.k 1 rfl rfl) tw_80 dX3_addNextPort_21 ?_
    refine lv_iadd hx hb dX3_addNextPort_24 ?_
    refine lv_iload_n (i := 1) hx hb dX3_addNextPort_25 rfl (lv_at hl 1 rfl) ?_
    refine lv_iload_n (i := 2) hx hb dX3_addNextPort_26 rfl (lv_at hl 2 rfl) ?_
    refine lv_iload_n (i := 3) hx hb dX3_addNextPort_27 rfl (lv_at hl 3 rfl) ?_
    have hf9 := Option.bind_eq_some_iff.mp hf; clear hf; obtain ⟨w7, hc8, hf⟩ := hf9
    refine z_callI (As := [.int (((4 : Int32) * (wd_I w5 300 this)) + (wd_I w5 303 this)), .int p0, .int p1, .int p2]) (rest := [.ref a3]) (c_X7_init l E n w5 a3 (((4 : Int32) * (wd_I w5 300 this)) + (wd_I w5 303 this)) p0 p1 p2 w7 (hZ.k 0 rfl rfl) hc8) mo_X7_init rfl tw_556 tw_555 hx hb hml hts hown hK ⟨Nat.le_trans (by decide) hR.1, Nat.le_trans (by decide) hR.2⟩ hZ rfl hl.1 rfl (Nat.le_of_ble_eq_true rfl) dX3_addNextPort_28 ?_; clear hZ; intro H locs cells slots hX hZ
    refine lv_astore (i := 4) (lv' := [(4, .ref a3), (0, .ref this), (1, .int p0), (2, .int p1), (3, .int p2)]) hx hb dX3_addNextPort_31 hl (by decide) rfl ?_; clear hl; intro ls hl
    refine lv_aload_n (i := 0) hx hb dX3_addNextPort_33 rfl (lv_at hl 1 rfl) ?_
    refine z_getR (tk := 21) fd_302 rfl hx hb hts hown hK hZ (hZ.k 1 rfl rfl) tw_79 dX3_addNextPort_34 ?_; clear hZ; intro hZ
    refine lv_aload_n (i := 0) hx hb dX3_addNextPort_37 rfl (lv_at hl 1 rfl) ?_
    refine z_getI fd_303 rfl hx hb hts hown hK hZ (hZ.k 2 rfl rfl) tw_80 dX3_addNextPort_38 ?_
    refine lv_aload hx hb dX3_addNextPort_41 (lv_at hl 0 rfl) ?_
    have hf9 := Option.bind_eq_some_iff.mp hf; clear hf; obtain ⟨a9, ha9, hf⟩ := hf9
    replace hZ := hZ.add (r := some a9) (k := 22) (Nat.succ_ne_zero _) (fun q hq => by cases hq; exact hZ.k 0 rfl ha9)
    rw [ha9]
    have hf9 := wd_gd_e hf; clear hf; obtain ⟨h10, hf⟩ := hf9
    refine z_aast (k := 22) (ci := 7) (by decide) (by decide) rfl rfl (by decide) rfl hx hb hK hZ (hZ.k 0 rfl rfl) (hZ.k 2 rfl rfl) h10 dX3_addNextPort_43 ?_; clear hZ; intro H locs hZ
    have hf9 := wd_let_e hf; clear hf; obtain ⟨w11, e12, hf⟩ := hf9
    rw [e12] at hZ
    refine lv_aload_n (i := 0) hx hb dX3_addNextPort_44 rfl (lv_at hl 1 rfl) ?_
    refine lv_dup hx hb dX3_addNextPort_45 rfl ?_
    refine z_getI fd_303 rfl hx hb hts hown hK hZ (hZ.k 3 rfl rfl) tw_80 dX3_addNextPort_46 ?_
    refine lv_iconst (v := 1) hx hb dX3_addNextPort_49 (by decide) ?_
    refine lv_iadd hx hb dX3_addNextPort_50 ?_
    refine z_putI fd_303 cok_3 rfl rfl rfl rfl rfl hx hb hts hown hK hZ (hZ.k 3 rfl rfl) tw_80 dX3_addNextPort_51 ?_; clear hZ; intro H locs hZ
    have hf9 := wd_let_e hf; clear hf; obtain ⟨w13, e14, hf⟩ := hf9
    rw [e14] at hZ
    refine lv_aload_n (i := 0) hx hb dX3_addNextPort_54 rfl (lv_at hl 1 rfl) ?_
    have hf9 := Option.bind_eq_some_iff.mp hf; clear hf; obtain ⟨w15, hc16, hf⟩ := hf9
    refine z_callV (ci := 3) (As := []) (rest := []) (c_X3_layWays l E n w13 this w15 (hZ.k 3 rfl rfl) hc16) mo_X3_layWays rfl (by decide) rfl tw_583 tw_5 tw_581 hx hb hml hts hown hK ⟨Nat.le_trans (by decide) hR.1, Nat.le_trans (by decide) hR.2⟩ hZ (hZ.k 3 rfl rfl) rfl hl.1 rfl (Nat.le_of_ble_eq_true rfl) rfl dX3_addNextPort_55 ?_; clear hZ; intro H locs cells slots hX hZ
    refine lv_aload hx hb dX3_addNextPort_58 (lv_at hl 0 rfl) ?_
    obtain ⟨rfl, rfl⟩ := Prod.mk.inj (Option.some.inj hf)
    exact z_aret rfl hx hb hr hlocks hZ (fun q hq => by cases hq; exact (hZ.k 2 rfl rfl)) dX3_addNextPort_60
  · replace hf := wd_ite_n h1 hf
    refine z_null hx hb dX3_addNextPort_8 ?_
    obtain ⟨rfl, rfl⟩ := Prod.mk.inj (Option.some.inj hf)
    exact z_aret rfl hx hb hr hlocks hZ (fun q hq => by cases hq) dX3_addNextPort_9

