/-! ===== meanings and contracts, laid by wip/p33/gen ===== -/
def f_X9_deliverNext_j122 (n : Nat) (x0 : Nat) (x1 : Option Nat) (w : Wd) : Option (Int32 × Wd) :=
  Option.bind (wd_R w 900 x0) fun a18 =>
  Option.bind (f_X8_reuse n w a18 x1) fun w19 =>
  some ((1 : Int32), w19)
def f_X9_deliverNext_j53 (n : Nat) (x0 : Nat) (x1 : Option Nat) (w : Wd) : Option (Int32 × Wd) :=
  Option.bind x1 fun a9 =>
  if (wd_I w 3 a9) = (1 : Int32) then
    Option.bind (f_X9_hearQuestion n w x0 (some a9)) fun w28 =>
    f_X9_deliverNext_j122 n x0 (some a9) w28
  else
    if (wd_I w 3 a9) = (2 : Int32) then
      Option.bind (f_X9_hearReply n w x0 (some a9)) fun w26 =>
      f_X9_deliverNext_j122 n x0 (some a9) w26
    else
      wd_let (wd_sI w 903 x0 ((wd_I w 903 x0) + (1 : Int32))) fun w12 =>
      wd_b2 (f_X9_hostWithMark n w12 x0 (wd_I w12 2 a9)) fun r16 w14 =>
      wd_on r16 (
        f_X9_deliverNext_j122 n x0 (some a9) w14)
        (fun a17 =>
        wd_b2 (f_X9_come n w14 x0 (some a17) (wd_R w14 5 a9)) fun r23 w21 =>
        Option.bind (f_X9_goOut n w21 x0 (some a17) r23) fun w24 =>
        f_X9_deliverNext_j122 n x0 (some a9) w24)
def f_X9_deliverNext (n : Nat) (w : Wd) (this : Nat) : Option (Int32 × Wd) :=
  Option.bind (wd_R w 900 this) fun a1 =>
  wd_b2 (f_X8_takeFirst n w a1) fun r4 w2 =>
  wd_on r4 (
    some ((0 : Int32), w2))
    (fun a5 =>
    wd_let (wd_sI w2 902 this ((wd_I w2 902 this) + (1 : Int32))) fun w6 =>
    if (wd_I w6 0 a5) < 0 then
      f_X9_deliverNext_j53 n this (some a5) w6
    else
      if (8 : Int32) ≤ (wd_I w6 0 a5) then
        f_X9_deliverNext_j53 n this (some a5) w6
      else
        Option.bind (wd_R w6 907 this) fun a31 =>
        wd_gd ((wd_I w6 0 a5) < 0 ∨ wd_N w6 a31 ≤ (wd_I w6 0 a5).toNatClampNeg) <|
        wd_gd ((wd_I w6 0 a5) < 0 ∨ wd_N w6 a31 ≤ (wd_I w6 0 a5).toNatClampNeg) <|
        wd_let (wd_sA w6 a31 (wd_I w6 0 a5).toNatClampNeg ((wd_A w6 a31 (wd_I w6 0 a5).toNatClampNeg) + (1 : Int32))) fun w34 =>
        f_X9_deliverNext_j53 n this (some a5) w34)
set_option maxHeartbeats 4000000 in
set_option maxRecDepth 100000 in
theorem v_X9_deliverNext_j122 {p : Program} {l : Launch} {e : Env} {R : Room} {s : State} {m : MethodId} {args : Array Value} {below : List Frame} {meth : Method} {c : Code} {E : wd_E} {w0 : Wd} {r' : Int32} {w' : Wd} (n : Nat) (C : wd_X p s m args meth c cX9_deliverNext RX9 3 (some .boolean) "deliverNext" E) (hR : 6 ≤ R.frames ∧ 149 ≤ R.locals) (x0 : Nat) (x1 : Option Nat) (w : Wd) (H : Heap) (locs : List Loc) (cells slots : Nat) (ls : Array Slot) (hZ : wd_Z E w0 R s w H locs cells slots [(some x0, 10), (x1, 1)]) (hl : lv_has ls 3 [(0, .ref x0), (1, va_rf x1)]) (hf : f_X9_deliverNext_j122 n x0 x1 w = some (r', w')) : W p l e R s m args below meth c H locs cells slots (wd_fin E w0 (some (.int r')) w' True R args s below) (F0 m 122 ls []) := by
  obtain ⟨hx, hb, hr, hml, hts, hown, hlocks, hmn, hK⟩ := id C
  unfold f_X9_deliverNext_j122 at hf
  refine lv_aload_n (i := 0) hx hb dX9_deliverNext_122 rfl (lv_at hl 0 rfl) ?_
  refine z_getR (tk := 8) fd_900 rfl hx hb hts hown hK hZ (hZ.k 0 rfl rfl) tw_243 dX9_deliverNext_123 ?_; clear hZ; intro hZ
  refine z_aload_n (i := 1) hx hb dX9_deliverNext_126 rfl (lv_at hl 1 rfl) ?_
  have hf9 := Option.bind_eq_some_iff.mp hf; clear hf; obtain ⟨a18, ha18, hf⟩ := hf9
  replace hZ := hZ.add (r := some a18) (k := 9) (Nat.succ_ne_zero _) (fun q hq => by cases hq; exact hZ.k 0 rfl ha18)
  rw [ha18]
  have hf9 := Option.bind_eq_some_iff.mp hf; clear hf; obtain ⟨w19, hc20, hf⟩ := hf9
  refine z_callV (ci := 8) (As := [va_rf x1]) (rest := []) (c_X8_reuse l E n w a18 x1 w19 (hZ.k 0 rfl rfl) (fun q hq => hZ.k 3 rfl hq) hc20) mo_X8_reuse rfl (by decide) rfl tw_942 tw_943 tw_941 hx hb hml hts hown hK ⟨Nat.le_trans (by decide) hR.1, Nat.le_trans (by decide) hR.2⟩ hZ (hZ.k 0 rfl rfl) rfl hl.1 rfl (Nat.le_of_ble_eq_true rfl) rfl dX9_deliverNext_127 ?_; clear hZ; intro H locs cells slots hX hZ
  refine lv_iconst (v := 1) hx hb dX9_deliverNext_130 (by decide) ?_
  obtain ⟨rfl, rfl⟩ := Prod.mk.inj (Option.some.inj hf)
  exact z_zret (by decide) hx hb hr hlocks hZ trivial dX9_deliverNext_131

set_option maxHeartbeats 4000000 in
set_option maxRecDepth 100000 in
theorem v_X9_deliverNext_j53 {p : Program} {l : Launch} {e : Env} {R : Room} {s : State} {m : MethodId} {args : Array Value} {below : List Frame} {meth : Method} {c : Code} {E : wd_E} {w0 : Wd} {r' : Int32} {w' : Wd} (n : Nat) (C : wd_X p s m args meth c cX9_deliverNext RX9 3 (some .boolean) "deliverNext" E) (hR : 6 ≤ R.frames ∧ 149 ≤ R.locals) (x0 : Nat) (x1 : Option Nat) (w : Wd) (H : Heap) (locs : List Loc) (cells slots : Nat) (ls : Array Slot) (hZ : wd_Z E w0 R s w H locs cells slots [(some x0, 10), (x1, 1)]) (hl : lv_has ls 3 [(0, .ref x0), (1, va_rf x1)]) (hf : f_X9_deliverNext_j53 n x0 x1 w = some (r', w')) : W p l e R s m args below meth c H locs cells slots (wd_fin E w0 (some (.int r')) w' True R args s below) (F0 m 53 ls []) := by
  obtain ⟨hx, hb, hr, hml, hts, hown, hlocks, hmn, hK⟩ := id C
  unfold f_X9_deliverNext_j53 at hf
  refine z_aload_n (i := 1) hx hb dX9_deliverNext_53 rfl (lv_at hl 1 rfl) ?_
  have hf9 := Option.bind_eq_some_iff.mp hf; clear hf; obtain ⟨a9, ha9, hf⟩ := hf9
  subst ha9
  replace hl : lv_has ls 3 [(0, .ref x0), (1, .ref a9)] := hl
  replace hZ : wd_Z E w0 R s w H locs cells slots [(some x0, 10), (some a9, 1)] := hZ
  refine z_getI fd_3 rfl hx hb hts hown hK hZ (hZ.k 1 rfl rfl) tw_818 dX9_deliverNext_54 ?_
  refine lv_iconst (v := 1) hx hb dX9_deliverNext_57 (by decide) ?_
  refine lv_icmp_ne (tgt := 69) hx hb dX9_deliverNext_58 (by decide) (fun h10 => ?_) (fun h10 => ?_)
  · replace hf := wd_ite_n h10 hf
    refine lv_aload_n (i := 1) hx hb dX9_deliverNext_69 rfl (lv_at hl 1 rfl) ?_
    refine z_getI fd_3 rfl hx hb hts hown hK hZ (hZ.k 1 rfl rfl) tw_818 dX9_deliverNext_70 ?_
    refine lv_iconst (v := 2) hx hb dX9_deliverNext_73 (by decide) ?_
    refine lv_icmp_ne (tgt := 85) hx hb dX9_deliverNext_74 (by decide) (fun h11 => ?_) (fun h11 => ?_)
    · replace hf := wd_ite_n h11 hf
      refine lv_aload_n (i := 0) hx hb dX9_deliverNext_85 rfl (lv_at hl 0 rfl) ?_
      refine lv_dup hx hb dX9_deliverNext_86 rfl ?_
      refine z_getI fd_903 rfl hx hb hts hown hK hZ (hZ.k 0 rfl rfl) tw_249 dX9_deliverNext_87 ?_
      refine lv_iconst (v := 1) hx hb dX9_deliverNext_90 (by decide) ?_
      refine lv_iadd hx hb dX9_deliverNext_91 ?_
      refine z_putI fd_903 cok_9 rfl rfl rfl rfl rfl hx hb hts hown hK hZ (hZ.k 0 rfl rfl) tw_249 dX9_deliverNext_92 ?_; clear hZ; intro H locs hZ
      have hf9 := wd_let_e hf; clear hf; obtain ⟨w12, e13, hf⟩ := hf9
      rw [e13] at hZ
      refine lv_aload_n (i := 0) hx hb dX9_deliverNext_95 rfl (lv_at hl 0 rfl) ?_
      refine lv_aload_n (i := 1) hx hb dX9_deliverNext_96 rfl (lv_at hl 1 rfl) ?_
      refine z_getI fd_2 rfl hx hb hts hown hK hZ (hZ.k 1 rfl rfl) tw_815 dX9_deliverNext_97 ?_
      have hf9 := wd_b2_e hf; clear hf; obtain ⟨r16, w14, hc15, hf⟩ := hf9
      refine z_callV (ci := 9) (As := [.int (wd_I w12 2 a9)]) (rest := []) (c_X9_hostWithMark l E n w12 x0 (wd_I w12 2 a9) r16 w14 (hZ.k 0 rfl rfl) hc15) mo_X9_hostWithMark rfl (by decide) rfl tw_882 tw_19 tw_880 hx hb hml hts hown hK ⟨Nat.le_trans (by decide) hR.1, Nat.le_trans (by decide) hR.2⟩ hZ (hZ.k 0 rfl rfl) rfl hl.1 rfl (Nat.le_of_ble_eq_true rfl) rfl dX9_deliverNext_100 ?_; clear hZ; intro H locs cells slots hX hZ
      replace hZ := hZ.add (Nat.succ_ne_zero _) hX
      refine z_astore_n (i := 2) (lv' := [(2, va_rf r16), (0, .ref x0), (1, .ref a9)]) hx hb dX9_deliverNext_103 rfl hl (by decide) rfl ?_; clear hl; intro ls hl
      refine z_aload_n (i := 2) hx hb dX9_deliverNext_104 rfl (lv_at hl 0 rfl) ?_
      refine z_ifnull (tgt := 122) hx hb dX9_deliverNext_105 (by decide) (fun hn => ?_) (fun a17 ha17 => ?_)
      · replace hf := wd_on_n hn hf
        subst hn
        replace hl : lv_has ls 3 [(2, va_rf none), (0, .ref x0), (1, .ref a9)] := hl
        replace hZ : wd_Z E w0 R s w14 H locs cells slots [(none, 3), (some x0, 10), (some a9, 1)] := hZ
        exact v_X9_deliverNext_j122 n C hR x0 (some a9) w14 _ _ _ _ _ ⟨hZ.1, hZ.2.1, hZ.2.2.1, hZ.2.2.2.1, (List.forall_mem_cons.mpr ⟨⟨Nat.succ_ne_zero _, (fun q hq => by cases hq; exact (hZ.k 1 rfl rfl))⟩, (List.forall_mem_cons.mpr ⟨⟨Nat.succ_ne_zero _, (fun q hq => by cases hq; exact (hZ.k 2 rfl rfl))⟩, (fun _ hq => absurd hq List.not_mem_nil)⟩)⟩), hZ.2.2.2.2.2⟩ (lv_sub hl [1, 2] rfl) hf
      · replace hf := wd_on_s ha17 hf
        subst ha17
        replace hl : lv_has ls 3 [(2, .ref a17), (0, .ref x0), (1, .ref a9)] := hl
        replace hZ : wd_Z E w0 R s w14 H locs cells slots [(some a17, 3), (some x0, 10), (some a9, 1)] := hZ
        refine lv_aload_n (i := 0) hx hb dX9_deliverNext_108 rfl (lv_at hl 1 rfl) ?_
        refine lv_aload_n (i := 2) hx hb dX9_deliverNext_109 rfl (lv_at hl 0 rfl) ?_
        refine lv_aload_n (i := 0) hx hb dX9_deliverNext_110 rfl (lv_at hl 1 rfl) ?_
        refine lv_aload_n (i := 2) hx hb dX9_deliverNext_111 rfl (lv_at hl 0 rfl) ?_
        refine lv_aload_n (i := 1) hx hb dX9_deliverNext_112 rfl (lv_at hl 2 rfl) ?_
        refine z_getR (tk := 4) fd_5 rfl hx hb hts hown hK hZ (hZ.k 2 rfl rfl) tw_824 dX9_deliverNext_113 ?_; clear hZ; intro hZ
        have hf9 := wd_b2_e hf; clear hf; obtain ⟨r23, w21, hc22, hf⟩ := hf9
        refine z_callV (ci := 9) (As := [va_rf (some a17), va_rf (wd_R w14 5 a9)]) (rest := [.ref a17, .ref x0]) (c_X9_come l E n w14 x0 (some a17) (wd_R w14 5 a9) r23 w21 (hZ.k 2 rfl rfl) (fun q hq => by cases hq; exact (hZ.k 1 rfl rfl)) (fun q hq => hZ.k 0 rfl hq) hc22) mo_X9_come rfl (by decide) rfl tw_899 tw_21 tw_897 hx hb hml hts hown hK ⟨Nat.le_trans (by decide) hR.1, Nat.le_trans (by decide) hR.2⟩ hZ (hZ.k 2 rfl rfl) rfl hl.1 rfl (Nat.le_of_ble_eq_true rfl) rfl dX9_deliverNext_116 ?_; clear hZ; intro H locs cells slots hX hZ
        replace hZ := hZ.add (Nat.succ_ne_zero _) hX
        have hf9 := Option.bind_eq_some_iff.mp hf; clear hf; obtain ⟨w24, hc25, hf⟩ := hf9
        refine z_callV (ci := 9) (As := [va_rf (some a17), va_rf r23]) (rest := []) (c_X9_goOut l E n w21 x0 (some a17) r23 w24 (hZ.k 3 rfl rfl) (fun q hq => by cases hq; exact (hZ.k 2 rfl rfl)) (fun q hq => hZ.k 0 rfl hq) hc25) mo_X9_goOut rfl (by decide) rfl tw_759 tw_11 tw_757 hx hb hml hts hown hK ⟨Nat.le_trans (by decide) hR.1, Nat.le_trans (by decide) hR.2⟩ hZ (hZ.k 3 rfl rfl) rfl hl.1 rfl (Nat.le_of_ble_eq_true rfl) rfl dX9_deliverNext_119 ?_; clear hZ; intro H locs cells slots hX hZ
        exact v_X9_deliverNext_j122 n C hR x0 (some a9) w24 _ _ _ _ _ ⟨hZ.1, hZ.2.1, hZ.2.2.1, hZ.2.2.2.1, (List.forall_mem_cons.mpr ⟨⟨Nat.succ_ne_zero _, (fun q hq => by cases hq; exact (hZ.k 3 rfl rfl))⟩, (List.forall_mem_cons.mpr ⟨⟨Nat.succ_ne_zero _, (fun q hq => by cases hq; exact (hZ.k 4 rfl rfl))⟩, (fun _ hq => absurd hq List.not_mem_nil)⟩)⟩), hZ.2.2.2.2.2⟩ (lv_sub hl [1, 2] rfl) hf
    · replace hf := wd_ite_p h11 hf
      refine lv_aload_n (i := 0) hx hb dX9_deliverNext_77 rfl (lv_at hl 0 rfl) ?_
      refine lv_aload_n (i := 1) hx hb dX9_deliverNext_78 rfl (lv_at hl 1 rfl) ?_
      have hf9 := Option.bind_eq_some_iff.mp hf; clear hf; obtain ⟨w26, hc27, hf⟩ := hf9
      refine z_callV (ci := 9) (As := [va_rf (some a9)]) (rest := []) (c_X9_hearReply l E n w x0 (some a9) w26 (hZ.k 0 rfl rfl) (fun q hq => by cases hq; exact (hZ.k 1 rfl rfl)) hc27) mo_X9_hearReply rfl (by decide) rfl tw_891 tw_20 tw_889 hx hb hml hts hown hK ⟨Nat.le_trans (by decide) hR.1, Nat.le_trans (by decide) hR.2⟩ hZ (hZ.k 0 rfl rfl) rfl hl.1 rfl (Nat.le_of_ble_eq_true rfl) rfl dX9_deliverNext_79 ?_; clear hZ; intro H locs cells slots hX hZ
      refine lv_goto (tgt := 122) hx hb dX9_deliverNext_82 (by decide) ?_
      exact v_X9_deliverNext_j122 n C hR x0 (some a9) w26 _ _ _ _ _ ⟨hZ.1, hZ.2.1, hZ.2.2.1, hZ.2.2.2.1, (List.forall_mem_cons.mpr ⟨⟨Nat.succ_ne_zero _, (fun q hq => by cases hq; exact (hZ.k 0 rfl rfl))⟩, (List.forall_mem_cons.mpr ⟨⟨Nat.succ_ne_zero _, (fun q hq => by cases hq; exact (hZ.k 1 rfl rfl))⟩, (fun _ hq => absurd hq List.not_mem_nil)⟩)⟩), hZ.2.2.2.2.2⟩ (lv_sub hl [0, 1] rfl) hf
  · replace hf := wd_ite_p h10 hf
    refine lv_aload_n (i := 0) hx hb dX9_deliverNext_61 rfl (lv_at hl 0 rfl) ?_
    refine lv_aload_n (i := 1) hx hb dX9_deliverNext_62 rfl (lv_at hl 1 rfl) ?_
    have hf9 := Option.bind_eq_some_iff.mp hf; clear hf; obtain ⟨w28, hc29, hf⟩ := hf9
    refine z_callV (ci := 9) (As := [va_rf (some a9)]) (rest := []) (c_X9_hearQuestion l E n w x0 (some a9) w28 (hZ.k 0 rfl rfl) (fun q hq => by cases hq; exact (hZ.k 1 rfl rfl)) hc29) mo_X9_hearQuestion rfl (by decide) rfl tw_876 tw_18 tw_874 hx hb hml hts hown hK ⟨Nat.le_trans (by decide) hR.1, Nat.le_trans (by decide) hR.2⟩ hZ (hZ.k 0 rfl rfl) rfl hl.1 rfl (Nat.le_of_ble_eq_true rfl) rfl dX9_deliverNext_63 ?_; clear hZ; intro H locs cells slots hX hZ
    refine lv_goto (tgt := 122) hx hb dX9_deliverNext_66 (by decide) ?_
    exact v_X9_deliverNext_j122 n C hR x0 (some a9) w28 _ _ _ _ _ ⟨hZ.1, hZ.2.1, hZ.2.2.1, hZ.2.2.2.1, (List.forall_mem_cons.mpr ⟨⟨Nat.succ_ne_zero _, (fun q hq => by cases hq; exact (hZ.k 0 rfl rfl))⟩, (List.forall_mem_cons.mpr ⟨⟨Nat.succ_ne_zero _, (fun q hq => by cases hq; exact (hZ.k 1 rfl rfl))⟩, (fun _ hq => absurd hq List.not_mem_nil)⟩)⟩), hZ.2.2.2.2.2⟩ (lv_sub hl [0, 1] rfl) hf

set_option maxHeartbeats 4000000 in
set_option maxRecDepth 100000 in
theorem c_X9_deliverNext (l : Launch) (E : wd_E) (n : Nat) (w : Wd) (this : Nat) (r' : Int32) (w' : Wd) (k_this : wd_K w this = 10) (hf : f_X9_deliverNext n w this = some (r', w')) : wd_C l E yX9_deliverNext cX9_deliverNext 3 (some .boolean) 6 149 [.ref this] w (some (.int r')) w' True := by
  refine wd_ofW (own := RX9) (nm := "deliverNext") (ks := [(some this, 10)]) (lv := [(0, .ref this)]) (by decide) rfl rfl (Nat.le_of_ble_eq_true rfl) rfl (List.forall_mem_cons.mpr ⟨⟨Nat.succ_ne_zero _, fun q hq => by cases hq; exact k_this⟩, (fun _ hq => absurd hq List.not_mem_nil)⟩) ?_
  intro p e s m args below meth c R H locs cells slots ls C hR hZ hl
  obtain ⟨hx, hb, hr, hml, hts, hown, hlocks, hmn, hK⟩ := id C
  unfold f_X9_deliverNext at hf
  refine lv_aload_n (i := 0) hx hb dX9_deliverNext_0 rfl (lv_at hl 0 rfl) ?_
  refine z_getR (tk := 8) fd_900 rfl hx hb hts hown hK hZ (hZ.k 0 rfl rfl) tw_243 dX9_deliverNext_1 ?_; clear hZ; intro hZ
  have hf9 := Option.bind_eq_some_iff.mp hf; clear hf; obtain ⟨a1, ha1, hf⟩ := hf9
  replace hZ := hZ.add (r := some a1) (k := 9) (Nat.succ_ne_zero _) (fun q hq => by cases hq; exact hZ.k 0 rfl ha1)
  rw [ha1]
  have hf9 := wd_b2_e hf; clear hf; obtain ⟨r4, w2, hc3, hf⟩ := hf9
  refine z_callV (ci := 8) (As := []) (rest := []) (c_X8_takeFirst l E n w a1 r4 w2 (hZ.k 0 rfl rfl) hc3) mo_X8_takeFirst rfl (by decide) rfl tw_871 tw_872 tw_870 hx hb hml hts hown hK ⟨Nat.le_trans (by decide) hR.1, Nat.le_trans (by decide) hR.2⟩ hZ (hZ.k 0 rfl rfl) rfl hl.1 rfl (Nat.le_of_ble_eq_true rfl) rfl dX9_deliverNext_4 ?_; clear hZ; intro H locs cells slots hX hZ
  replace hZ := hZ.add (Nat.succ_ne_zero _) hX
  refine z_astore_n (i := 1) (lv' := [(1, va_rf r4), (0, .ref this)]) hx hb dX9_deliverNext_7 rfl hl (by decide) rfl ?_; clear hl; intro ls hl
  refine z_aload_n (i := 1) hx hb dX9_deliverNext_8 rfl (lv_at hl 0 rfl) ?_
  refine z_ifnonnull (tgt := 14) hx hb dX9_deliverNext_9 (by decide) (fun a5 ha5 => ?_) (fun hn => ?_)
  · replace hf := wd_on_s ha5 hf
    subst ha5
    replace hl : lv_has ls 3 [(1, .ref a5), (0, .ref this)] := hl
    replace hZ : wd_Z E w R s w2 H locs cells slots [(some a5, 1), (some a1, 9), ((wd_R w 900 this), 9), (some this, 10)] := hZ
    refine lv_aload_n (i := 0) hx hb dX9_deliverNext_14 rfl (lv_at hl 1 rfl) ?_
    refine lv_dup hx hb dX9_deliverNext_15 rfl ?_
    refine z_getI fd_902 rfl hx hb hts hown hK hZ (hZ.k 3 rfl rfl) tw_248 dX9_deliverNext_16 ?_
    refine lv_iconst (v := 1) hx hb dX9_deliverNext_19 (by decide) ?_
    refine lv_iadd hx hb dX9_deliverNext_20 ?_
    refine z_putI fd_902 cok_9 rfl rfl rfl rfl rfl hx hb hts hown hK hZ (hZ.k 3 rfl rfl) tw_248 dX9_deliverNext_21 ?_; clear hZ; intro H locs hZ
    have hf9 := wd_let_e hf; clear hf; obtain ⟨w6, e7, hf⟩ := hf9
    rw [e7] at hZ
    refine lv_aload_n (i := 1) hx hb dX9_deliverNext_24 rfl (lv_at hl 0 rfl) ?_
    refine z_getI fd_0 rfl hx hb hts hown hK hZ (hZ.k 0 rfl rfl) tw_809 dX9_deliverNext_25 ?_
    refine lv_if_lt (tgt := 53) hx hb dX9_deliverNext_28 (by decide) (fun h8 => ?_) (fun h8 => ?_)
    · replace hf := wd_ite_p h8 hf
      exact v_X9_deliverNext_j53 n C hR this (some a5) w6 _ _ _ _ _ ⟨hZ.1, hZ.2.1, hZ.2.2.1, hZ.2.2.2.1, (List.forall_mem_cons.mpr ⟨⟨Nat.succ_ne_zero _, (fun q hq => by cases hq; exact (hZ.k 3 rfl rfl))⟩, (List.forall_mem_cons.mpr ⟨⟨Nat.succ_ne_zero _, (fun q hq => by cases hq; exact (hZ.k 0 rfl rfl))⟩, (fun _ hq => absurd hq List.not_mem_nil)⟩)⟩), hZ.2.2.2.2.2⟩ (lv_sub hl [1, 0] rfl) hf
    · replace hf := wd_ite_n h8 hf
      refine lv_aload_n (i := 1) hx hb dX9_deliverNext_31 rfl (lv_at hl 0 rfl) ?_
      refine z_getI fd_0 rfl hx hb hts hown hK hZ (hZ.k 0 rfl rfl) tw_809 dX9_deliverNext_32 ?_
      refine lv_bipush (v := 8) hx hb dX9_deliverNext_35 (by decide) ?_
      refine lv_icmp_ge (tgt := 53) hx hb dX9_deliverNext_37 (by decide) (fun h30 => ?_) (fun h30 => ?_)
      · replace hf := wd_ite_p h30 hf
        exact v_X9_deliverNext_j53 n C hR this (some a5) w6 _ _ _ _ _ ⟨hZ.1, hZ.2.1, hZ.2.2.1, hZ.2.2.2.1, (List.forall_mem_cons.mpr ⟨⟨Nat.succ_ne_zero _, (fun q hq => by cases hq; exact (hZ.k 3 rfl rfl))⟩, (List.forall_mem_cons.mpr ⟨⟨Nat.succ_ne_zero _, (fun q hq => by cases hq; exact (hZ.k 0 rfl rfl))⟩, (fun _ hq => absurd hq List.not_mem_nil)⟩)⟩), hZ.2.2.2.2.2⟩ (lv_sub hl [1, 0] rfl) hf
      · replace hf := wd_ite_n h30 hf
        refine lv_aload_n (i := 0) hx hb dX9_deliverNext_40 rfl (lv_at hl 1 rfl) ?_
        refine z_getR (tk := 20) fd_907 rfl hx hb hts hown hK hZ (hZ.k 3 rfl rfl) tw_254 dX9_deliverNext_41 ?_; clear hZ; intro hZ
        refine lv_aload_n (i := 1) hx hb dX9_deliverNext_44 rfl (lv_at hl 0 rfl) ?_
        refine z_getI fd_0 rfl hx hb hts hown hK hZ (hZ.k 1 rfl rfl) tw_809 dX9_deliverNext_45 ?_
        refine lv_dup2_11 hx hb dX9_deliverNext_48 rfl (va_rf_cat _) ?_
        have hf9 := Option.bind_eq_some_iff.mp hf; clear hf; obtain ⟨a31, ha31, hf⟩ := hf9
        replace hZ := hZ.add (r := some a31) (k := 21) (Nat.succ_ne_zero _) (fun q hq => by cases hq; exact hZ.k 0 rfl ha31)
        rw [ha31]
        have hf9 := wd_gd_e hf; clear hf; obtain ⟨h32, hf⟩ := hf9
        refine z_iald hx hb hK hZ (hZ.k 0 rfl rfl) h32 dX9_deliverNext_49 ?_
        refine lv_iconst (v := 1) hx hb dX9_deliverNext_50 (by decide) ?_
        refine lv_iadd hx hb dX9_deliverNext_51 ?_
        have hf9 := wd_gd_e hf; clear hf; obtain ⟨h33, hf⟩ := hf9
        refine z_iast hx hb hK hZ (hZ.k 0 rfl rfl) h33 dX9_deliverNext_52 ?_; clear hZ; intro H locs hZ
        have hf9 := wd_let_e hf; clear hf; obtain ⟨w34, e35, hf⟩ := hf9
        rw [e35] at hZ
        exact v_X9_deliverNext_j53 n C hR this (some a5) w34 _ _ _ _ _ ⟨hZ.1, hZ.2.1, hZ.2.2.1, hZ.2.2.2.1, (List.forall_mem_cons.mpr ⟨⟨Nat.succ_ne_zero _, (fun q hq => by cases hq; exact (hZ.k 5 rfl rfl))⟩, (List.forall_mem_cons.mpr ⟨⟨Nat.succ_ne_zero _, (fun q hq => by cases hq; exact (hZ.k 2 rfl rfl))⟩, (fun _ hq => absurd hq List.not_mem_nil)⟩)⟩), hZ.2.2.2.2.2⟩ (lv_sub hl [1, 0] rfl) hf
  · replace hf := wd_on_n hn hf
    subst hn
    replace hl : lv_has ls 3 [(1, va_rf none), (0, .ref this)] := hl
    replace hZ : wd_Z E w R s w2 H locs cells slots [(none, 1), (some a1, 9), ((wd_R w 900 this), 9), (some this, 10)] := hZ
    refine lv_iconst (v := 0) hx hb dX9_deliverNext_12 (by decide) ?_
    obtain ⟨rfl, rfl⟩ := Prod.mk.inj (Option.some.inj hf)
    exact z_zret (by decide) hx hb hr hlocks hZ trivial dX9_deliverNext_13

def f_X9_complainOfWaiting_l10 (n : Nat) (rec10 : Nat → Option Nat → Int32 → Option Nat → Wd → Option (Int32 × Wd)) (x0 : Nat) (x1 : Option Nat) (x2 : Int32) (x3 : Option Nat) (w : Wd) : Option (Int32 × Wd) :=
  wd_on x3 (
    some (x2, w))
    (fun a7 =>
    wd_let (wd_R w 413 a7) fun v8 =>
    wd_b2 (f_X9_complain n w x0 x1 (some a7) (4 : Int32) (1 : Int32)) fun r12 w10 =>
    Option.bind (f_X9_goOut n w10 x0 x1 r12) fun w13 =>
    rec10 x0 x1 x2 v8 w13)
def f_X9_complainOfWaiting (n : Nat) (w : Wd) (this : Nat) (p0 : Option Nat) : Option (Int32 × Wd) :=
  Option.bind p0 fun a1 =>
  wd_let (wd_I w 201 a1) fun v2 =>
  wd_b2 (f_X2_takeWaiting n w a1) fun r6 w4 =>
  wd_lp5 (f_X9_complainOfWaiting_l10 n) n this (some a1) v2 r6 w4
set_option maxHeartbeats 4000000 in
set_option maxRecDepth 100000 in
theorem v_X9_complainOfWaiting_b10 {p : Program} {l : Launch} {e : Env} {R : Room} {s : State} {m : MethodId} {args : Array Value} {below : List Frame} {meth : Method} {c : Code} {E : wd_E} {w0 : Wd} {r' : Int32} {w' : Wd} (n : Nat) (C : wd_X p s m args meth c cX9_complainOfWaiting RX9 5 (some .int) "complainOfWaiting" E) (hR : 6 ≤ R.frames ∧ 149 ≤ R.locals) (rec10 : Nat → Option Nat → Int32 → Option Nat → Wd → Option (Int32 × Wd)) (hrec10 : ∀ (x0_ : Nat) (x1_ : Option Nat) (x2_ : Int32) (x3_ : Option Nat) (w_ : Wd) (H : Heap) (locs : List Loc) (cells slots : Nat) (ls : Array Slot), wd_Z E w0 R s w_ H locs cells slots [(some x0_, 10), (x1_, 3), (x3_, 5)] → lv_has ls 5 [(0, .ref x0_), (1, va_rf x1_), (2, .int x2_), (3, va_rf x3_)] → rec10 x0_ x1_ x2_ x3_ w_ = some (r', w') → W p l e R s m args below meth c H locs cells slots (wd_fin E w0 (some (.int r')) w' True R args s below) (F0 m 10 ls [])) (x0 : Nat) (x1 : Option Nat) (x2 : Int32) (x3 : Option Nat) (w : Wd) (H : Heap) (locs : List Loc) (cells slots : Nat) (ls : Array Slot) (hZ : wd_Z E w0 R s w H locs cells slots [(some x0, 10), (x1, 3), (x3, 5)]) (hl : lv_has ls 5 [(0, .ref x0), (1, va_rf x1), (2, .int x2), (3, va_rf x3)]) (hf : f_X9_complainOfWaiting_l10 n rec10 x0 x1 x2 x3 w = some (r', w')) : W p l e R s m args below meth c H locs cells slots (wd_fin E w0 (some (.int r')) w' True R args s below) (F0 m 10 ls []) := by
  obtain ⟨hx, hb, hr, hml, hts, hown, hlocks, hmn, hK⟩ := id C
  unfold f_X9_complainOfWaiting_l10 at hf
  refine z_aload_n (i := 3) hx hb dX9_complainOfWaiting_10 rfl (lv_at hl 3 rfl) ?_
  refine z_ifnull (tgt := 39) hx hb dX9_complainOfWaiting_11 (by decide) (fun hn => ?_) (fun a7 ha7 => ?_)
  · replace hf := wd_on_n hn hf
    subst hn
    replace hl : lv_has ls 5 [(0, .ref x0), (1, va_rf x1), (2, .int x2), (3, va_rf none)] := hl
    replace hZ : wd_Z E w0 R s w H locs cells slots [(some x0, 10), (x1, 3), (none, 5)] := hZ
    refine lv_iload_n (i := 2) hx hb dX9_complainOfWaiting_39 rfl (lv_at hl 2 rfl) ?_
    obtain ⟨rfl, rfl⟩ := Prod.mk.inj (Option.some.inj hf)
    exact z_iret hx hb hr hlocks hZ trivial dX9_complainOfWaiting_40
  · replace hf := wd_on_s ha7 hf
    subst ha7
    replace hl : lv_has ls 5 [(0, .ref x0), (1, va_rf x1), (2, .int x2), (3, .ref a7)] := hl
    replace hZ : wd_Z E w0 R s w H locs cells slots [(some x0, 10), (x1, 3), (some a7, 5)] := hZ
    refine lv_aload_n (i := 3) hx hb dX9_complainOfWaiting_14 rfl (lv_at hl 3 rfl) ?_
    refine z_getR (tk := 4) fd_413 rfl hx hb hts hown hK hZ (hZ.k 2 rfl rfl) tw_724 dX9_complainOfWaiting_15 ?_; clear hZ; intro hZ
    have hf9 := wd_let_e hf; clear hf; obtain ⟨v8, e9, hf⟩ := hf9
    rw [e9]
    rw [e9] at hZ
    refine z_astore (i := 4) (lv' := [(4, va_rf v8), (0, .ref x0), (1, va_rf x1), (2, .int x2), (3, .ref a7)]) hx hb dX9_complainOfWaiting_18 hl (by decide) rfl ?_; clear hl; intro ls hl
    refine lv_aload_n (i := 0) hx hb dX9_complainOfWaiting_20 rfl (lv_at hl 1 rfl) ?_
    refine z_aload_n (i := 1) hx hb dX9_complainOfWaiting_21 rfl (lv_at hl 2 rfl) ?_
    refine lv_aload_n (i := 0) hx hb dX9_complainOfWaiting_22 rfl (lv_at hl 1 rfl) ?_
    refine z_aload_n (i := 1) hx hb dX9_complainOfWaiting_23 rfl (lv_at hl 2 rfl) ?_
    refine lv_aload_n (i := 3) hx hb dX9_complainOfWaiting_24 rfl (lv_at hl 4 rfl) ?_
    refine lv_iconst (v := 4) hx hb dX9_complainOfWaiting_25 (by decide) ?_
    refine lv_iconst (v := 1) hx hb dX9_complainOfWaiting_26 (by decide) ?_
    have hf9 := wd_b2_e hf; clear hf; obtain ⟨r12, w10, hc11, hf⟩ := hf9
    refine z_callV (ci := 9) (As := [va_rf x1, va_rf (some a7), .int (4 : Int32), .int (1 : Int32)]) (rest := [va_rf x1, .ref x0]) (c_X9_complain l E n w x0 x1 (some a7) (4 : Int32) (1 : Int32) r12 w10 (hZ.k 1 rfl rfl) (fun q hq => hZ.k 2 rfl hq) (fun q hq => by cases hq; exact (hZ.k 3 rfl rfl)) hc11) mo_X9_complain rfl (by decide) rfl tw_779 tw_14 tw_777 hx hb hml hts hown hK ⟨Nat.le_trans (by decide) hR.1, Nat.le_trans (by decide) hR.2⟩ hZ (hZ.k 1 rfl rfl) rfl hl.1 rfl (by simp [va_rf_cat, va_cat_r, va_cat_i, va_cat_l, va_cat_d]) rfl dX9_complainOfWaiting_27 ?_; clear hZ; intro H locs cells slots hX hZ
    replace hZ := hZ.add (Nat.succ_ne_zero _) hX
    have hf9 := Option.bind_eq_some_iff.mp hf; clear hf; obtain ⟨w13, hc14, hf⟩ := hf9
    refine z_callV (ci := 9) (As := [va_rf x1, va_rf r12]) (rest := []) (c_X9_goOut l E n w10 x0 x1 r12 w13 (hZ.k 2 rfl rfl) (fun q hq => hZ.k 3 rfl hq) (fun q hq => hZ.k 0 rfl hq) hc14) mo_X9_goOut rfl (by decide) rfl tw_759 tw_11 tw_757 hx hb hml hts hown hK ⟨Nat.le_trans (by decide) hR.1, Nat.le_trans (by decide) hR.2⟩ hZ (hZ.k 2 rfl rfl) rfl hl.1 rfl (Nat.le_of_ble_eq_true rfl) rfl dX9_complainOfWaiting_30 ?_; clear hZ; intro H locs cells slots hX hZ
    refine z_aload hx hb dX9_complainOfWaiting_33 (lv_at hl 0 rfl) ?_
    refine z_astore_n (i := 3) (lv' := [(3, va_rf v8), (4, va_rf v8), (0, .ref x0), (1, va_rf x1), (2, .int x2)]) hx hb dX9_complainOfWaiting_35 rfl hl (by decide) rfl ?_; clear hl; intro ls hl
    refine lv_goto (tgt := 10) hx hb dX9_complainOfWaiting_36 (by decide) ?_
    exact hrec10 x0 x1 x2 v8 w13 _ _ _ _ _ ⟨hZ.1, hZ.2.1, hZ.2.2.1, hZ.2.2.2.1, (List.forall_mem_cons.mpr ⟨⟨Nat.succ_ne_zero _, (fun q hq => by cases hq; exact (hZ.k 2 rfl rfl))⟩, (List.forall_mem_cons.mpr ⟨⟨Nat.succ_ne_zero _, (fun q hq => hZ.k 3 rfl hq)⟩, (List.forall_mem_cons.mpr ⟨⟨Nat.succ_ne_zero _, (fun q hq => hZ.k 1 rfl hq)⟩, (fun _ hq => absurd hq List.not_mem_nil)⟩)⟩)⟩), hZ.2.2.2.2.2⟩ (lv_sub hl [2, 3, 4, 0] rfl) hf

theorem v_X9_complainOfWaiting_l10 {p : Program} {l : Launch} {e : Env} {R : Room} {s : State} {m : MethodId} {args : Array Value} {below : List Frame} {meth : Method} {c : Code} {E : wd_E} {w0 : Wd} {r' : Int32} {w' : Wd} (n : Nat) (C : wd_X p s m args meth c cX9_complainOfWaiting RX9 5 (some .int) "complainOfWaiting" E) (hR : 6 ≤ R.frames ∧ 149 ≤ R.locals) : ∀ (k : Nat) (x0 : Nat) (x1 : Option Nat) (x2 : Int32) (x3 : Option Nat) (w : Wd) (H : Heap) (locs : List Loc) (cells slots : Nat) (ls : Array Slot), wd_Z E w0 R s w H locs cells slots [(some x0, 10), (x1, 3), (x3, 5)] → lv_has ls 5 [(0, .ref x0), (1, va_rf x1), (2, .int x2), (3, va_rf x3)] → wd_lp5 (f_X9_complainOfWaiting_l10 n) k x0 x1 x2 x3 w = some (r', w') → W p l e R s m args below meth c H locs cells slots (wd_fin E w0 (some (.int r')) w' True R args s below) (F0 m 10 ls []) := by
  intro k
  induction k with
  | zero => intro _ _ _ _ _ _ _ _ _ _ _ _ hf; cases hf
  | succ k ih =>
    intro x0 x1 x2 x3 w H locs cells slots ls hZ hl hf
    exact v_X9_complainOfWaiting_b10 n C hR (wd_lp5 (f_X9_complainOfWaiting_l10 n) k) ih x0 x1 x2 x3 w H locs cells slots ls hZ hl hf

set_option maxHeartbeats 4000000 in
set_option maxRecDepth 100000 in
theorem c_X9_complainOfWaiting (l : Launch) (E : wd_E) (n : Nat) (w : Wd) (this : Nat) (p0 : Option Nat) (r' : Int32) (w' : Wd) (k_this : wd_K w this = 10) (k_p0 : ∀ q, p0 = some q → wd_K w q = 3) (hf : f_X9_complainOfWaiting n w this p0 = some (r', w')) : wd_C l E yX9_complainOfWaiting cX9_complainOfWaiting 5 (some .int) 6 149 [.ref this, va_rf p0] w (some (.int r')) w' True := by
  refine wd_ofW (own := RX9) (nm := "complainOfWaiting") (ks := [(some this, 10), (p0, 3)]) (lv := [(0, .ref this), (1, va_rf p0)]) (by decide) rfl rfl (by simp [lg_sl, va_rf_cat, va_cat_r, va_cat_i, va_cat_l, va_cat_d]) (by simp [lv_args, va_rf_cat, va_cat_r, va_cat_i, va_cat_l, va_cat_d]) (List.forall_mem_cons.mpr ⟨⟨Nat.succ_ne_zero _, fun q hq => by cases hq; exact k_this⟩, (List.forall_mem_cons.mpr ⟨⟨Nat.succ_ne_zero _, k_p0⟩, (fun _ hq => absurd hq List.not_mem_nil)⟩)⟩) ?_
  intro p e s m args below meth c R H locs cells slots ls C hR hZ hl
  obtain ⟨hx, hb, hr, hml, hts, hown, hlocks, hmn, hK⟩ := id C
  unfold f_X9_complainOfWaiting at hf
  refine z_aload_n (i := 1) hx hb dX9_complainOfWaiting_0 rfl (lv_at hl 1 rfl) ?_
  have hf9 := Option.bind_eq_some_iff.mp hf; clear hf; obtain ⟨a1, ha1, hf⟩ := hf9
  subst ha1
  replace hl : lv_has ls 5 [(0, .ref this), (1, .ref a1)] := hl
  replace hZ : wd_Z E w R s w H locs cells slots [(some this, 10), (some a1, 3)] := hZ
  refine z_getI fd_201 rfl hx hb hts hown hK hZ (hZ.k 1 rfl rfl) tw_209 dX9_complainOfWaiting_1 ?_
  have hf9 := wd_let_e hf; clear hf; obtain ⟨v2, e3, hf⟩ := hf9
  rw [e3]
  refine lv_istore_n (i := 2) (lv' := [(2, .int v2), (0, .ref this), (1, .ref a1)]) hx hb dX9_complainOfWaiting_4 rfl hl (by decide) rfl ?_; clear hl; intro ls hl
  refine lv_aload_n (i := 1) hx hb dX9_complainOfWaiting_5 rfl (lv_at hl 2 rfl) ?_
  have hf9 := wd_b2_e hf; clear hf; obtain ⟨r6, w4, hc5, hf⟩ := hf9
  refine z_callV (ci := 2) (As := []) (rest := []) (c_X2_takeWaiting l E n w a1 r6 w4 (hZ.k 1 rfl rfl) hc5) mo_X2_takeWaiting rfl (by decide) rfl tw_894 tw_895 tw_893 hx hb hml hts hown hK ⟨Nat.le_trans (by decide) hR.1, Nat.le_trans (by decide) hR.2⟩ hZ (hZ.k 1 rfl rfl) rfl hl.1 rfl (Nat.le_of_ble_eq_true rfl) rfl dX9_complainOfWaiting_6 ?_; clear hZ; intro H locs cells slots hX hZ
  replace hZ := hZ.add (Nat.succ_ne_zero _) hX
  refine z_astore_n (i := 3) (lv' := [(3, va_rf r6), (2, .int v2), (0, .ref this), (1, .ref a1)]) hx hb dX9_complainOfWaiting_9 rfl hl (by decide) rfl ?_; clear hl; intro ls hl
  exact v_X9_complainOfWaiting_l10 n C hR n this (some a1) v2 r6 w4 _ _ _ _ _ ⟨hZ.1, hZ.2.1, hZ.2.2.1, hZ.2.2.2.1, (List.forall_mem_cons.mpr ⟨⟨Nat.succ_ne_zero _, (fun q hq => by cases hq; exact (hZ.k 1 rfl rfl))⟩, (List.forall_mem_cons.mpr ⟨⟨Nat.succ_ne_zero _, (fun q hq => by cases hq; exact (hZ.k 2 rfl rfl))⟩, (List.forall_mem_cons.mpr ⟨⟨Nat.succ_ne_zero _, (fun q hq => hZ.k 0 rfl hq)⟩, (fun _ hq => absurd hq List.not_mem_nil)⟩)⟩)⟩), hZ.2.2.2.2.2⟩ (lv_sub hl [2, 3, 1, 0] rfl) hf

def f_X10_init (n : Nat) (w : Wd) (this : Nat) (p0 : Option Nat) : Option Wd :=
  wd_gd (wd_M w = 0 ∨ wd_S w < 8) <|
  wd_let (wd_H w) fun a2 =>
  wd_let (wd_nw w 10 0 8) fun w4 =>
  Option.bind (f_X9_init n w4 a2 p0) fun w6 =>
  wd_let (wd_sR w6 1004 this (some a2)) fun w8 =>
  some w8
set_option maxHeartbeats 4000000 in
set_option maxRecDepth 100000 in
theorem c_X10_init (l : Launch) (E : wd_E) (n : Nat) (w : Wd) (this : Nat) (p0 : Option Nat) (w' : Wd) (k_this : wd_K w this = 11) (k_p0 : ∀ q, p0 = some q → wd_K w q = 6) (hf : f_X10_init n w this p0 = some w') : wd_C l E yX10_init cX10_init 2 none 4 88 [.ref this, va_rf p0] w none w' True := by
  refine wd_ofW (own := RX10) (nm := "<init>") (ks := [(some this, 11), (p0, 6)]) (lv := [(0, .ref this), (1, va_rf p0)]) (by decide) rfl rfl (by simp [lg_sl, va_rf_cat, va_cat_r, va_cat_i, va_cat_l, va_cat_d]) (by simp [lv_args, va_rf_cat, va_cat_r, va_cat_i, va_cat_l, va_cat_d]) (List.forall_mem_cons.mpr ⟨⟨Nat.succ_ne_zero _, fun q hq => by cases hq; exact k_this⟩, (List.forall_mem_cons.mpr ⟨⟨Nat.succ_ne_zero _, k_p0⟩, (fun _ hq => absurd hq List.not_mem_nil)⟩)⟩) ?_
  intro p e s m args below meth c R H locs cells slots ls C hR hZ hl
  obtain ⟨hx, hb, hr, hml, hts, hown, hlocks, hmn, hK⟩ := id C
  unfold f_X10_init at hf
  refine lv_aload_n (i := 0) hx hb dX10_init_0 rfl (lv_at hl 0 rfl) ?_
  refine W.objInit hx hb hown (hts _ tw_277) (hts _ tw_54) (hts _ tw_55) rfl (by rw [hml]; exact hl.1) rfl dX10_init_1 (Nat.le_trans (by decide) hR.1) (Nat.le_trans (Nat.le_of_ble_eq_true rfl) hR.2) ?_
  refine W.eq (g2 := F0 m 4 ls []) rfl ?_
  refine lv_aload_n (i := 0) hx hb dX10_init_4 rfl (lv_at hl 0 rfl) ?_
  have hf9 := wd_gd_e hf; clear hf; obtain ⟨h1, hf⟩ := hf9
  refine z_new cok_9 hx hb hts hown hK hZ tw_278 tw_138 tw_31 h1 dX10_init_5 ?_; clear hZ; intro H cells slots hZ
  have hf9 := wd_let_e hf; clear hf; obtain ⟨a2, e3, hf⟩ := hf9
  rw [e3]
  rw [e3] at hZ
  have hf9 := wd_let_e hf; clear hf; obtain ⟨w4, e5, hf⟩ := hf9
  rw [e5] at hZ
  refine lv_dup hx hb dX10_init_8 rfl ?_
  refine z_aload_n (i := 1) hx hb dX10_init_9 rfl (lv_at hl 1 rfl) ?_
  have hf9 := Option.bind_eq_some_iff.mp hf; clear hf; obtain ⟨w6, hc7, hf⟩ := hf9
  refine z_callI (As := [va_rf p0]) (rest := [.ref a2, .ref this]) (c_X9_init l E n w4 a2 p0 w6 (hZ.k 0 rfl rfl) (fun q hq => hZ.k 2 rfl hq) hc7) mo_X9_init rfl tw_140 tw_279 hx hb hml hts hown hK ⟨Nat.le_trans (by decide) hR.1, Nat.le_trans (by decide) hR.2⟩ hZ rfl hl.1 rfl (Nat.le_of_ble_eq_true rfl) dX10_init_10 ?_; clear hZ; intro H locs cells slots hX hZ
  refine z_putFR (r := (some a2)) rfl hmn rfl fd_1004 cok_10 (tk := 9) rfl (fun q hq => by cases hq; exact (hZ.k 0 rfl rfl)) rfl rfl (wd_obO _) hx hb hts hown hK hZ (hZ.k 1 rfl rfl) tw_288 dX10_init_13 ?_; clear hZ; intro H locs hZ
  have hf9 := wd_let_e hf; clear hf; obtain ⟨w8, e9, hf⟩ := hf9
  rw [e9] at hZ
  obtain rfl := Option.some.inj hf
  exact z_vret hx hb hr hlocks hZ trivial dX10_init_16

def f_X10_begin (n : Nat) (w : Wd) (this : Nat) (p0 : Option Nat) : Option Wd :=
  Option.bind (wd_R w 1004 this) fun a1 =>
  Option.bind (f_X9_takeOver n w a1 p0) fun w2 =>
  some w2
set_option maxHeartbeats 4000000 in
set_option maxRecDepth 100000 in
theorem c_X10_begin (l : Launch) (E : wd_E) (n : Nat) (w : Wd) (this : Nat) (p0 : Option Nat) (w' : Wd) (k_this : wd_K w this = 11) (k_p0 : ∀ q, p0 = some q → wd_K w q = 10) (hf : f_X10_begin n w this p0 = some w') : wd_C l E yX10_begin cX10_begin 2 none 3 103 [.ref this, va_rf p0] w none w' True := by
  refine wd_ofW (own := RX10) (nm := "begin") (ks := [(some this, 11), (p0, 10)]) (lv := [(0, .ref this), (1, va_rf p0)]) (by decide) rfl rfl (by simp [lg_sl, va_rf_cat, va_cat_r, va_cat_i, va_cat_l, va_cat_d]) (by simp [lv_args, va_rf_cat, va_cat_r, va_cat_i, va_cat_l, va_cat_d]) (List.forall_mem_cons.mpr ⟨⟨Nat.succ_ne_zero _, fun q hq => by cases hq; exact k_this⟩, (List.forall_mem_cons.mpr ⟨⟨Nat.succ_ne_zero _, k_p0⟩, (fun _ hq => absurd hq List.not_mem_nil)⟩)⟩) ?_
  intro p e s m args below meth c R H locs cells slots ls C hR hZ hl
  obtain ⟨hx, hb, hr, hml, hts, hown, hlocks, hmn, hK⟩ := id C
  unfold f_X10_begin at hf
  refine lv_aload_n (i := 0) hx hb dX10_begin_0 rfl (lv_at hl 0 rfl) ?_
  refine z_getR (tk := 9) fd_1004 rfl hx hb hts hown hK hZ (hZ.k 0 rfl rfl) tw_288 dX10_begin_1 ?_; clear hZ; intro hZ
  refine z_aload_n (i := 1) hx hb dX10_begin_4 rfl (lv_at hl 1 rfl) ?_
  have hf9 := Option.bind_eq_some_iff.mp hf; clear hf; obtain ⟨a1, ha1, hf⟩ := hf9
  replace hZ := hZ.add (r := some a1) (k := 10) (Nat.succ_ne_zero _) (fun q hq => by cases hq; exact hZ.k 0 rfl ha1)
  rw [ha1]
  have hf9 := Option.bind_eq_some_iff.mp hf; clear hf; obtain ⟨w2, hc3, hf⟩ := hf9
  refine z_callV (ci := 9) (As := [va_rf p0]) (rest := []) (c_X9_takeOver l E n w a1 p0 w2 (hZ.k 0 rfl rfl) (fun q hq => hZ.k 3 rfl hq) hc3) mo_X9_takeOver rfl (by decide) rfl tw_1049 tw_1050 tw_1048 hx hb hml hts hown hK ⟨Nat.le_trans (by decide) hR.1, Nat.le_trans (by decide) hR.2⟩ hZ (hZ.k 0 rfl rfl) rfl hl.1 rfl (Nat.le_of_ble_eq_true rfl) rfl dX10_begin_5 ?_; clear hZ; intro H locs cells slots hX hZ
  obtain rfl := Option.some.inj hf
  exact z_vret hx hb hr hlocks hZ trivial dX10_begin_8

def f_X10_look_j134 (n : Nat) (rec12 : Nat → Option Nat → Int32 → Wd → Option Wd) (x0 : Nat) (x1 : Option Nat) (x2 : Int32) (w : Wd) : Option Wd :=
  wd_let (x2 + (-1)) fun v19 =>
  rec12 x0 x1 v19 w
def f_X10_look_j109 (n : Nat) (rec12 : Nat → Option Nat → Int32 → Wd → Option Wd) (x0 : Nat) (x1 : Option Nat) (x2 : Int32) (x3 : Int32) (w : Wd) : Option Wd :=
  wd_let (wd_sI w 1001 x0 x3) fun w22 =>
  Option.bind x1 fun a24 =>
  wd_b2 (f_X2_notePart n w22 a24 x2 (1 : Int32)) fun r27 w25 =>
  wd_let (wd_sI w25 1002 x0 r27) fun w28 =>
  wd_b2 (f_X2_notePart n w28 a24 x2 (5 : Int32)) fun r32 w30 =>
  wd_let (wd_sI w30 1003 x0 r32) fun w33 =>
  f_X10_look_j134 n rec12 x0 (some a24) x2 w33
def f_X10_look_j88 (n : Nat) (rec12 : Nat → Option Nat → Int32 → Wd → Option Wd) (y0 : Int32) (y1 : Nat) (x0 : Nat) (x1 : Option Nat) (x2 : Int32) (x3 : Int32) (x4 : Int32) (x5 : Int32) (w : Wd) : Option Wd :=
  wd_gd (¬ (y0 = 0 ∨ y0 = 1)) <|
  wd_let (wd_sI w 1000 y1 y0) fun w16 =>
  if (wd_I w16 1001 x0) = (-1 : Int32) then
    if x4 = 0 then
      if x5 = 0 then
        f_X10_look_j134 n rec12 x0 x1 x2 w16
      else
        f_X10_look_j109 n rec12 x0 x1 x2 x3 w16
    else
      f_X10_look_j109 n rec12 x0 x1 x2 x3 w16
  else
    f_X10_look_j134 n rec12 x0 x1 x2 w16
def f_X10_look_j83 (n : Nat) (rec12 : Nat → Option Nat → Int32 → Wd → Option Wd) (y0 : Nat) (x0 : Nat) (x1 : Option Nat) (x2 : Int32) (x3 : Int32) (x4 : Int32) (x5 : Int32) (w : Wd) : Option Wd :=
  f_X10_look_j88 n rec12 (1 : Int32) y0 x0 x1 x2 x3 x4 x5 w
def f_X10_look_j68 (n : Nat) (rec12 : Nat → Option Nat → Int32 → Wd → Option Wd) (y0 : Int32) (x0 : Nat) (x1 : Option Nat) (x2 : Int32) (x3 : Int32) (x4 : Int32) (w : Wd) : Option Wd :=
  if (wd_I w 1000 x0) = 0 then
    if x4 = 0 then
      f_X10_look_j88 n rec12 (0 : Int32) x0 x0 x1 x2 x3 x4 y0 w
    else
      f_X10_look_j83 n rec12 x0 x0 x1 x2 x3 x4 y0 w
  else
    f_X10_look_j83 n rec12 x0 x0 x1 x2 x3 x4 y0 w
def f_X10_look_j63 (n : Nat) (rec12 : Nat → Option Nat → Int32 → Wd → Option Wd) (x0 : Nat) (x1 : Option Nat) (x2 : Int32) (x3 : Int32) (x4 : Int32) (w : Wd) : Option Wd :=
  f_X10_look_j68 n rec12 (1 : Int32) x0 x1 x2 x3 x4 w
def f_X10_look_j46 (n : Nat) (rec12 : Nat → Option Nat → Int32 → Wd → Option Wd) (y0 : Int32) (x0 : Nat) (x1 : Option Nat) (x2 : Int32) (x3 : Int32) (w : Wd) : Option Wd :=
  if x3 = (3 : Int32) then
    f_X10_look_j63 n rec12 x0 x1 x2 x3 y0 w
  else
    if x3 = (4 : Int32) then
      f_X10_look_j63 n rec12 x0 x1 x2 x3 y0 w
    else
      if x3 = (5 : Int32) then
        f_X10_look_j63 n rec12 x0 x1 x2 x3 y0 w
      else
        f_X10_look_j68 n rec12 (0 : Int32) x0 x1 x2 x3 y0 w
def f_X10_look_j45 (n : Nat) (rec12 : Nat → Option Nat → Int32 → Wd → Option Wd) (x0 : Nat) (x1 : Option Nat) (x2 : Int32) (x3 : Int32) (w : Wd) : Option Wd :=
  f_X10_look_j46 n rec12 (0 : Int32) x0 x1 x2 x3 w
def f_X10_look_l12 (n : Nat) (rec12 : Nat → Option Nat → Int32 → Wd → Option Wd) (x0 : Nat) (x1 : Option Nat) (x2 : Int32) (w : Wd) : Option Wd :=
  if x2 < 0 then
    Option.bind x1 fun a5 =>
    wd_let (wd_sI w 1006 x0 (wd_I w 203 a5)) fun w6 =>
    some w6
  else
    Option.bind x1 fun a8 =>
    wd_b2 (f_X2_notePart n w a8 x2 (0 : Int32)) fun r11 w9 =>
    if r11 = (2 : Int32) then
      wd_b2 (f_X2_notePart n w9 a8 x2 (5 : Int32)) fun r41 w39 =>
      if r41 = (wd_I w39 1005 x0) then
        f_X10_look_j46 n rec12 (1 : Int32) x0 (some a8) x2 r11 w39
      else
        f_X10_look_j45 n rec12 x0 (some a8) x2 r11 w39
    else
      f_X10_look_j45 n rec12 x0 (some a8) x2 r11 w9
def f_X10_look (n : Nat) (w : Wd) (this : Nat) (p0 : Option Nat) : Option Wd :=
  Option.bind p0 fun a1 =>
  wd_let (((wd_I w 203 a1) - (wd_I w 1006 this)) - (1 : Int32)) fun v2 =>
  wd_lp4 (f_X10_look_l12 n) n this (some a1) v2 w
set_option maxHeartbeats 4000000 in
set_option maxRecDepth 100000 in
theorem v_X10_look_j134 {p : Program} {l : Launch} {e : Env} {R : Room} {s : State} {m : MethodId} {args : Array Value} {below : List Frame} {meth : Method} {c : Code} {E : wd_E} {w0 : Wd} {w' : Wd} (n : Nat) (C : wd_X p s m args meth c cX10_look RX10 6 none "look" E) (hR : 2 ≤ R.frames ∧ 43 ≤ R.locals) (rec12 : Nat → Option Nat → Int32 → Wd → Option Wd) (hrec12 : ∀ (x0_ : Nat) (x1_ : Option Nat) (x2_ : Int32) (w_ : Wd) (H : Heap) (locs : List Loc) (cells slots : Nat) (ls : Array Slot), wd_Z E w0 R s w_ H locs cells slots [(some x0_, 11), (x1_, 3)] → lv_has ls 6 [(0, .ref x0_), (1, va_rf x1_), (2, .int x2_)] → rec12 x0_ x1_ x2_ w_ = some w' → W p l e R s m args below meth c H locs cells slots (wd_fin E w0 none w' True R args s below) (F0 m 12 ls [])) (x0 : Nat) (x1 : Option Nat) (x2 : Int32) (w : Wd) (H : Heap) (locs : List Loc) (cells slots : Nat) (ls : Array Slot) (hZ : wd_Z E w0 R s w H locs cells slots [(some x0, 11), (x1, 3)]) (hl : lv_has ls 6 [(0, .ref x0), (1, va_rf x1), (2, .int x2)]) (hf : f_X10_look_j134 n rec12 x0 x1 x2 w = some w') : W p l e R s m args below meth c H locs cells slots (wd_fin E w0 none w' True R args s below) (F0 m 134 ls []) := by
  obtain ⟨hx, hb, hr, hml, hts, hown, hlocks, hmn, hK⟩ := id C
  unfold f_X10_look_j134 at hf
  have hf9 := wd_let_e hf; clear hf; obtain ⟨v19, e20, hf⟩ := hf9
  refine lv_iinc (k := 2) (v := v19) (lv' := [(2, .int v19), (0, .ref x0), (1, va_rf x1)]) hx hb dX10_look_134 hl rfl (by rw [← e20]; rfl) (by decide) (by simp [va_rf_cat, va_cat_r, va_cat_i, va_cat_l, va_cat_d]) ?_; clear hl; intro ls hl
  refine lv_goto (tgt := 12) hx hb dX10_look_137 (by decide) ?_
  exact hrec12 x0 x1 v19 w _ _ _ _ _ ⟨hZ.1, hZ.2.1, hZ.2.2.1, hZ.2.2.2.1, (List.forall_mem_cons.mpr ⟨⟨Nat.succ_ne_zero _, (fun q hq => by cases hq; exact (hZ.k 0 rfl rfl))⟩, (List.forall_mem_cons.mpr ⟨⟨Nat.succ_ne_zero _, (fun q hq => hZ.k 1 rfl hq)⟩, (fun _ hq => absurd hq List.not_mem_nil)⟩)⟩), hZ.2.2.2.2.2⟩ (lv_sub hl [1, 2, 0] rfl) hf

set_option maxHeartbeats 4000000 in
set_option maxRecDepth 100000 in
theorem v_X10_look_j109 {p : Program} {l : Launch} {e : Env} {R : Room} {s : State} {m : MethodId} {args : Array Value} {below : List Frame} {meth : Method} {c : Code} {E : wd_E} {w0 : Wd} {w' : Wd} (n : Nat) (C : wd_X p s m args meth c cX10_look RX10 6 none "look" E) (hR : 2 ≤ R.frames ∧ 43 ≤ R.locals) (rec12 : Nat → Option Nat → Int32 → Wd → Option Wd) (hrec12 : ∀ (x0_ : Nat) (x1_ : Option Nat) (x2_ : Int32) (w_ : Wd) (H : Heap) (locs : List Loc) (cells slots : Nat) (ls : Array Slot), wd_Z E w0 R s w_ H locs cells slots [(some x0_, 11), (x1_, 3)] → lv_has ls 6 [(0, .ref x0_), (1, va_rf x1_), (2, .int x2_)] → rec12 x0_ x1_ x2_ w_ = some w' → W p l e R s m args below meth c H locs cells slots (wd_fin E w0 none w' True R args s below) (F0 m 12 ls [])) (x0 : Nat) (x1 : Option Nat) (x2 : Int32) (x3 : Int32) (w : Wd) (H : Heap) (locs : List Loc) (cells slots : Nat) (ls : Array Slot) (hZ : wd_Z E w0 R s w H locs cells slots [(some x0, 11), (x1, 3)]) (hl : lv_has ls 6 [(0, .ref x0), (1, va_rf x1), (2, .int x2), (3, .int x3)]) (hf : f_X10_look_j109 n rec12 x0 x1 x2 x3 w = some w') : W p l e R s m args below meth c H locs cells slots (wd_fin E w0 none w' True R args s below) (F0 m 109 ls []) := by
  obtain ⟨hx, hb, hr, hml, hts, hown, hlocks, hmn, hK⟩ := id C
  unfold f_X10_look_j109 at hf
  refine lv_aload_n (i := 0) hx hb dX10_look_109 rfl (lv_at hl 0 rfl) ?_
  refine lv_iload_n (i := 3) hx hb dX10_look_110 rfl (lv_at hl 3 rfl) ?_
  refine z_putI fd_1001 cok_10 rfl rfl rfl rfl rfl hx hb hts hown hK hZ (hZ.k 0 rfl rfl) tw_282 dX10_look_111 ?_; clear hZ; intro H locs hZ
  have hf9 := wd_let_e hf; clear hf; obtain ⟨w22, e23, hf⟩ := hf9
  rw [e23] at hZ
  refine lv_aload_n (i := 0) hx hb dX10_look_114 rfl (lv_at hl 0 rfl) ?_
  refine z_aload_n (i := 1) hx hb dX10_look_115 rfl (lv_at hl 1 rfl) ?_
  refine lv_iload_n (i := 2) hx hb dX10_look_116 rfl (lv_at hl 2 rfl) ?_
  refine lv_iconst (v := 1) hx hb dX10_look_117 (by decide) ?_
  have hf9 := Option.bind_eq_some_iff.mp hf; clear hf; obtain ⟨a24, ha24, hf⟩ := hf9
  subst ha24
  replace hl : lv_has ls 6 [(0, .ref x0), (1, .ref a24), (2, .int x2), (3, .int x3)] := hl
  replace hZ : wd_Z E w0 R s w22 H locs cells slots [(some x0, 11), (some a24, 3)] := hZ
  have hf9 := wd_b2_e hf; clear hf; obtain ⟨r27, w25, hc26, hf⟩ := hf9
  refine z_callV (ci := 2) (As := [.int x2, .int (1 : Int32)]) (rest := [.ref x0]) (c_X2_notePart l E n w22 a24 x2 (1 : Int32) r27 w25 (hZ.k 1 rfl rfl) hc26) mo_X2_notePart rfl (by decide) rfl tw_479 tw_480 tw_1086 hx hb hml hts hown hK ⟨Nat.le_trans (by decide) hR.1, Nat.le_trans (by decide) hR.2⟩ hZ (hZ.k 1 rfl rfl) rfl hl.1 rfl (Nat.le_of_ble_eq_true rfl) rfl dX10_look_118 ?_; clear hZ; intro H locs cells slots hX hZ
  refine z_putI fd_1002 cok_10 rfl rfl rfl rfl rfl hx hb hts hown hK hZ (hZ.k 0 rfl rfl) tw_284 dX10_look_121 ?_; clear hZ; intro H locs hZ
  have hf9 := wd_let_e hf; clear hf; obtain ⟨w28, e29, hf⟩ := hf9
  rw [e29] at hZ
  refine lv_aload_n (i := 0) hx hb dX10_look_124 rfl (lv_at hl 0 rfl) ?_
  refine lv_aload_n (i := 1) hx hb dX10_look_125 rfl (lv_at hl 1 rfl) ?_
  refine lv_iload_n (i := 2) hx hb dX10_look_126 rfl (lv_at hl 2 rfl) ?_
  refine lv_iconst (v := 5) hx hb dX10_look_127 (by decide) ?_
  have hf9 := wd_b2_e hf; clear hf; obtain ⟨r32, w30, hc31, hf⟩ := hf9
  refine z_callV (ci := 2) (As := [.int x2, .int (5 : Int32)]) (rest := [.ref x0]) (c_X2_notePart l E n w28 a24 x2 (5 : Int32) r32 w30 (hZ.k 1 rfl rfl) hc31) mo_X2_notePart rfl (by decide) rfl tw_479 tw_480 tw_1086 hx hb hml hts hown hK ⟨Nat.le_trans (by decide) hR.1, Nat.le_trans (by decide) hR.2⟩ hZ (hZ.k 1 rfl rfl) rfl hl.1 rfl (Nat.le_of_ble_eq_true rfl) rfl dX10_look_128 ?_; clear hZ; intro H locs cells slots hX hZ
  refine z_putI fd_1003 cok_10 rfl rfl rfl rfl rfl hx hb hts hown hK hZ (hZ.k 0 rfl rfl) tw_286 dX10_look_131 ?_; clear hZ; intro H locs hZ
  have hf9 := wd_let_e hf; clear hf; obtain ⟨w33, e34, hf⟩ := hf9
  rw [e34] at hZ
  exact v_X10_look_j134 n C hR rec12 hrec12 x0 (some a24) x2 w33 _ _ _ _ _ ⟨hZ.1, hZ.2.1, hZ.2.2.1, hZ.2.2.2.1, (List.forall_mem_cons.mpr ⟨⟨Nat.succ_ne_zero _, (fun q hq => by cases hq; exact (hZ.k 0 rfl rfl))⟩, (List.forall_mem_cons.mpr ⟨⟨Nat.succ_ne_zero _, (fun q hq => by cases hq; exact (hZ.k 1 rfl rfl))⟩, (fun _ hq => absurd hq List.not_mem_nil)⟩)⟩), hZ.2.2.2.2.2⟩ (lv_sub hl [0, 1, 2] rfl) hf

set_option maxHeartbeats 4000000 in
set_option maxRecDepth 100000 in
theorem v_X10_look_j88 {p : Program} {l : Launch} {e : Env} {R : Room} {s : State} {m : MethodId} {args : Array Value} {below : List Frame} {meth : Method} {c : Code} {E : wd_E} {w0 : Wd} {w' : Wd} (n : Nat) (C : wd_X p s m args meth c cX10_look RX10 6 none "look" E) (hR : 2 ≤ R.frames ∧ 43 ≤ R.locals) (rec12 : Nat → Option Nat → Int32 → Wd → Option Wd) (hrec12 : ∀ (x0_ : Nat) (x1_ : Option Nat) (x2_ : Int32) (w_ : Wd) (H : Heap) (locs : List Loc) (cells slots : Nat) (ls : Array Slot), wd_Z E w0 R s w_ H locs cells slots [(some x0_, 11), (x1_, 3)] → lv_has ls 6 [(0, .ref x0_), (1, va_rf x1_), (2, .int x2_)] → rec12 x0_ x1_ x2_ w_ = some w' → W p l e R s m args below meth c H locs cells slots (wd_fin E w0 none w' True R args s below) (F0 m 12 ls [])) (y0 : Int32) (y1 : Nat) (x0 : Nat) (x1 : Option Nat) (x2 : Int32) (x3 : Int32) (x4 : Int32) (x5 : Int32) (w : Wd) (H : Heap) (locs : List Loc) (cells slots : Nat) (ls : Array Slot) (hZ : wd_Z E w0 R s w H locs cells slots [(some y1, 11), (some x0, 11), (x1, 3)]) (hl : lv_has ls 6 [(0, .ref x0), (1, va_rf x1), (2, .int x2), (3, .int x3), (4, .int x4), (5, .int x5)]) (hf : f_X10_look_j88 n rec12 y0 y1 x0 x1 x2 x3 x4 x5 w = some w') : W p l e R s m args below meth c H locs cells slots (wd_fin E w0 none w' True R args s below) (F0 m 88 ls [.int y0, .ref y1]) := by
  obtain ⟨hx, hb, hr, hml, hts, hown, hlocks, hmn, hK⟩ := id C
  unfold f_X10_look_j88 at hf
  have hf9 := wd_gd_e hf; clear hf; obtain ⟨h15, hf⟩ := hf9
  refine z_putI fd_1000 cok_10 rfl rfl rfl (wd_zn h15) (wd_zf h15) hx hb hts hown hK hZ (hZ.k 0 rfl rfl) tw_280 dX10_look_88 ?_; clear hZ; intro H locs hZ
  have hf9 := wd_let_e hf; clear hf; obtain ⟨w16, e17, hf⟩ := hf9
  rw [e17] at hZ
  refine lv_aload_n (i := 0) hx hb dX10_look_91 rfl (lv_at hl 0 rfl) ?_
  refine z_getI fd_1001 rfl hx hb hts hown hK hZ (hZ.k 1 rfl rfl) tw_282 dX10_look_92 ?_
  refine lv_iconst (v := -1) hx hb dX10_look_95 (by decide) ?_
  refine lv_icmp_ne (tgt := 134) hx hb dX10_look_96 (by decide) (fun h18 => ?_) (fun h18 => ?_)
  · replace hf := wd_ite_n h18 hf
    exact v_X10_look_j134 n C hR rec12 hrec12 x0 x1 x2 w16 _ _ _ _ _ ⟨hZ.1, hZ.2.1, hZ.2.2.1, hZ.2.2.2.1, (List.forall_mem_cons.mpr ⟨⟨Nat.succ_ne_zero _, (fun q hq => by cases hq; exact (hZ.k 1 rfl rfl))⟩, (List.forall_mem_cons.mpr ⟨⟨Nat.succ_ne_zero _, (fun q hq => hZ.k 2 rfl hq)⟩, (fun _ hq => absurd hq List.not_mem_nil)⟩)⟩), hZ.2.2.2.2.2⟩ (lv_sub hl [0, 1, 2] rfl) hf
  · replace hf := wd_ite_p h18 hf
    refine lv_iload hx hb dX10_look_99 (lv_at hl 4 rfl) ?_
    refine lv_if_ne (tgt := 109) hx hb dX10_look_101 (by decide) (fun h21 => ?_) (fun h21 => ?_)
    · replace hf := wd_ite_n h21 hf
      exact v_X10_look_j109 n C hR rec12 hrec12 x0 x1 x2 x3 w16 _ _ _ _ _ ⟨hZ.1, hZ.2.1, hZ.2.2.1, hZ.2.2.2.1, (List.forall_mem_cons.mpr ⟨⟨Nat.succ_ne_zero _, (fun q hq => by cases hq; exact (hZ.k 1 rfl rfl))⟩, (List.forall_mem_cons.mpr ⟨⟨Nat.succ_ne_zero _, (fun q hq => hZ.k 2 rfl hq)⟩, (fun _ hq => absurd hq List.not_mem_nil)⟩)⟩), hZ.2.2.2.2.2⟩ (lv_sub hl [0, 1, 2, 3] rfl) hf
    · replace hf := wd_ite_p h21 hf
      refine lv_iload hx hb dX10_look_104 (lv_at hl 5 rfl) ?_
      refine lv_if_eq (tgt := 134) hx hb dX10_look_106 (by decide) (fun h35 => ?_) (fun h35 => ?_)
      · replace hf := wd_ite_p h35 hf
        exact v_X10_look_j134 n C hR rec12 hrec12 x0 x1 x2 w16 _ _ _ _ _ ⟨hZ.1, hZ.2.1, hZ.2.2.1, hZ.2.2.2.1, (List.forall_mem_cons.mpr ⟨⟨Nat.succ_ne_zero _, (fun q hq => by cases hq; exact (hZ.k 1 rfl rfl))⟩, (List.forall_mem_cons.mpr ⟨⟨Nat.succ_ne_zero _, (fun q hq => hZ.k 2 rfl hq)⟩, (fun _ hq => absurd hq List.not_mem_nil)⟩)⟩), hZ.2.2.2.2.2⟩ (lv_sub hl [0, 1, 2] rfl) hf
      · replace hf := wd_ite_n h35 hf
        exact v_X10_look_j109 n C hR rec12 hrec12 x0 x1 x2 x3 w16 _ _ _ _ _ ⟨hZ.1, hZ.2.1, hZ.2.2.1, hZ.2.2.2.1, (List.forall_mem_cons.mpr ⟨⟨Nat.succ_ne_zero _, (fun q hq => by cases hq; exact (hZ.k 1 rfl rfl))⟩, (List.forall_mem_cons.mpr ⟨⟨Nat.succ_ne_zero _, (fun q hq => hZ.k 2 rfl hq)⟩, (fun _ hq => absurd hq List.not_mem_nil)⟩)⟩), hZ.2.2.2.2.2⟩ (lv_sub hl [0, 1, 2, 3] rfl) hf

set_option maxHeartbeats 4000000 in
set_option maxRecDepth 100000 in
theorem v_X10_look_j83 {p : Program} {l : Launch} {e : Env} {R : Room} {s : State} {m : MethodId} {args : Array Value} {below : List Frame} {meth : Method} {c : Code} {E : wd_E} {w0 : Wd} {w' : Wd} (n : Nat) (C : wd_X p s m args meth c cX10_look RX10 6 none "look" E) (hR : 2 ≤ R.frames ∧ 43 ≤ R.locals) (rec12 : Nat → Option Nat → Int32 → Wd → Option Wd) (hrec12 : ∀ (x0_ : Nat) (x1_ : Option Nat) (x2_ : Int32) (w_ : Wd) (H : Heap) (locs : List Loc) (cells slots : Nat) (ls : Array Slot), wd_Z E w0 R s w_ H locs cells slots [(some x0_, 11), (x1_, 3)] → lv_has ls 6 [(0, .ref x0_), (1, va_rf x1_), (2, .int x2_)] → rec12 x0_ x1_ x2_ w_ = some w' → W p l e R s m args below meth c H locs cells slots (wd_fin E w0 none w' True R args s below) (F0 m 12 ls [])) (y0 : Nat) (x0 : Nat) (x1 : Option Nat) (x2 : Int32) (x3 : Int32) (x4 : Int32) (x5 : Int32) (w : Wd) (H : Heap) (locs : List Loc) (cells slots : Nat) (ls : Array Slot) (hZ : wd_Z E w0 R s w H locs cells slots [(some y0, 11), (some x0, 11), (x1, 3)]) (hl : lv_has ls 6 [(0, .ref x0), (1, va_rf x1), (2, .int x2), (3, .int x3), (4, .int x4), (5, .int x5)]) (hf : f_X10_look_j83 n rec12 y0 x0 x1 x2 x3 x4 x5 w = some w') : W p l e R s m args below meth c H locs cells slots (wd_fin E w0 none w' True R args s below) (F0 m 83 ls [.ref y0]) := by
  obtain ⟨hx, hb, hr, hml, hts, hown, hlocks, hmn, hK⟩ := id C
  unfold f_X10_look_j83 at hf
  refine lv_iconst (v := 1) hx hb dX10_look_83 (by decide) ?_
  refine lv_goto (tgt := 88) hx hb dX10_look_84 (by decide) ?_
  exact v_X10_look_j88 n C hR rec12 hrec12 (1 : Int32) y0 x0 x1 x2 x3 x4 x5 w _ _ _ _ _ ⟨hZ.1, hZ.2.1, hZ.2.2.1, hZ.2.2.2.1, (List.forall_mem_cons.mpr ⟨⟨Nat.succ_ne_zero _, (fun q hq => by cases hq; exact (hZ.k 0 rfl rfl))⟩, (List.forall_mem_cons.mpr ⟨⟨Nat.succ_ne_zero _, (fun q hq => by cases hq; exact (hZ.k 1 rfl rfl))⟩, (List.forall_mem_cons.mpr ⟨⟨Nat.succ_ne_zero _, (fun q hq => hZ.k 2 rfl hq)⟩, (fun _ hq => absurd hq List.not_mem_nil)⟩)⟩)⟩), hZ.2.2.2.2.2⟩ (lv_sub hl [0, 1, 2, 3, 4, 5] rfl) hf

set_option maxHeartbeats 4000000 in
set_option maxRecDepth 100000 in
theorem v_X10_look_j68 {p : Program} {l : Launch} {e : Env} {R : Room} {s : State} {m : MethodId} {args : Array Value} {below : List Frame} {meth : Method} {c : Code} {E : wd_E} {w0 : Wd} {w' : Wd} (n : Nat) (C : wd_X p s m args meth c cX10_look RX10 6 none "look" E) (hR : 2 ≤ R.frames ∧ 43 ≤ R.locals) (rec12 : Nat → Option Nat → Int32 → Wd → Option Wd) (hrec12 : ∀ (x0_ : Nat) (x1_ : Option Nat) (x2_ : Int32) (w_ : Wd) (H : Heap) (locs : List Loc) (cells slots : Nat) (ls : Array Slot), wd_Z E w0 R s w_ H locs cells slots [(some x0_, 11), (x1_, 3)] → lv_has ls 6 [(0, .ref x0_), (1, va_rf x1_), (2, .int x2_)] → rec12 x0_ x1_ x2_ w_ = some w' → W p l e R s m args below meth c H locs cells slots (wd_fin E w0 none w' True R args s below) (F0 m 12 ls [])) (y0 : Int32) (x0 : Nat) (x1 : Option Nat) (x2 : Int32) (x3 : Int32) (x4 : Int32) (w : Wd) (H : Heap) (locs : List Loc) (cells slots : Nat) (ls : Array Slot) (hZ : wd_Z E w0 R s w H locs cells slots [(some x0, 11), (x1, 3)]) (hl : lv_has ls 6 [(0, .ref x0), (1, va_rf x1), (2, .int x2), (3, .int x3), (4, .int x4)]) (hf : f_X10_look_j68 n rec12 y0 x0 x1 x2 x3 x4 w = some w') : W p l e R s m args below meth c H locs cells slots (wd_fin E w0 none w' True R args s below) (F0 m 68 ls [.int y0]) := by
  obtain ⟨hx, hb, hr, hml, hts, hown, hlocks, hmn, hK⟩ := id C
  unfold f_X10_look_j68 at hf
  refine lv_istore (i := 5) (lv' := [(5, .int y0), (0, .ref x0), (1, va_rf x1), (2, .int x2), (3, .int x3), (4, .int x4)]) hx hb dX10_look_68 hl (by decide) rfl ?_; clear hl; intro ls hl
  refine lv_aload_n (i := 0) hx hb dX10_look_70 rfl (lv_at hl 1 rfl) ?_
  refine lv_aload_n (i := 0) hx hb dX10_look_71 rfl (lv_at hl 1 rfl) ?_
  refine z_getI fd_1000 rfl hx hb hts hown hK hZ (hZ.k 0 rfl rfl) tw_280 dX10_look_72 ?_
  refine lv_if_ne (tgt := 83) hx hb dX10_look_75 (by decide) (fun h14 => ?_) (fun h14 => ?_)
  · replace hf := wd_ite_n h14 hf
    exact v_X10_look_j83 n C hR rec12 hrec12 x0 x0 x1 x2 x3 x4 y0 w _ _ _ _ _ ⟨hZ.1, hZ.2.1, hZ.2.2.1, hZ.2.2.2.1, (List.forall_mem_cons.mpr ⟨⟨Nat.succ_ne_zero _, (fun q hq => by cases hq; exact (hZ.k 0 rfl rfl))⟩, (List.forall_mem_cons.mpr ⟨⟨Nat.succ_ne_zero _, (fun q hq => by cases hq; exact (hZ.k 0 rfl rfl))⟩, (List.forall_mem_cons.mpr ⟨⟨Nat.succ_ne_zero _, (fun q hq => hZ.k 1 rfl hq)⟩, (fun _ hq => absurd hq List.not_mem_nil)⟩)⟩)⟩), hZ.2.2.2.2.2⟩ (lv_sub hl [1, 2, 3, 4, 5, 0] rfl) hf
  · replace hf := wd_ite_p h14 hf
    refine lv_iload hx hb dX10_look_78 (lv_at hl 5 rfl) ?_
    refine lv_if_eq (tgt := 87) hx hb dX10_look_80 (by decide) (fun h36 => ?_) (fun h36 => ?_)
    · replace hf := wd_ite_p h36 hf
      refine lv_iconst (v := 0) hx hb dX10_look_87 (by decide) ?_
      exact v_X10_look_j88 n C hR rec12 hrec12 (0 : Int32) x0 x0 x1 x2 x3 x4 y0 w _ _ _ _ _ ⟨hZ.1, hZ.2.1, hZ.2.2.1, hZ.2.2.2.1, (List.forall_mem_cons.mpr ⟨⟨Nat.succ_ne_zero _, (fun q hq => by cases hq; exact (hZ.k 0 rfl rfl))⟩, (List.forall_mem_cons.mpr ⟨⟨Nat.succ_ne_zero _, (fun q hq => by cases hq; exact (hZ.k 0 rfl rfl))⟩, (List.forall_mem_cons.mpr ⟨⟨Nat.succ_ne_zero _, (fun q hq => hZ.k 1 rfl hq)⟩, (fun _ hq => absurd hq List.not_mem_nil)⟩)⟩)⟩), hZ.2.2.2.2.2⟩ (lv_sub hl [1, 2, 3, 4, 5, 0] rfl) hf
    · replace hf := wd_ite_n h36 hf
      exact v_X10_look_j83 n C hR rec12 hrec12 x0 x0 x1 x2 x3 x4 y0 w _ _ _ _ _ ⟨hZ.1, hZ.2.1, hZ.2.2.1, hZ.2.2.2.1, (List.forall_mem_cons.mpr ⟨⟨Nat.succ_ne_zero _, (fun q hq => by cases hq; exact (hZ.k 0 rfl rfl))⟩, (List.forall_mem_cons.mpr ⟨⟨Nat.succ_ne_zero _, (fun q hq => by cases hq; exact (hZ.k 0 rfl rfl))⟩, (List.forall_mem_cons.mpr ⟨⟨Nat.succ_ne_zero _, (fun q hq => hZ.k 1 rfl hq)⟩, (fun _ hq => absurd hq List.not_mem_nil)⟩)⟩)⟩), hZ.2.2.2.2.2⟩ (lv_sub hl [1, 2, 3, 4, 5, 0] rfl) hf

set_option maxHeartbeats 4000000 in
set_option maxRecDepth 100000 in
theorem v_X10_look_j63 {p : Program} {l : Launch} {e : Env} {R : Room} {s : State} {m : MethodId} {args : Array Value} {below : List Frame} {meth : Method} {c : Code} {E : wd_E} {w0 : Wd} {w' : Wd} (n : Nat) (C : wd_X p s m args meth c cX10_look RX10 6 none "look" E) (hR : 2 ≤ R.frames ∧ 43 ≤ R.locals) (rec12 : Nat → Option Nat → Int32 → Wd → Option Wd) (hrec12 : ∀ (x0_ : Nat) (x1_ : Option Nat) (x2_ : Int32) (w_ : Wd) (H : Heap) (locs : List Loc) (cells slots : Nat) (ls : Array Slot), wd_Z E w0 R s w_ H locs cells slots [(some x0_, 11), (x1_, 3)] → lv_has ls 6 [(0, .ref x0_), (1, va_rf x1_), (2, .int x2_)] → rec12 x0_ x1_ x2_ w_ = some w' → W p l e R s m args below meth c H locs cells slots (wd_fin E w0 none w' True R args s below) (F0 m 12 ls [])) (x0 : Nat) (x1 : Option Nat) (x2 : Int32) (x3 : Int32) (x4 : Int32) (w : Wd) (H : Heap) (locs : List Loc) (cells slots : Nat) (ls : Array Slot) (hZ : wd_Z E w0 R s w H locs cells slots [(some x0, 11), (x1, 3)]) (hl : lv_has ls 6 [(0, .ref x0), (1, va_rf x1), (2, .int x2), (3, .int x3), (4, .int x4)]) (hf : f_X10_look_j63 n rec12 x0 x1 x2 x3 x4 w = some w') : W p l e R s m args below meth c H locs cells slots (wd_fin E w0 none w' True R args s below) (F0 m 63 ls []) := by
  obtain ⟨hx, hb, hr, hml, hts, hown, hlocks, hmn, hK⟩ := id C
  unfold f_X10_look_j63 at hf
  refine lv_iconst (v := 1) hx hb dX10_look_63 (by decide) ?_
  refine lv_goto (tgt := 68) hx hb dX10_look_64 (by decide) ?_
  exact v_X10_look_j68 n C hR rec12 hrec12 (1 : Int32) x0 x1 x2 x3 x4 w _ _ _ _ _ ⟨hZ.1, hZ.2.1, hZ.2.2.1, hZ.2.2.2.1, (List.forall_mem_cons.mpr ⟨⟨Nat.succ_ne_zero _, (fun q hq => by cases hq; exact (hZ.k 0 rfl rfl))⟩, (List.forall_mem_cons.mpr ⟨⟨Nat.succ_ne_zero _, (fun q hq => hZ.k 1 rfl hq)⟩, (fun _ hq => absurd hq List.not_mem_nil)⟩)⟩), hZ.2.2.2.2.2⟩ (lv_sub hl [0, 1, 2, 3, 4] rfl) hf

set_option maxHeartbeats 4000000 in
set_option maxRecDepth 100000 in
theorem v_X10_look_j46 {p : Program} {l : Launch} {e : Env} {R : Room} {s : State} {m : MethodId} {args : Array Value} {below : List Frame} {meth : Method} {c : Code} {E : wd_E} {w0 : Wd} {w' : Wd} (n : Nat) (C : wd_X p s m args meth c cX10_look RX10 6 none "look" E) (hR : 2 ≤ R.frames ∧ 43 ≤ R.locals) (rec12 : Nat → Option Nat → Int32 → Wd → Option Wd) (hrec12 : ∀ (x0_ : Nat) (x1_ : Option Nat) (x2_ : Int32) (w_ : Wd) (H : Heap) (locs : List Loc) (cells slots : Nat) (ls : Array Slot), wd_Z E w0 R s w_ H locs cells slots [(some x0_, 11), (x1_, 3)] → lv_has ls 6 [(0, .ref x0_), (1, va_rf x1_), (2, .int x2_)] → rec12 x0_ x1_ x2_ w_ = some w' → W p l e R s m args below meth c H locs cells slots (wd_fin E w0 none w' True R args s below) (F0 m 12 ls [])) (y0 : Int32) (x0 : Nat) (x1 : Option Nat) (x2 : Int32) (x3 : Int32) (w : Wd) (H : Heap) (locs : List Loc) (cells slots : Nat) (ls : Array Slot) (hZ : wd_Z E w0 R s w H locs cells slots [(some x0, 11), (x1, 3)]) (hl : lv_has ls 6 [(0, .ref x0), (1, va_rf x1), (2, .int x2), (3, .int x3)]) (hf : f_X10_look_j46 n rec12 y0 x0 x1 x2 x3 w = some w') : W p l e R s m args below meth c H locs cells slots (wd_fin E w0 none w' True R args s below) (F0 m 46 ls [.int y0]) := by
  obtain ⟨hx, hb, hr, hml, hts, hown, hlocks, hmn, hK⟩ := id C
  unfold f_X10_look_j46 at hf
  refine lv_istore (i := 4) (lv' := [(4, .int y0), (0, .ref x0), (1, va_rf x1), (2, .int x2), (3, .int x3)]) hx hb dX10_look_46 hl (by decide) rfl ?_; clear hl; intro ls hl
  refine lv_iload_n (i := 3) hx hb dX10_look_48 rfl (lv_at hl 4 rfl) ?_
  refine lv_iconst (v := 3) hx hb dX10_look_49 (by decide) ?_
  refine lv_icmp_eq (tgt := 63) hx hb dX10_look_50 (by decide) (fun h13 => ?_) (fun h13 => ?_)
  · replace hf := wd_ite_p h13 hf
    exact v_X10_look_j63 n C hR rec12 hrec12 x0 x1 x2 x3 y0 w _ _ _ _ _ ⟨hZ.1, hZ.2.1, hZ.2.2.1, hZ.2.2.2.1, (List.forall_mem_cons.mpr ⟨⟨Nat.succ_ne_zero _, (fun q hq => by cases hq; exact (hZ.k 0 rfl rfl))⟩, (List.forall_mem_cons.mpr ⟨⟨Nat.succ_ne_zero _, (fun q hq => hZ.k 1 rfl hq)⟩, (fun _ hq => absurd hq List.not_mem_nil)⟩)⟩), hZ.2.2.2.2.2⟩ (lv_sub hl [1, 2, 3, 4, 0] rfl) hf
  · replace hf := wd_ite_n h13 hf
    refine lv_iload_n (i := 3) hx hb dX10_look_53 rfl (lv_at hl 4 rfl) ?_
    refine lv_iconst (v := 4) hx hb dX10_look_54 (by decide) ?_
    refine lv_icmp_eq (tgt := 63) hx hb dX10_look_55 (by decide) (fun h37 => ?_) (fun h37 => ?_)
    · replace hf := wd_ite_p h37 hf
      exact v_X10_look_j63 n C hR rec12 hrec12 x0 x1 x2 x3 y0 w _ _ _ _ _ ⟨hZ.1, hZ.2.1, hZ.2.2.1, hZ.2.2.2.1, (List.forall_mem_cons.mpr ⟨⟨Nat.succ_ne_zero _, (fun q hq => by cases hq; exact (hZ.k 0 rfl rfl))⟩, (List.forall_mem_cons.mpr ⟨⟨Nat.succ_ne_zero _, (fun q hq => hZ.k 1 rfl hq)⟩, (fun _ hq => absurd hq List.not_mem_nil)⟩)⟩), hZ.2.2.2.2.2⟩ (lv_sub hl [1, 2, 3, 4, 0] rfl) hf
    · replace hf := wd_ite_n h37 hf
      refine lv_iload_n (i := 3) hx hb dX10_look_58 rfl (lv_at hl 4 rfl) ?_
      refine lv_iconst (v := 5) hx hb dX10_look_59 (by decide) ?_
      refine lv_icmp_ne (tgt := 67) hx hb dX10_look_60 (by decide) (fun h38 => ?_) (fun h38 => ?_)
      · replace hf := wd_ite_n h38 hf
        refine lv_iconst (v := 0) hx hb dX10_look_67 (by decide) ?_
        exact v_X10_look_j68 n C hR rec12 hrec12 (0 : Int32) x0 x1 x2 x3 y0 w _ _ _ _ _ ⟨hZ.1, hZ.2.1, hZ.2.2.1, hZ.2.2.2.1, (List.forall_mem_cons.mpr ⟨⟨Nat.succ_ne_zero _, (fun q hq => by cases hq; exact (hZ.k 0 rfl rfl))⟩, (List.forall_mem_cons.mpr ⟨⟨Nat.succ_ne_zero _, (fun q hq => hZ.k 1 rfl hq)⟩, (fun _ hq => absurd hq List.not_mem_nil)⟩)⟩), hZ.2.2.2.2.2⟩ (lv_sub hl [1, 2, 3, 4, 0] rfl) hf
      · replace hf := wd_ite_p h38 hf
        exact v_X10_look_j63 n C hR rec12 hrec12 x0 x1 x2 x3 y0 w _ _ _ _ _ ⟨hZ.1, hZ.2.1, hZ.2.2.1, hZ.2.2.2.1, (List.forall_mem_cons.mpr ⟨⟨Nat.succ_ne_zero _, (fun q hq => by cases hq; exact (hZ.k 0 rfl rfl))⟩, (List.forall_mem_cons.mpr ⟨⟨Nat.succ_ne_zero _, (fun q hq => hZ.k 1 rfl hq)⟩, (fun _ hq => absurd hq List.not_mem_nil)⟩)⟩), hZ.2.2.2.2.2⟩ (lv_sub hl [1, 2, 3, 4, 0] rfl) hf

set_option maxHeartbeats 4000000 in
set_option maxRecDepth 100000 in
theorem v_X10_look_j45 {p : Program} {l : Launch} {e : Env} {R : Room} {s : State} {m : MethodId} {args : Array Value} {below : List Frame} {meth : Method} {c : Code} {E : wd_E} {w0 : Wd} {w' : Wd} (n : Nat) (C : wd_X p s m args meth c cX10_look RX10 6 none "look" E) (hR : 2 ≤ R.frames ∧ 43 ≤ R.locals) (rec12 : Nat → Option Nat → Int32 → Wd → Option Wd) (hrec12 : ∀ (x0_ : Nat) (x1_ : Option Nat) (x2_ : Int32) (w_ : Wd) (H : Heap) (locs : List Loc) (cells slots : Nat) (ls : Array Slot), wd_Z E w0 R s w_ H locs cells slots [(some x0_, 11), (x1_, 3)] → lv_has ls 6 [(0, .ref x0_), (1, va_rf x1_), (2, .int x2_)] → rec12 x0_ x1_ x2_ w_ = some w' → W p l e R s m args below meth c H locs cells slots (wd_fin E w0 none w' True R args s below) (F0 m 12 ls [])) (x0 : Nat) (x1 : Option Nat) (x2 : Int32) (x3 : Int32) (w : Wd) (H : Heap) (locs : List Loc) (cells slots : Nat) (ls : Array Slot) (hZ : wd_Z E w0 R s w H locs cells slots [(some x0, 11), (x1, 3)]) (hl : lv_has ls 6 [(0, .ref x0), (1, va_rf x1), (2, .int x2), (3, .int x3)]) (hf : f_X10_look_j45 n rec12 x0 x1 x2 x3 w = some w') : W p l e R s m args below meth c H locs cells slots (wd_fin E w0 none w' True R args s below) (F0 m 45 ls []) := by
  obtain ⟨hx, hb, hr, hml, hts, hown, hlocks, hmn, hK⟩ := id C
  unfold f_X10_look_j45 at hf
  refine lv_iconst (v := 0) hx hb dX10_look_45 (by decide) ?_
  exact v_X10_look_j46 n C hR rec12 hrec12 (0 : Int32) x0 x1 x2 x3 w _ _ _ _ _ ⟨hZ.1, hZ.2.1, hZ.2.2.1, hZ.2.2.2.1, (List.forall_mem_cons.mpr ⟨⟨Nat.succ_ne_zero _, (fun q hq => by cases hq; exact (hZ.k 0 rfl rfl))⟩, (List.forall_mem_cons.mpr ⟨⟨Nat.succ_ne_zero _, (fun q hq => hZ.k 1 rfl hq)⟩, (fun _ hq => absurd hq List.not_mem_nil)⟩)⟩), hZ.2.2.2.2.2⟩ (lv_sub hl [0, 1, 2, 3] rfl) hf

set_option maxHeartbeats 4000000 in
set_option maxRecDepth 100000 in
theorem v_X10_look_b12 {p : Program} {l : Launch} {e : Env} {R : Room} {s : State} {m : MethodId} {args : Array Value} {below : List Frame} {meth : Method} {c : Code} {E : wd_E} {w0 : Wd} {w' : Wd} (n : Nat) (C : wd_X p s m args meth c cX10_look RX10 6 none "look" E) (hR : 2 ≤ R.frames ∧ 43 ≤ R.locals) (rec12 : Nat → Option Nat → Int32 → Wd → Option Wd) (hrec12 : ∀ (x0_ : Nat) (x1_ : Option Nat) (x2_ : Int32) (w_ : Wd) (H : Heap) (locs : List Loc) (cells slots : Nat) (ls : Array Slot), wd_Z E w0 R s w_ H locs cells slots [(some x0_, 11), (x1_, 3)] → lv_has ls 6 [(0, .ref x0_), (1, va_rf x1_), (2, .int x2_)] → rec12 x0_ x1_ x2_ w_ = some w' → W p l e R s m args below meth c H locs cells slots (wd_fin E w0 none w' True R args s below) (F0 m 12 ls [])) (x0 : Nat) (x1 : Option Nat) (x2 : Int32) (w : Wd) (H : Heap) (locs : List Loc) (cells slots : Nat) (ls : Array Slot) (hZ : wd_Z E w0 R s w H locs cells slots [(some x0, 11), (x1, 3)]) (hl : lv_has ls 6 [(0, .ref x0), (1, va_rf x1), (2, .int x2)]) (hf : f_X10_look_l12 n rec12 x0 x1 x2 w = some w') : W p l e R s m args below meth c H locs cells slots (wd_fin E w0 none w' True R args s below) (F0 m 12 ls []) := by
  obtain ⟨hx, hb, hr, hml, hts, hown, hlocks, hmn, hK⟩ := id C
  unfold f_X10_look_l12 at hf
  refine lv_iload_n (i := 2) hx hb dX10_look_12 rfl (lv_at hl 2 rfl) ?_
  refine lv_if_lt (tgt := 140) hx hb dX10_look_13 (by decide) (fun h4 => ?_) (fun h4 => ?_)
  · replace hf := wd_ite_p h4 hf
    refine lv_aload_n (i := 0) hx hb dX10_look_140 rfl (lv_at hl 0 rfl) ?_
    refine z_aload_n (i := 1) hx hb dX10_look_141 rfl (lv_at hl 1 rfl) ?_
    have hf9 := Option.bind_eq_some_iff.mp hf; clear hf; obtain ⟨a5, ha5, hf⟩ := hf9
    subst ha5
    replace hl : lv_has ls 6 [(0, .ref x0), (1, .ref a5), (2, .int x2)] := hl
    replace hZ : wd_Z E w0 R s w H locs cells slots [(some x0, 11), (some a5, 3)] := hZ
    refine z_getI fd_203 rfl hx hb hts hown hK hZ (hZ.k 1 rfl rfl) tw_212 dX10_look_142 ?_
    refine z_putI fd_1006 cok_10 rfl rfl rfl rfl rfl hx hb hts hown hK hZ (hZ.k 0 rfl rfl) tw_290 dX10_look_145 ?_; clear hZ; intro H locs hZ
    have hf9 := wd_let_e hf; clear hf; obtain ⟨w6, e7, hf⟩ := hf9
    rw [e7] at hZ
    obtain rfl := Option.some.inj hf
    exact z_vret hx hb hr hlocks hZ trivial dX10_look_148
  · replace hf := wd_ite_n h4 hf
    refine z_aload_n (i := 1) hx hb dX10_look_16 rfl (lv_at hl 1 rfl) ?_
    refine lv_iload_n (i := 2) hx hb dX10_look_17 rfl (lv_at hl 2 rfl) ?_
    refine lv_iconst (v := 0) hx hb dX10_look_18 (by decide) ?_
    have hf9 := Option.bind_eq_some_iff.mp hf; clear hf; obtain ⟨a8, ha8, hf⟩ := hf9
    subst ha8
    replace hl : lv_has ls 6 [(0, .ref x0), (1, .ref a8), (2, .int x2)] := hl
    replace hZ : wd_Z E w0 R s w H locs cells slots [(some x0, 11), (some a8, 3)] := hZ
    have hf9 := wd_b2_e hf; clear hf; obtain ⟨r11, w9, hc10, hf⟩ := hf9
    refine z_callV (ci := 2) (As := [.int x2, .int (0 : Int32)]) (rest := []) (c_X2_notePart l E n w a8 x2 (0 : Int32) r11 w9 (hZ.k 1 rfl rfl) hc10) mo_X2_notePart rfl (by decide) rfl tw_479 tw_480 tw_1086 hx hb hml hts hown hK ⟨Nat.le_trans (by decide) hR.1, Nat.le_trans (by decide) hR.2⟩ hZ (hZ.k 1 rfl rfl) rfl hl.1 rfl (Nat.le_of_ble_eq_true rfl) rfl dX10_look_19 ?_; clear hZ; intro H locs cells slots hX hZ
    refine lv_istore_n (i := 3) (lv' := [(3, .int r11), (0, .ref x0), (1, .ref a8), (2, .int x2)]) hx hb dX10_look_22 rfl hl (by decide) rfl ?_; clear hl; intro ls hl
    refine lv_iload_n (i := 3) hx hb dX10_look_23 rfl (lv_at hl 0 rfl) ?_
    refine lv_iconst (v := 2) hx hb dX10_look_24 (by decide) ?_
    refine lv_icmp_ne (tgt := 45) hx hb dX10_look_25 (by decide) (fun h12 => ?_) (fun h12 => ?_)
    · replace hf := wd_ite_n h12 hf
      exact v_X10_look_j45 n C hR rec12 hrec12 x0 (some a8) x2 r11 w9 _ _ _ _ _ ⟨hZ.1, hZ.2.1, hZ.2.2.1, hZ.2.2.2.1, (List.forall_mem_cons.mpr ⟨⟨Nat.succ_ne_zero _, (fun q hq => by cases hq; exact (hZ.k 0 rfl rfl))⟩, (List.forall_mem_cons.mpr ⟨⟨Nat.succ_ne_zero _, (fun q hq => by cases hq; exact (hZ.k 1 rfl rfl))⟩, (fun _ hq => absurd hq List.not_mem_nil)⟩)⟩), hZ.2.2.2.2.2⟩ (lv_sub hl [1, 2, 3, 0] rfl) hf
    · replace hf := wd_ite_p h12 hf
      refine lv_aload_n (i := 1) hx hb dX10_look_28 rfl (lv_at hl 2 rfl) ?_
      refine lv_iload_n (i := 2) hx hb dX10_look_29 rfl (lv_at hl 3 rfl) ?_
      refine lv_iconst (v := 5) hx hb dX10_look_30 (by decide) ?_
      have hf9 := wd_b2_e hf; clear hf; obtain ⟨r41, w39, hc40, hf⟩ := hf9
      refine z_callV (ci := 2) (As := [.int x2, .int (5 : Int32)]) (rest := []) (c_X2_notePart l E n w9 a8 x2 (5 : Int32) r41 w39 (hZ.k 1 rfl rfl) hc40) mo_X2_notePart rfl (by decide) rfl tw_479 tw_480 tw_1086 hx hb hml hts hown hK ⟨Nat.le_trans (by decide) hR.1, Nat.le_trans (by decide) hR.2⟩ hZ (hZ.k 1 rfl rfl) rfl hl.1 rfl (Nat.le_of_ble_eq_true rfl) rfl dX10_look_31 ?_; clear hZ; intro H locs cells slots hX hZ
      refine lv_aload_n (i := 0) hx hb dX10_look_34 rfl (lv_at hl 1 rfl) ?_
      refine z_getI fd_1005 rfl hx hb hts hown hK hZ (hZ.k 0 rfl rfl) tw_289 dX10_look_35 ?_
      refine lv_icmp_ne (tgt := 45) hx hb dX10_look_38 (by decide) (fun h42 => ?_) (fun h42 => ?_)
      · replace hf := wd_ite_n h42 hf
        exact v_X10_look_j45 n C hR rec12 hrec12 x0 (some a8) x2 r11 w39 _ _ _ _ _ ⟨hZ.1, hZ.2.1, hZ.2.2.1, hZ.2.2.2.1, (List.forall_mem_cons.mpr ⟨⟨Nat.succ_ne_zero _, (fun q hq => by cases hq; exact (hZ.k 0 rfl rfl))⟩, (List.forall_mem_cons.mpr ⟨⟨Nat.succ_ne_zero _, (fun q hq => by cases hq; exact (hZ.k 1 rfl rfl))⟩, (fun _ hq => absurd hq List.not_mem_nil)⟩)⟩), hZ.2.2.2.2.2⟩ (lv_sub hl [1, 2, 3, 0] rfl) hf
      · replace hf := wd_ite_p h42 hf
        refine lv_iconst (v := 1) hx hb dX10_look_41 (by decide) ?_
        refine lv_goto (tgt := 46) hx hb dX10_look_42 (by decide) ?_
        exact v_X10_look_j46 n C hR rec12 hrec12 (1 : Int32) x0 (some a8) x2 r11 w39 _ _ _ _ _ ⟨hZ.1, hZ.2.1, hZ.2.2.1, hZ.2.2.2.1, (List.forall_mem_cons.mpr ⟨⟨Nat.succ_ne_zero _, (fun q hq => by cases hq; exact (hZ.k 0 rfl rfl))⟩, (List.forall_mem_cons.mpr ⟨⟨Nat.succ_ne_zero _, (fun q hq => by cases hq; exact (hZ.k 1 rfl rfl))⟩, (fun _ hq => absurd hq List.not_mem_nil)⟩)⟩), hZ.2.2.2.2.2⟩ (lv_sub hl [1, 2, 3, 0] rfl) hf

theorem v_X10_look_l12 {p : Program} {l : Launch} {e : Env} {R : Room} {s : State} {m : MethodId} {args : Array Value} {below : List Frame} {meth : Method} {c : Code} {E : wd_E} {w0 : Wd} {w' : Wd} (n : Nat) (C : wd_X p s m args meth c cX10_look RX10 6 none "look" E) (hR : 2 ≤ R.frames ∧ 43 ≤ R.locals) : ∀ (k : Nat) (x0 : Nat) (x1 : Option Nat) (x2 : Int32) (w : Wd) (H : Heap) (locs : List Loc) (cells slots : Nat) (ls : Array Slot), wd_Z E w0 R s w H locs cells slots [(some x0, 11), (x1, 3)] → lv_has ls 6 [(0, .ref x0), (1, va_rf x1), (2, .int x2)] → wd_lp4 (f_X10_look_l12 n) k x0 x1 x2 w = some w' → W p l e R s m args below meth c H locs cells slots (wd_fin E w0 none w' True R args s below) (F0 m 12 ls []) := by
  intro k
  induction k with
  | zero => intro _ _ _ _ _ _ _ _ _ _ _ hf; cases hf
  | succ k ih =>
    intro x0 x1 x2 w H locs cells slots ls hZ hl hf
    exact v_X10_look_b12 n C hR (wd_lp4 (f_X10_look_l12 n) k) ih x0 x1 x2 w H locs cells slots ls hZ hl hf

set_option maxHeartbeats 4000000 in
set_option maxRecDepth 100000 in
theorem c_X10_look (l : Launch) (E : wd_E) (n : Nat) (w : Wd) (this : Nat) (p0 : Option Nat) (w' : Wd) (k_this : wd_K w this = 11) (k_p0 : ∀ q, p0 = some q → wd_K w q = 3) (hf : f_X10_look n w this p0 = some w') : wd_C l E yX10_look cX10_look 6 none 2 43 [.ref this, va_rf p0] w none w' True := by
  refine wd_ofW (own := RX10) (nm := "look") (ks := [(some this, 11), (p0, 3)]) (lv := [(0, .ref this), (1, va_rf p0)]) (by decide) rfl rfl (by simp [lg_sl, va_rf_cat, va_cat_r, va_cat_i, va_cat_l, va_cat_d]) (by simp [lv_args, va_rf_cat, va_cat_r, va_cat_i, va_cat_l, va_cat_d]) (List.forall_mem_cons.mpr ⟨⟨Nat.succ_ne_zero _, fun q hq => by cases hq; exact k_this⟩, (List.forall_mem_cons.mpr ⟨⟨Nat.succ_ne_zero _, k_p0⟩, (fun _ hq => absurd hq List.not_mem_nil)⟩)⟩) ?_
  intro p e s m args below meth c R H locs cells slots ls C hR hZ hl
  obtain ⟨hx, hb, hr, hml, hts, hown, hlocks, hmn, hK⟩ := id C
  unfold f_X10_look at hf
  refine z_aload_n (i := 1) hx hb dX10_look_0 rfl (lv_at hl 1 rfl) ?_
  have hf9 := Option.bind_eq_some_iff.mp hf; clear hf; obtain ⟨a1, ha1, hf⟩ := hf9
  subst ha1
  replace hl : lv_has ls 6 [(0, .ref this), (1, .ref a1)] := hl
  replace hZ : wd_Z E w R s w H locs cells slots [(some this, 11), (some a1, 3)] := hZ
  refine z_getI fd_203 rfl hx hb hts hown hK hZ (hZ.k 1 rfl rfl) tw_212 dX10_look_1 ?_
  refine lv_aload_n (i := 0) hx hb dX10_look_4 rfl (lv_at hl 0 rfl) ?_
  refine z_getI fd_1006 rfl hx hb hts hown hK hZ (hZ.k 0 rfl rfl) tw_290 dX10_look_5 ?_
  refine lv_isub hx hb dX10_look_8 ?_
  refine lv_iconst (v := 1) hx hb dX10_look_9 (by decide) ?_
  refine lv_isub hx hb dX10_look_10 ?_
  have hf9 := wd_let_e hf; clear hf; obtain ⟨v2, e3, hf⟩ := hf9
  rw [e3]
  refine lv_istore_n (i := 2) (lv' := [(2, .int v2), (0, .ref this), (1, .ref a1)]) hx hb dX10_look_11 rfl hl (by decide) rfl ?_; clear hl; intro ls hl
  exact v_X10_look_l12 n C hR n this (some a1) v2 w _ _ _ _ _ ⟨hZ.1, hZ.2.1, hZ.2.2.1, hZ.2.2.2.1, (List.forall_mem_cons.mpr ⟨⟨Nat.succ_ne_zero _, (fun q hq => by cases hq; exact (hZ.k 0 rfl rfl))⟩, (List.forall_mem_cons.mpr ⟨⟨Nat.succ_ne_zero _, (fun q hq => by cases hq; exact (hZ.k 1 rfl rfl))⟩, (fun _ hq => absurd hq List.not_mem_nil)⟩)⟩), hZ.2.2.2.2.2⟩ (lv_sub hl [1, 2, 0] rfl) hf

def f_X10_ask_l81 (n : Nat) (rec81 : Nat → Option Nat → Int32 → Wd → Option Wd) (x0 : Nat) (x6 : Option Nat) (x7 : Int32) (w : Wd) : Option Wd :=
  if (200 : Int32) ≤ x7 then
    some w
  else
    Option.bind (wd_R w 1004 x0) fun a28 =>
    wd_b2 (f_X9_deliverNext n w a28) fun r31 w29 =>
    if r31 = 0 then
      some w29
    else
      Option.bind (f_X10_look n w29 x0 x6) fun w33 =>
      wd_let (x7 + 1) fun v35 =>
      rec81 x0 x6 v35 w33
def f_X10_ask (n : Nat) (w : Wd) (this : Nat) (p0 : Int32) (p1 : Int32) (p2 : Int32) (p3 : Int32) (p4 : Int32) : Option Wd :=
  wd_let (wd_sI w 1000 this (0 : Int32)) fun w1 =>
  wd_let (wd_sI w1 1001 this (-1 : Int32)) fun w3 =>
  wd_let (wd_sI w3 1002 this (-1 : Int32)) fun w5 =>
  wd_let (wd_sI w5 1003 this (-1 : Int32)) fun w7 =>
  Option.bind (wd_R w7 1004 this) fun a9 =>
  Option.bind (f_X9_dropAllUnderWay n w7 a9) fun w10 =>
  Option.bind (wd_R w10 1004 this) fun a12 =>
  wd_b2 (f_X9_host n w10 a12 p0) fun r15 w13 =>
  wd_on r15 (
    some w13)
    (fun a16 =>
    wd_let (wd_sI w13 1006 this (wd_I w13 203 a16)) fun w17 =>
    Option.bind (wd_R w17 1004 this) fun a19 =>
    wd_b2 (f_X9_launch n w17 a19 (some a16) (1 : Int32) p1 p2 p3 p4) fun r22 w20 =>
    wd_let (wd_sI w20 1005 this r22) fun w23 =>
    Option.bind (f_X10_look n w23 this (some a16)) fun w25 =>
    wd_lp4 (f_X10_ask_l81 n) n this (some a16) (0 : Int32) w25)
set_option maxHeartbeats 4000000 in
set_option maxRecDepth 100000 in
theorem v_X10_ask_b81 {p : Program} {l : Launch} {e : Env} {R : Room} {s : State} {m : MethodId} {args : Array Value} {below : List Frame} {meth : Method} {c : Code} {E : wd_E} {w0 : Wd} {w' : Wd} (n : Nat) (C : wd_X p s m args meth c cX10_ask RX10 8 none "ask" E) (hR : 7 ≤ R.frames ∧ 178 ≤ R.locals) (rec81 : Nat → Option Nat → Int32 → Wd → Option Wd) (hrec81 : ∀ (x0_ : Nat) (x6_ : Option Nat) (x7_ : Int32) (w_ : Wd) (H : Heap) (locs : List Loc) (cells slots : Nat) (ls : Array Slot), wd_Z E w0 R s w_ H locs cells slots [(some x0_, 11), (x6_, 3)] → lv_has ls 8 [(0, .ref x0_), (6, va_rf x6_), (7, .int x7_)] → rec81 x0_ x6_ x7_ w_ = some w' → W p l e R s m args below meth c H locs cells slots (wd_fin E w0 none w' True R args s below) (F0 m 81 ls [])) (x0 : Nat) (x6 : Option Nat) (x7 : Int32) (w : Wd) (H : Heap) (locs : List Loc) (cells slots : Nat) (ls : Array Slot) (hZ : wd_Z E w0 R s w H locs cells slots [(some x0, 11), (x6, 3)]) (hl : lv_has ls 8 [(0, .ref x0), (6, va_rf x6), (7, .int x7)]) (hf : f_X10_ask_l81 n rec81 x0 x6 x7 w = some w') : W p l e R s m args below meth c H locs cells slots (wd_fin E w0 none w' True R args s below) (F0 m 81 ls []) := by
  obtain ⟨hx, hb, hr, hml, hts, hown, hlocks, hmn, hK⟩ := id C
  unfold f_X10_ask_l81 at hf
  refine lv_iload hx hb dX10_ask_81 (lv_at hl 2 rfl) ?_
  refine lv_sipush (v := 200) hx hb dX10_ask_83 (by decide) ?_
  refine lv_icmp_ge (tgt := 111) hx hb dX10_ask_86 (by decide) (fun h27 => ?_) (fun h27 => ?_)
  · replace hf := wd_ite_p h27 hf
    obtain rfl := Option.some.inj hf
    exact z_vret hx hb hr hlocks hZ trivial dX10_ask_111
  · replace hf := wd_ite_n h27 hf
    refine lv_aload_n (i := 0) hx hb dX10_ask_89 rfl (lv_at hl 0 rfl) ?_
    refine z_getR (tk := 9) fd_1004 rfl hx hb hts hown hK hZ (hZ.k 0 rfl rfl) tw_288 dX10_ask_90 ?_; clear hZ; intro hZ
    have hf9 := Option.bind_eq_some_iff.mp hf; clear hf; obtain ⟨a28, ha28, hf⟩ := hf9
    replace hZ := hZ.add (r := some a28) (k := 10) (Nat.succ_ne_zero _) (fun q hq => by cases hq; exact hZ.k 0 rfl ha28)
    rw [ha28]
    have hf9 := wd_b2_e hf; clear hf; obtain ⟨r31, w29, hc30, hf⟩ := hf9
    refine z_callV (ci := 9) (As := []) (rest := []) (c_X9_deliverNext l E n w a28 r31 w29 (hZ.k 0 rfl rfl) hc30) mo_X9_deliverNext rfl (by decide) rfl tw_867 tw_868 tw_1087 hx hb hml hts hown hK ⟨Nat.le_trans (by decide) hR.1, Nat.le_trans (by decide) hR.2⟩ hZ (hZ.k 0 rfl rfl) rfl hl.1 rfl (Nat.le_of_ble_eq_true rfl) rfl dX10_ask_93 ?_; clear hZ; intro H locs cells slots hX hZ
    refine lv_if_eq (tgt := 111) hx hb dX10_ask_96 (by decide) (fun h32 => ?_) (fun h32 => ?_)
    · replace hf := wd_ite_p h32 hf
      obtain rfl := Option.some.inj hf
      exact z_vret hx hb hr hlocks hZ trivial dX10_ask_111
    · replace hf := wd_ite_n h32 hf
      refine lv_aload_n (i := 0) hx hb dX10_ask_99 rfl (lv_at hl 0 rfl) ?_
      refine z_aload hx hb dX10_ask_100 (lv_at hl 1 rfl) ?_
      have hf9 := Option.bind_eq_some_iff.mp hf; clear hf; obtain ⟨w33, hc34, hf⟩ := hf9
      refine z_callV (ci := 10) (As := [va_rf x6]) (rest := []) (c_X10_look l E n w29 x0 x6 w33 (hZ.k 2 rfl rfl) (fun q hq => hZ.k 3 rfl hq) hc34) mo_X10_look rfl (by decide) rfl tw_1084 tw_25 tw_1082 hx hb hml hts hown hK ⟨Nat.le_trans (by decide) hR.1, Nat.le_trans (by decide) hR.2⟩ hZ (hZ.k 2 rfl rfl) rfl hl.1 rfl (Nat.le_of_ble_eq_true rfl) rfl dX10_ask_102 ?_; clear hZ; intro H locs cells slots hX hZ
      have hf9 := wd_let_e hf; clear hf; obtain ⟨v35, e36, hf⟩ := hf9
      refine lv_iinc (k := 2) (v := v35) (lv' := [(7, .int v35), (0, .ref x0), (6, va_rf x6)]) hx hb dX10_ask_105 hl rfl (by rw [← e36]; rfl) (by decide) (by simp [va_rf_cat, va_cat_r, va_cat_i, va_cat_l, va_cat_d]) ?_; clear hl; intro ls hl
      refine lv_goto (tgt := 81) hx hb dX10_ask_108 (by decide) ?_
      exact hrec81 x0 x6 v35 w33 _ _ _ _ _ ⟨hZ.1, hZ.2.1, hZ.2.2.1, hZ.2.2.2.1, (List.forall_mem_cons.mpr ⟨⟨Nat.succ_ne_zero _, (fun q hq => by cases hq; exact (hZ.k 2 rfl rfl))⟩, (List.forall_mem_cons.mpr ⟨⟨Nat.succ_ne_zero _, (fun q hq => hZ.k 3 rfl hq)⟩, (fun _ hq => absurd hq List.not_mem_nil)⟩)⟩), hZ.2.2.2.2.2⟩ (lv_sub hl [1, 2, 0] rfl) hf

theorem v_X10_ask_l81 {p : Program} {l : Launch} {e : Env} {R : Room} {s : State} {m : MethodId} {args : Array Value} {below : List Frame} {meth : Method} {c : Code} {E : wd_E} {w0 : Wd} {w' : Wd} (n : Nat) (C : wd_X p s m args meth c cX10_ask RX10 8 none "ask" E) (hR : 7 ≤ R.frames ∧ 178 ≤ R.locals) : ∀ (k : Nat) (x0 : Nat) (x6 : Option Nat) (x7 : Int32) (w : Wd) (H : Heap) (locs : List Loc) (cells slots : Nat) (ls : Array Slot), wd_Z E w0 R s w H locs cells slots [(some x0, 11), (x6, 3)] → lv_has ls 8 [(0, .ref x0), (6, va_rf x6), (7, .int x7)] → wd_lp4 (f_X10_ask_l81 n) k x0 x6 x7 w = some w' → W p l e R s m args below meth c H locs cells slots (wd_fin E w0 none w' True R args s below) (F0 m 81 ls []) := by
  intro k
  induction k with
  | zero => intro _ _ _ _ _ _ _ _ _ _ _ hf; cases hf
  | succ k ih =>
    intro x0 x6 x7 w H locs cells slots ls hZ hl hf
    exact v_X10_ask_b81 n C hR (wd_lp4 (f_X10_ask_l81 n) k) ih x0 x6 x7 w H locs cells slots ls hZ hl hf

set_option maxHeartbeats 4000000 in
set_option maxRecDepth 100000 in
theorem c_X10_ask (l : Launch) (E : wd_E) (n : Nat) (w : Wd) (this : Nat) (p0 : Int32) (p1 : Int32) (p2 : Int32) (p3 : Int32) (p4 : Int32) (w' : Wd) (k_this : wd_K w this = 11) (hf : f_X10_ask n w this p0 p1 p2 p3 p4 = some w') : wd_C l E yX10_ask cX10_ask 8 none 7 178 [.ref this, .int p0, .int p1, .int p2, .int p3, .int p4] w none w' True := by
  refine wd_ofW (own := RX10) (nm := "ask") (ks := [(some this, 11)]) (lv := [(0, .ref this), (1, .int p0), (2, .int p1), (3, .int p2), (4, .int p3), (5, .int p4)]) (by decide) rfl rfl (Nat.le_of_ble_eq_true rfl) rfl (List.forall_mem_cons.mpr ⟨⟨Nat.succ_ne_zero _, fun q hq => by cases hq; exact k_this⟩, (fun _ hq => absurd hq List.not_mem_nil)⟩) ?_
  intro p e s m args below meth c R H locs cells slots ls C hR hZ hl
  obtain ⟨hx, hb, hr, hml, hts, hown, hlocks, hmn, hK⟩ := id C
  unfold f_X10_ask at hf
  refine lv_aload_n (i := 0) hx hb dX10_ask_0 rfl (lv_at hl 0 rfl) ?_
  refine lv_iconst (v := 0) hx hb dX10_ask_1 (by decide) ?_
  refine z_putI fd_1000 cok_10 rfl rfl rfl (by decide) (by decide) hx hb hts hown hK hZ (hZ.k 0 rfl rfl) tw_280 dX10_ask_2 ?_; clear hZ; intro H locs hZ
  have hf9 := wd_let_e hf; clear hf; obtain ⟨w1, e2, hf⟩ := hf9
  rw [e2] at hZ
  refine lv_aload_n (i := 0) hx hb dX10_ask_5 rfl (lv_at hl 0 rfl) ?_
  refine lv_iconst (v := -1) hx hb dX10_ask_6 (by decide) ?_
  refine z_putI fd_1001 cok_10 rfl rfl rfl rfl rfl hx hb hts hown hK hZ (hZ.k 0 rfl rfl) tw_282 dX10_ask_7 ?_; clear hZ; intro H locs hZ
  have hf9 := wd_let_e hf; clear hf; obtain ⟨w3, e4, hf⟩ := hf9
  rw [e4] at hZ
  refine lv_aload_n (i := 0) hx hb dX10_ask_10 rfl (lv_at hl 0 rfl) ?_
  refine lv_iconst (v := -1) hx hb dX10_ask_11 (by decide) ?_
  refine z_putI fd_1002 cok_10 rfl rfl rfl rfl rfl hx hb hts hown hK hZ (hZ.k 0 rfl rfl) tw_284 dX10_ask_12 ?_; clear hZ; intro H locs hZ
  have hf9 := wd_let_e hf; clear hf; obtain ⟨w5, e6, hf⟩ := hf9
  rw [e6] at hZ
  refine lv_aload_n (i := 0) hx hb dX10_ask_15 rfl (lv_at hl 0 rfl) ?_
  refine lv_iconst (v := -1) hx hb dX10_ask_16 (by decide) ?_
  refine z_putI fd_1003 cok_10 rfl rfl rfl rfl rfl hx hb hts hown hK hZ (hZ.k 0 rfl rfl) tw_286 dX10_ask_17 ?_; clear hZ; intro H locs hZ
  have hf9 := wd_let_e hf; clear hf; obtain ⟨w7, e8, hf⟩ := hf9
  rw [e8] at hZ
  refine lv_aload_n (i := 0) hx hb dX10_ask_20 rfl (lv_at hl 0 rfl) ?_
  refine z_getR (tk := 9) fd_1004 rfl hx hb hts hown hK hZ (hZ.k 0 rfl rfl) tw_288 dX10_ask_21 ?_; clear hZ; intro hZ
  have hf9 := Option.bind_eq_some_iff.mp hf; clear hf; obtain ⟨a9, ha9, hf⟩ := hf9
  replace hZ := hZ.add (r := some a9) (k := 10) (Nat.succ_ne_zero _) (fun q hq => by cases hq; exact hZ.k 0 rfl ha9)
  rw [ha9]
  have hf9 := Option.bind_eq_some_iff.mp hf; clear hf; obtain ⟨w10, hc11, hf⟩ := hf9
  refine z_callV (ci := 9) (As := []) (rest := []) (c_X9_dropAllUnderWay l E n w7 a9 w10 (hZ.k 0 rfl rfl) hc11) mo_X9_dropAllUnderWay rfl (by decide) rfl tw_1064 tw_1065 tw_1063 hx hb hml hts hown hK ⟨Nat.le_trans (by decide) hR.1, Nat.le_trans (by decide) hR.2⟩ hZ (hZ.k 0 rfl rfl) rfl hl.1 rfl (Nat.le_of_ble_eq_true rfl) rfl dX10_ask_24 ?_; clear hZ; intro H locs cells slots hX hZ
  refine lv_aload_n (i := 0) hx hb dX10_ask_27 rfl (lv_at hl 0 rfl) ?_
  refine z_getR (tk := 9) fd_1004 rfl hx hb hts hown hK hZ (hZ.k 2 rfl rfl) tw_288 dX10_ask_28 ?_; clear hZ; intro hZ
  refine lv_iload_n (i := 1) hx hb dX10_ask_31 rfl (lv_at hl 1 rfl) ?_
  have hf9 := Option.bind_eq_some_iff.mp hf; clear hf; obtain ⟨a12, ha12, hf⟩ := hf9
  replace hZ := hZ.add (r := some a12) (k := 10) (Nat.succ_ne_zero _) (fun q hq => by cases hq; exact hZ.k 0 rfl ha12)
  rw [ha12]
  have hf9 := wd_b2_e hf; clear hf; obtain ⟨r15, w13, hc14, hf⟩ := hf9
  refine z_callV (ci := 9) (As := [.int p0]) (rest := []) (c_X9_host l E n w10 a12 p0 r15 w13 (hZ.k 0 rfl rfl) hc14) mo_X9_host rfl (by decide) rfl tw_451 tw_452 tw_1080 hx hb hml hts hown hK ⟨Nat.le_trans (by decide) hR.1, Nat.le_trans (by decide) hR.2⟩ hZ (hZ.k 0 rfl rfl) rfl hl.1 rfl (Nat.le_of_ble_eq_true rfl) rfl dX10_ask_32 ?_; clear hZ; intro H locs cells slots hX hZ
  replace hZ := hZ.add (Nat.succ_ne_zero _) hX
  refine z_astore (i := 6) (lv' := [(6, va_rf r15), (0, .ref this), (1, .int p0), (2, .int p1), (3, .int p2), (4, .int p3), (5, .int p4)]) hx hb dX10_ask_35 hl (by decide) rfl ?_; clear hl; intro ls hl
  refine z_aload hx hb dX10_ask_37 (lv_at hl 0 rfl) ?_
  refine z_ifnonnull (tgt := 43) hx hb dX10_ask_39 (by decide) (fun a16 ha16 => ?_) (fun hn => ?_)
  · replace hf := wd_on_s ha16 hf
    subst ha16
    replace hl : lv_has ls 8 [(6, .ref a16), (0, .ref this), (1, .int p0), (2, .int p1), (3, .int p2), (4, .int p3), (5, .int p4)] := hl
    replace hZ : wd_Z E w R s w13 H locs cells slots [(some a16, 3), (some a12, 10), ((wd_R w10 1004 this), 10), (some a9, 10), ((wd_R w7 1004 this), 10), (some this, 11)] := hZ
    refine lv_aload_n (i := 0) hx hb dX10_ask_43 rfl (lv_at hl 1 rfl) ?_
    refine lv_aload hx hb dX10_ask_44 (lv_at hl 0 rfl) ?_
    refine z_getI fd_203 rfl hx hb hts hown hK hZ (hZ.k 0 rfl rfl) tw_212 dX10_ask_46 ?_
    refine z_putI fd_1006 cok_10 rfl rfl rfl rfl rfl hx hb hts hown hK hZ (hZ.k 5 rfl rfl) tw_290 dX10_ask_49 ?_; clear hZ; intro H locs hZ
    have hf9 := wd_let_e hf; clear hf; obtain ⟨w17, e18, hf⟩ := hf9
    rw [e18] at hZ
    refine lv_aload_n (i := 0) hx hb dX10_ask_52 rfl (lv_at hl 1 rfl) ?_
    refine lv_aload_n (i := 0) hx hb dX10_ask_53 rfl (lv_at hl 1 rfl) ?_
    refine z_getR (tk := 9) fd_1004 rfl hx hb hts hown hK hZ (hZ.k 5 rfl rfl) tw_288 dX10_ask_54 ?_; clear hZ; intro hZ
    refine lv_aload hx hb dX10_ask_57 (lv_at hl 0 rfl) ?_
    refine lv_iconst (v := 1) hx hb dX10_ask_59 (by decide) ?_
    refine lv_iload_n (i := 2) hx hb dX10_ask_60 rfl (lv_at hl 3 rfl) ?_
    refine lv_iload_n (i := 3) hx hb dX10_ask_61 rfl (lv_at hl 4 rfl) ?_
    refine lv_iload hx hb dX10_ask_62 (lv_at hl 5 rfl) ?_
    refine lv_iload hx hb dX10_ask_64 (lv_at hl 6 rfl) ?_
    have hf9 := Option.bind_eq_some_iff.mp hf; clear hf; obtain ⟨a19, ha19, hf⟩ := hf9
    replace hZ := hZ.add (r := some a19) (k := 10) (Nat.succ_ne_zero _) (fun q hq => by cases hq; exact hZ.k 0 rfl ha19)
    rw [ha19]
    have hf9 := wd_b2_e hf; clear hf; obtain ⟨r22, w20, hc21, hf⟩ := hf9
    refine z_callV (ci := 9) (As := [va_rf (some a16), .int (1 : Int32), .int p1, .int p2, .int p3, .int p4]) (rest := [.ref this]) (c_X9_launch l E n w17 a19 (some a16) (1 : Int32) p1 p2 p3 p4 r22 w20 (hZ.k 0 rfl rfl) (fun q hq => by cases hq; exact (hZ.k 2 rfl rfl)) hc21) mo_X9_launch rfl (by decide) rfl tw_642 tw_643 tw_1081 hx hb hml hts hown hK ⟨Nat.le_trans (by decide) hR.1, Nat.le_trans (by decide) hR.2⟩ hZ (hZ.k 0 rfl rfl) rfl hl.1 rfl (Nat.le_of_ble_eq_true rfl) rfl dX10_ask_66 ?_; clear hZ; intro H locs cells slots hX hZ
    refine z_putI fd_1005 cok_10 rfl rfl rfl rfl rfl hx hb hts hown hK hZ (hZ.k 7 rfl rfl) tw_289 dX10_ask_69 ?_; clear hZ; intro H locs hZ
    have hf9 := wd_let_e hf; clear hf; obtain ⟨w23, e24, hf⟩ := hf9
    rw [e24] at hZ
    refine lv_aload_n (i := 0) hx hb dX10_ask_72 rfl (lv_at hl 1 rfl) ?_
    refine lv_aload hx hb dX10_ask_73 (lv_at hl 0 rfl) ?_
    have hf9 := Option.bind_eq_some_iff.mp hf; clear hf; obtain ⟨w25, hc26, hf⟩ := hf9
    refine z_callV (ci := 10) (As := [va_rf (some a16)]) (rest := []) (c_X10_look l E n w23 this (some a16) w25 (hZ.k 7 rfl rfl) (fun q hq => by cases hq; exact (hZ.k 2 rfl rfl)) hc26) mo_X10_look rfl (by decide) rfl tw_1084 tw_25 tw_1082 hx hb hml hts hown hK ⟨Nat.le_trans (by decide) hR.1, Nat.le_trans (by decide) hR.2⟩ hZ (hZ.k 7 rfl rfl) rfl hl.1 rfl (Nat.le_of_ble_eq_true rfl) rfl dX10_ask_75 ?_; clear hZ; intro H locs cells slots hX hZ
    refine lv_iconst (v := 0) hx hb dX10_ask_78 (by decide) ?_
    refine lv_istore (i := 7) (lv' := [(7, .int (0 : Int32)), (6, .ref a16), (0, .ref this), (1, .int p0), (2, .int p1), (3, .int p2), (4, .int p3), (5, .int p4)]) hx hb dX10_ask_79 hl (by decide) rfl ?_; clear hl; intro ls hl
    exact v_X10_ask_l81 n C hR n this (some a16) (0 : Int32) w25 _ _ _ _ _ ⟨hZ.1, hZ.2.1, hZ.2.2.1, hZ.2.2.2.1, (List.forall_mem_cons.mpr ⟨⟨Nat.succ_ne_zero _, (fun q hq => by cases hq; exact (hZ.k 7 rfl rfl))⟩, (List.forall_mem_cons.mpr ⟨⟨Nat.succ_ne_zero _, (fun q hq => by cases hq; exact (hZ.k 2 rfl rfl))⟩, (fun _ hq => absurd hq List.not_mem_nil)⟩)⟩), hZ.2.2.2.2.2⟩ (lv_sub hl [2, 1, 0] rfl) hf
  · replace hf := wd_on_n hn hf
    subst hn
    replace hl : lv_has ls 8 [(6, va_rf none), (0, .ref this), (1, .int p0), (2, .int p1), (3, .int p2), (4, .int p3), (5, .int p4)] := hl
    replace hZ : wd_Z E w R s w13 H locs cells slots [(none, 3), (some a12, 10), ((wd_R w10 1004 this), 10), (some a9, 10), ((wd_R w7 1004 this), 10), (some this, 11)] := hZ
    obtain rfl := Option.some.inj hf
    exact z_vret hx hb hr hlocks hZ trivial dX10_ask_42

def f_X11_init (n : Nat) (w : Wd) (this : Nat) : Option Wd :=
  wd_gd (wd_M w = 0 ∨ wd_S w < 5) <|
  wd_let (wd_H w) fun a2 =>
  wd_let (wd_nw w 6 0 5) fun w4 =>
  Option.bind (f_X5_init n w4 a2) fun w6 =>
  wd_let (wd_sR w6 1100 this (some a2)) fun w8 =>
  wd_gd (wd_M w8 = 0 ∨ wd_S w8 < 8) <|
  wd_let (wd_H w8) fun a11 =>
  wd_let (wd_nw w8 10 0 8) fun w13 =>
  Option.bind (f_X9_init n w13 a11 (wd_R w13 1100 this)) fun w15 =>
  wd_let (wd_sR w15 1101 this (some a11)) fun w17 =>
  wd_gd (wd_M w17 = 0 ∨ wd_S w17 < 7) <|
  wd_let (wd_H w17) fun a20 =>
  wd_let (wd_nw w17 11 0 7) fun w22 =>
  Option.bind (f_X10_init n w22 a20 (wd_R w22 1100 this)) fun w24 =>
  wd_let (wd_sR w24 1102 this (some a20)) fun w26 =>
  some w26
set_option maxHeartbeats 4000000 in
set_option maxRecDepth 100000 in
theorem c_X11_init (l : Launch) (E : wd_E) (n : Nat) (w : Wd) (this : Nat) (w' : Wd) (k_this : wd_K w this = 12) (hf : f_X11_init n w this = some w') : wd_C l E yX11_init cX11_init 1 none 5 109 [.ref this] w none w' True := by
  refine wd_ofW (own := RX11) (nm := "<init>") (ks := [(some this, 12)]) (lv := [(0, .ref this)]) (by decide) rfl rfl (Nat.le_of_ble_eq_true rfl) rfl (List.forall_mem_cons.mpr ⟨⟨Nat.succ_ne_zero _, fun q hq => by cases hq; exact k_this⟩, (fun _ hq => absurd hq List.not_mem_nil)⟩) ?_
  intro p e s m args below meth c R H locs cells slots ls C hR hZ hl
  obtain ⟨hx, hb, hr, hml, hts, hown, hlocks, hmn, hK⟩ := id C
  unfold f_X11_init at hf
  refine lv_aload_n (i := 0) hx hb dX11_init_0 rfl (lv_at hl 0 rfl) ?_
  refine W.objInit hx hb hown (hts _ tw_53) (hts _ tw_54) (hts _ tw_55) rfl (by rw [hml]; exact hl.1) rfl dX11_init_1 (Nat.le_trans (by decide) hR.1) (Nat.le_trans (Nat.le_of_ble_eq_true rfl) hR.2) ?_
  refine W.eq (g2 := F0 m 4 ls []) rfl ?_
  refine lv_aload_n (i := 0) hx hb dX11_init_4 rfl (lv_at hl 0 rfl) ?_
  have hf9 := wd_gd_e hf; clear hf; obtain ⟨h1, hf⟩ := hf9
  refine z_new cok_5 hx hb hts hown hK hZ tw_56 tw_57 tw_28 h1 dX11_init_5 ?_; clear hZ; intro H cells slots hZ
  have hf9 := wd_let_e hf; clear hf; obtain ⟨a2, e3, hf⟩ := hf9
  rw [e3]
  rw [e3] at hZ
  have hf9 := wd_let_e hf; clear hf; obtain ⟨w4, e5, hf⟩ := hf9
  rw [e5] at hZ
  refine lv_dup hx hb dX11_init_8 rfl ?_
  have hf9 := Option.bind_eq_some_iff.mp hf; clear hf; obtain ⟨w6, hc7, hf⟩ := hf9
  refine z_callI (As := []) (rest := [.ref a2, .ref this]) (c_X5_init l E n w4 a2 w6 (hZ.k 0 rfl rfl) hc7) mo_X5_init rfl tw_59 tw_58 hx hb hml hts hown hK ⟨Nat.le_trans (by decide) hR.1, Nat.le_trans (by decide) hR.2⟩ hZ rfl hl.1 rfl (Nat.le_of_ble_eq_true rfl) dX11_init_9 ?_; clear hZ; intro H locs cells slots hX hZ
  refine z_putFR (r := (some a2)) rfl hmn rfl fd_1100 cok_11 (tk := 5) rfl (fun q hq => by cases hq; exact (hZ.k 0 rfl rfl)) rfl rfl (wd_obO _) hx hb hts hown hK hZ (hZ.k 1 rfl rfl) tw_306 dX11_init_12 ?_; clear hZ; intro H locs hZ
  have hf9 := wd_let_e hf; clear hf; obtain ⟨w8, e9, hf⟩ := hf9
  rw [e9] at hZ
  refine lv_aload_n (i := 0) hx hb dX11_init_15 rfl (lv_at hl 0 rfl) ?_
  have hf9 := wd_gd_e hf; clear hf; obtain ⟨h10, hf⟩ := hf9
  refine z_new cok_9 hx hb hts hown hK hZ tw_137 tw_138 tw_31 h10 dX11_init_16 ?_; clear hZ; intro H cells slots hZ
  have hf9 := wd_let_e hf; clear hf; obtain ⟨a11, e12, hf⟩ := hf9
  rw [e12]
  rw [e12] at hZ
  have hf9 := wd_let_e hf; clear hf; obtain ⟨w13, e14, hf⟩ := hf9
  rw [e14] at hZ
  refine lv_dup hx hb dX11_init_19 rfl ?_
  refine lv_aload_n (i := 0) hx hb dX11_init_20 rfl (lv_at hl 0 rfl) ?_
  refine z_getR (tk := 5) fd_1100 rfl hx hb hts hown hK hZ (hZ.k 2 rfl rfl) tw_306 dX11_init_21 ?_; clear hZ; intro hZ
  have hf9 := Option.bind_eq_some_iff.mp hf; clear hf; obtain ⟨w15, hc16, hf⟩ := hf9
  refine z_callI (As := [va_rf (wd_R w13 1100 this)]) (rest := [.ref a11, .ref this]) (c_X9_init l E n w13 a11 (wd_R w13 1100 this) w15 (hZ.k 1 rfl rfl) (fun q hq => hZ.k 0 rfl hq) hc16) mo_X9_init rfl tw_140 tw_139 hx hb hml hts hown hK ⟨Nat.le_trans (by decide) hR.1, Nat.le_trans (by decide) hR.2⟩ hZ rfl hl.1 rfl (Nat.le_of_ble_eq_true rfl) dX11_init_24 ?_; clear hZ; intro H locs cells slots hX hZ
  refine z_putFR (r := (some a11)) rfl hmn rfl fd_1101 cok_11 (tk := 9) rfl (fun q hq => by cases hq; exact (hZ.k 1 rfl rfl)) rfl rfl (wd_obO _) hx hb hts hown hK hZ (hZ.k 3 rfl rfl) tw_307 dX11_init_27 ?_; clear hZ; intro H locs hZ
  have hf9 := wd_let_e hf; clear hf; obtain ⟨w17, e18, hf⟩ := hf9
  rw [e18] at hZ
  refine lv_aload_n (i := 0) hx hb dX11_init_30 rfl (lv_at hl 0 rfl) ?_
  have hf9 := wd_gd_e hf; clear hf; obtain ⟨h19, hf⟩ := hf9
  refine z_new cok_10 hx hb hts hown hK hZ tw_272 tw_273 tw_36 h19 dX11_init_31 ?_; clear hZ; intro H cells slots hZ
  have hf9 := wd_let_e hf; clear hf; obtain ⟨a20, e21, hf⟩ := hf9
  rw [e21]
  rw [e21] at hZ
  have hf9 := wd_let_e hf; clear hf; obtain ⟨w22, e23, hf⟩ := hf9
  rw [e23] at hZ
  refine lv_dup hx hb dX11_init_34 rfl ?_
  refine lv_aload_n (i := 0) hx hb dX11_init_35 rfl (lv_at hl 0 rfl) ?_
  refine z_getR (tk := 5) fd_1100 rfl hx hb hts hown hK hZ (hZ.k 4 rfl rfl) tw_306 dX11_init_36 ?_; clear hZ; intro hZ
  have hf9 := Option.bind_eq_some_iff.mp hf; clear hf; obtain ⟨w24, hc25, hf⟩ := hf9
  refine z_callI (As := [va_rf (wd_R w22 1100 this)]) (rest := [.ref a20, .ref this]) (c_X10_init l E n w22 a20 (wd_R w22 1100 this) w24 (hZ.k 1 rfl rfl) (fun q hq => hZ.k 0 rfl hq) hc25) mo_X10_init rfl tw_275 tw_274 hx hb hml hts hown hK ⟨Nat.le_trans (by decide) hR.1, Nat.le_trans (by decide) hR.2⟩ hZ rfl hl.1 rfl (Nat.le_of_ble_eq_true rfl) dX11_init_39 ?_; clear hZ; intro H locs cells slots hX hZ
  refine z_putFR (r := (some a20)) rfl hmn rfl fd_1102 cok_11 (tk := 10) rfl (fun q hq => by cases hq; exact (hZ.k 1 rfl rfl)) rfl rfl (wd_obO _) hx hb hts hown hK hZ (hZ.k 5 rfl rfl) tw_308 dX11_init_42 ?_; clear hZ; intro H locs hZ
  have hf9 := wd_let_e hf; clear hf; obtain ⟨w26, e27, hf⟩ := hf9
  rw [e27] at hZ
  obtain rfl := Option.some.inj hf
  exact z_vret hx hb hr hlocks hZ trivial dX11_init_45

