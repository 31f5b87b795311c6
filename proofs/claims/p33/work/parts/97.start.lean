/-! ===== THE START: the world of the law's entry; the law's body out of its meaning ===== -/
def wd_init (b L : Nat) (xs : Nat → Int32) (B : Nat) : Wd := (fun a => if a = b then 20 else 0, fun _ _ => 0, fun _ _ => none, fun a i => if a = b then xs i else 0, fun _ _ => none, fun a => if a = b then L else 0, B, 600074, 7301550)
theorem wd_arrI {s : State} {args : Array Value} (h : (Cond.arrayClass .int).before args s = true) : ∃ c : ClassId, ArrOfT s c .int ∧ va_RA s c .int := by
  obtain ⟨c, k, comp, h1, h2, h3⟩ := Cond.arrayClass_spec h
  exact ⟨c, fun n z => ⟨fun q hq => (by cases hq), k, h2, comp, h3⟩, h1⟩
theorem wd_arrO {s : State} {C : String} (h : va_AO C s) : ∃ c : ClassId, ArrOfT s c (.object C) ∧ va_RA s c (.object C) := by
  obtain ⟨comp, c, k, h1, h2, h3, h4, h5⟩ := Cond.arrayOver_spec h
  exact ⟨c, fun n z => ⟨fun q hq => (by cases hq), k, h3, comp, h4⟩, k, comp, h3, h4, h1, h5⟩
theorem wd_arrA {s : State} {args : Array Value} (h : (Cond.arrayOver (.array .int)).before args s = true) : ∃ c : ClassId, ArrOfT s c (.array .int) ∧ va_RA s c (.array .int) := by
  have h' : (Cond.arrayOver (.array .int)).holds args s none s [] = true := h
  simp only [Cond.holds, Cond.value, beq_iff_eq] at h'
  cases hc : s.vm.findClass (FieldType.array .int).toString with
  | none => simp [hc] at h'
  | some comp =>
    simp only [hc, Option.bind_some, Option.bind_eq_some_iff, Option.map_eq_some_iff] at h'
    obtain ⟨c, h2, k, h3, h4⟩ := h'
    cases hk : k.kind with
    | array cm ty =>
      rw [hk] at h4
      simp only [Bool.and_eq_true, decide_eq_true_eq] at h4
      obtain ⟨h5, h6⟩ := h4
      subst h5
      exact ⟨c, fun n z => ⟨fun q hq => (by cases hq), k, h3, cm, hk⟩, h6⟩
    | _ => rw [hk] at h4; simp at h4
theorem wd_str {s : State} {args : Array Value} {k : Nat} {tx : String} (h1 : (Cond.stringRef RX11 k tx).before args s = true) (h2 : (Cond.exactly (.string RX11 k) "java/lang/String").before args s = true) : ∃ a, vk_R RX11 k tx a s := by
  obtain ⟨a, c, cell, k', h3, -⟩ := Cond.exactly_spec h2
  exact ⟨a, vk_R.of (A := args) h1 h3⟩
section WDST
variable {p : Program} {l : Launch} {e : Env} {s : State} {m : MethodId} {below : List Frame} {meth : Method} {c : Code} {b L : Nat} {xs : Nat → Int32}
set_option maxRecDepth 100000 in
theorem wd_start_KS (C0 : lw_At p s m meth c b L xs) : ∃ (D : va_G) (cA : Nat → ClassId), wd_KS (s.heap, s.heap.size + 600074, wd_hs s.heap + 7301550, D, cA, b, L, xs) s := by
  obtain ⟨hx, hb, hr, hml, hown, hts, hX, hbl, hlocks, hgv⟩ := id C0
  have hfl := flat_of_before _ hgv
  obtain ⟨c0, i0, hKn0⟩ := u_known (C := RX0) (T := TX0) hts (fun w h => TT_in w (tl_0 w h)) (hts _ (TT_in _ tw_437))
  obtain ⟨c1, i1, hKn1⟩ := u_known (C := RX1) (T := TX1) hts (fun w h => TT_in w (tl_1 w h)) (hts _ (TT_in _ tw_187))
  obtain ⟨c2, i2, hKn2⟩ := u_known (C := RX2) (T := TX2) hts (fun w h => TT_in w (tl_2 w h)) (hts _ (TT_in _ tw_179))
  obtain ⟨c3, i3, hKn3⟩ := u_known (C := RX3) (T := TX3) hts (fun w h => TT_in w (tl_3 w h)) (hts _ (TT_in _ tw_66))
  obtain ⟨c4, i4, hKn4⟩ := u_known (C := RX4) (T := TX4) hts (fun w h => TT_in w (tl_4 w h)) (hts _ (TT_in _ tw_674))
  obtain ⟨c5, i5, hKn5⟩ := u_known (C := RX5) (T := TX5) hts (fun w h => TT_in w (tl_5 w h)) (hts _ (TT_in _ tw_57))
  obtain ⟨c6, i6, hKn6⟩ := u_known (C := RX6) (T := TX6) hts (fun w h => TT_in w (tl_6 w h)) (hts _ (TT_in _ tw_165))
  obtain ⟨c7, i7, hKn7⟩ := u_known (C := RX7) (T := TX7) hts (fun w h => TT_in w (tl_7 w h)) (hts _ (TT_in _ tw_554))
  obtain ⟨c8, i8, hKn8⟩ := u_known (C := RX8) (T := TX8) hts (fun w h => TT_in w (tl_8 w h)) (hts _ (TT_in _ tw_144))
  obtain ⟨c9, i9, hKn9⟩ := u_known (C := RX9) (T := TX9) hts (fun w h => TT_in w (tl_9 w h)) (hts _ (TT_in _ tw_138))
  obtain ⟨c10, i10, hKn10⟩ := u_known (C := RX10) (T := TX10) hts (fun w h => TT_in w (tl_10 w h)) (hts _ (TT_in _ tw_273))
  obtain ⟨c11, i11, hKn11⟩ := u_known (C := RX11) (T := TX11) hts (fun w h => TT_in w (tl_11 w h)) (hts _ (TT_in _ tw_49))
  have hao7 : va_AO RX7 s := va_AO.of (hts _ (List.mem_of_getElem? (i := 65) (by decide +kernel)))
  have hao3 : va_AO RX3 s := va_AO.of (hts _ (List.mem_of_getElem? (i := 63) (by decide +kernel)))
  have hao2 : va_AO RX2 s := va_AO.of (hts _ (List.mem_of_getElem? (i := 178) (by decide +kernel)))
  have hao1 : va_AO RX1 s := va_AO.of (hts _ (List.mem_of_getElem? (i := 185) (by decide +kernel)))
  obtain ⟨k21, h21⟩ := wd_arrI (hts _ (List.mem_of_getElem? (i := 117) (by decide +kernel)))
  obtain ⟨k22, h22⟩ := wd_arrO hao7
  obtain ⟨k23, h23⟩ := wd_arrO hao3
  obtain ⟨k24, h24⟩ := wd_arrO hao2
  obtain ⟨k25, h25⟩ := wd_arrO hao1
  obtain ⟨k26, h26⟩ := wd_arrA (hts _ (List.mem_of_getElem? (i := 1097) (by decide +kernel)))
  have hA : ∀ a : Nat, a < s.heap.size → ¬ (fun q : Nat => s.heap.size ≤ q) a := fun a h => Nat.not_le.mpr h
  refine ⟨(fun k => match k with | 0 => c0 | 1 => c1 | 2 => c2 | 3 => c3 | 4 => c4 | 5 => c5 | 6 => c6 | 7 => c7 | 8 => c8 | 9 => c9 | 10 => c10 | _ => c11, fun k => match k with | 0 => i0 | 1 => i1 | 2 => i2 | 3 => i3 | 4 => i4 | 5 => i5 | 6 => i6 | 7 => i7 | 8 => i8 | 9 => i9 | 10 => i10 | _ => i11), (fun k => match k with | 21 => k21 | 22 => k22 | 23 => k23 | 24 => k24 | 25 => k25 | _ => k26), ⟨?_, ?_⟩, hX, ⟨hao7, hao3, hao2, hao1⟩, ⟨va_Nw.of rfl (hts _ (List.mem_of_getElem? (i := 188) (by decide +kernel))), va_Nw.of rfl (hts _ (List.mem_of_getElem? (i := 675) (by decide +kernel))), va_Nw.of rfl (hts _ (List.mem_of_getElem? (i := 803) (by decide +kernel))), va_Nw.of rfl (hts _ (List.mem_of_getElem? (i := 145) (by decide +kernel))), va_Nw.of rfl (hts _ (List.mem_of_getElem? (i := 166) (by decide +kernel))), va_Nw.of rfl (hts _ (List.mem_of_getElem? (i := 122) (by decide +kernel)))⟩, ?_⟩
  · intro k q hq
    match k, hq with
    | 0, hq => cases hq; exact hKn0
    | 1, hq => cases hq; exact hKn1
    | 2, hq => cases hq; exact hKn2
    | 3, hq => cases hq; exact hKn3
    | 4, hq => cases hq; exact hKn4
    | 5, hq => cases hq; exact hKn5
    | 6, hq => cases hq; exact hKn6
    | 7, hq => cases hq; exact hKn7
    | 8, hq => cases hq; exact hKn8
    | 9, hq => cases hq; exact hKn9
    | 10, hq => cases hq; exact hKn10
    | 11, hq => cases hq; exact hKn11
    | k + 12, hq => simp [wd_cl] at hq
  · intro k q hq
    match k, hq with
    | 0, hq => cases hq; exact h21
    | 1, hq => cases hq; exact h22
    | 2, hq => cases hq; exact h23
    | 3, hq => cases hq; exact h24
    | 4, hq => cases hq; exact h25
    | 5, hq => cases hq; exact h26
    | k + 6, hq => simp [wd_ty] at hq
  · refine ⟨⟨va_Nw.of rfl (hts _ (List.mem_of_getElem? (i := 397) (by decide +kernel))), va_Nw.of rfl (hts _ (List.mem_of_getElem? (i := 327) (by decide +kernel))), va_Nw.of rfl (hts _ (List.mem_of_getElem? (i := 329) (by decide +kernel))), va_Nw.of rfl (hts _ (List.mem_of_getElem? (i := 331) (by decide +kernel)))⟩, va_Nc.of (hfl _ (by decide +kernel)), va_Nc.of (hfl _ (by decide +kernel)), wd_str (hts _ (List.mem_of_getElem? (i := 419) (by decide +kernel))) (hfl _ (by decide +kernel)), wd_str (hts _ (List.mem_of_getElem? (i := 605) (by decide +kernel))) (hfl _ (by decide +kernel)), wd_str (hts _ (List.mem_of_getElem? (i := 631) (by decide +kernel))) (hfl _ (by decide +kernel)), wd_str (hts _ (List.mem_of_getElem? (i := 622) (by decide +kernel))) (hfl _ (by decide +kernel)), vx_Zqof (hts _ (List.mem_of_getElem? (i := 350) (by decide +kernel))) (hts _ (List.mem_of_getElem? (i := 37) (by decide +kernel))) (hfl _ (by decide +kernel)) hA, vx_Zqof (hts _ (List.mem_of_getElem? (i := 352) (by decide +kernel))) (hts _ (List.mem_of_getElem? (i := 37) (by decide +kernel))) (hfl _ (by decide +kernel)) hA⟩
theorem wd_start_Hd {D : va_G} {cA : Nat → ClassId} (hbl : b < s.heap.size) : wd_Hd (s.heap, s.heap.size + 600074, wd_hs s.heap + 7301550, D, cA, b, L, xs) (wd_init b L xs s.heap.size) s.heap := by
  have hk : ∀ a, wd_K (wd_init b L xs s.heap.size) a = if a = b then 20 else 0 := fun _ => rfl
  refine ⟨⟨rfl, rfl, rfl, Nat.le_refl _, fun _ _ => rfl⟩, fun a ha => ?_, fun a k h hk2 => ?_, fun a h => ?_, fun a k h h1 h2 => ?_, fun a h => ?_, fun a k j q h hk2 => ?_, fun a j q h1 h2 => ?_⟩
  · have h9 : s.heap.size ≤ a := ha
    rw [hk, if_neg (by omega)]
  · rw [hk] at h
    split at h <;> omega
  · rw [hk] at h
    split at h <;> omega
  · rw [hk] at h
    split at h <;> omega
  · rw [hk] at h
    split at h
    · rename_i hab
      subst hab
      refine ⟨rfl, hbl, ?_, fun j _ => ?_⟩
      · show (if a = a then L else 0) = L
        rw [if_pos rfl]
      · show (if a = a then xs j else 0) = xs j
        rw [if_pos rfl]
    · omega
  · rw [hk] at h
    split at h <;> omega
  · rw [hk] at h1 h2
    split at h1 <;> omega
theorem wd_start_fit {s : State} {D : va_G} {cA : Nat → ClassId} {b L : Nat} {xs : Nat → Int32} : s.heap.size + room_1.cells = eC ((s.heap, s.heap.size + 600074, wd_hs s.heap + 7301550, D, cA, b, L, xs) : wd_E) ∧ wd_hs s.heap + room_1.slots = eS ((s.heap, s.heap.size + 600074, wd_hs s.heap + 7301550, D, cA, b, L, xs) : wd_E) := by
  show s.heap.size + 600074 = s.heap.size + 600074 ∧ wd_hs s.heap + 7301550 = wd_hs s.heap + 7301550
  exact ⟨rfl, rfl⟩
/-- the law's own end -/
theorem z_mret {E : wd_E} {w0 w : Wd} {H : Heap} {locs : List Loc} {cells slots : Nat} {ls : Array Slot} {pc : Nat} {ks : List (Option Nat × Nat)} (hG : eG E = s.heap) (hx : p.tables.exec = Jvm.exec) (hb : c.code = code) (hr : meth.sig.returnType = ret) (hlocks : meth.locks = false) (hZ : wd_Z E w0 room_1 s w H locs cells slots ks) (hdg : decode code pc = .ok (.ireturn, 1)) : W p l e room_1 s m #[Value.ref b] below meth c H locs cells slots (lw_Z below #[Value.ref b] s) (F0 m pc ls [.int 1]) := by
  have hb3 := hZ.2.2.1
  have h1 : room_1.cells = 600074 := rfl
  have h2 : room_1.slots = 7301550 := rfl
  refine va_forget (fun q hq => by rw [← hG]; exact hZ.2.1 q hq) ?_
  refine W.widen (k := 600074) (n := 7301550) (by omega) (by omega) ?_
  refine W.base ?_
  exact lw_ret (Drawn.sameBut.refl s.drawn lw_cs) hx hb hr hlocks hdg
end WDST
