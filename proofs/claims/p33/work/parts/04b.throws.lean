/-! ===== methods that may throw IllegalStateException ===== -/
theorem wd_push_of {H H1 : Heap} {ce : Cell} (h1 : H1.size ≤ H.size + (0 + 1)) (h2 : H1[H.size]? = some ce) (h3 : ∀ q, q < H.size → H1[q]? = H[q]?) : H1 = H.push ce := by
  have hlt := (Array.getElem?_eq_some_iff.mp h2).1
  apply Array.ext_getElem?
  intro i
  by_cases h : i < H.size
  · rw [h3 i h, Array.getElem?_push, if_neg (Nat.ne_of_lt h)]
  · by_cases he : i = H.size
    · subst he
      rw [h2]
      simp
    · rw [Array.getElem?_eq_none (by omega), Array.getElem?_eq_none (by rw [Array.size_push]; omega)]
abbrev wd_qcX (E : wd_E) (w : Wd) (o : Option Int32) (w' : Wd) : Array Value → State → Outcome → State → Prop := fun _ _ oc t => ∃ r, o = some r ∧ oc = .returned (some (.int r)) ∧ wd_Hd E w' t.heap ∧ wd_Ex w w'
abbrev wd_xcX (E : wd_E) (w : Wd) (o : Option Int32) (w' : Wd) : String → State → State → Prop := fun C _ t => o = none ∧ C = nIS ∧ wd_Hd E w' t.heap ∧ wd_Ex w w'
def wd_CX (l : Launch) (E : wd_E) (y : MethodName) (cc : ByteArray) (maxL : Nat) (ret : Option FieldType) (F Lc : Nat) (av : List Value) (w : Wd) (o : Option Int32) (w' : Wd) : Prop :=
  vx_Met l y (Cond.code y cc maxL ret :: TT) { frames := F, cells := wd_M w, slots := wd_S w, locals := Lc } (va_Pc av (fun U => wd_Hd E w U.heap ∧ wd_KS E U)) (wd_qcX E w o w') (wd_xcX E w o w') (wd_M w) (wd_S w) (fun q => (eG E).size ≤ q)
section WDX
variable {p : Program} {l : Launch} {e : Env} {R : Room} {s : State} {m : MethodId} {args : Array Value} {below : List Frame} {meth : Method} {c : Code} {H : Heap} {locs : List Loc} {cells slots : Nat} {Q : State → Prop}
variable {cc : ByteArray} {pc : Nat} {ls : Array Slot} {rest : List Value} {E : wd_E} {w0 w : Wd} {ks : List (Option Nat × Nat)} {a : Nat}
variable {Qc : Array Value → State → Outcome → State → Prop} {XC : String → State → State → Prop} {free : Addr → Prop}
theorem z_throw0 {cc : ByteArray} {pc : Nat} (hexec : p.tables.exec = Jvm.exec) (hb : c.code = cc) (hl : l.stackTraces = false) {own cls text : String} {names : List String} {ik is ic mc ms sa : Nat} {A : Nat → Prop}
    (hown : s.vm.findClass own = some m.cls) (hcls : Bundle.fit cls = true) (hnames : ∀ n ∈ names, Bundle.fit n = true)
    (hk : (Cond.classLink own ik cls).before args s = true) (hini : (Cond.initialized cls).before args s = true) (hstr : vk_R own is text sa s) (hat : ∀ w ∈ vx_atS own ic cls names, w.before args s = true)
    (hgood : ∀ w ∈ Cond.classLink own ik cls :: Cond.initialized cls :: vx_atS own ic cls names, vx_ot w = true)
    (hU : vx_Zq Bundle.tN "UNASSIGNED_STACK" Bundle.steD A s s.heap) (hN : vx_Zq Bundle.tN "SUPPRESSED_SENTINEL" Bundle.listD A s s.heap) (hS : va_S A s.heap H locs) (hsize : ls.size = c.maxLocals)
    (d0 : decode cc pc = .ok (.new ik, 3)) (d3 : decode cc (pc + 3) = .ok (.dup, 1)) (d4 : decode cc (pc + 4) = .ok (.ldc is, 2)) (d6 : decode cc (pc + 6) = .ok (.invokespecial ic, 3)) (d9 : decode cc (pc + 9) = .ok (.athrow, 1))
    (hout : ∀ x ∈ c.exceptionTable.toList, covers x (pc + 9) = false)
    (hRframes : names.length + 3 < R.frames) (hRlocals : (rest.map fun v => v.category).sum + (13 * (names.length + 1) + 43) ≤ R.locals) (hRcells : cells + 1 ≤ R.cells) (hRslots : slots + 6 ≤ R.slots) (hlocks : meth.locks = false)
    (hx : ∀ (t : State) (ce : Cell), s.vm.Alike t.vm → t.heap = H.push ce → ce.slots.size = 6 → XC cls s t)
    (hf : ∀ z ∈ locs, free z.base) (hc : cells + 1 ≤ mc) (hs : slots + 6 ≤ ms) :
    W p l e R s m args below meth c H locs cells slots (vx_MQ below Qc XC args s mc ms free) (F0 m pc ls rest) := by
  intro T hT X
  have htr : e.platform.stackTraces = false := (show e.platform.stackTraces = l.stackTraces by rw [X.admits.platform]).trans hl
  have Y := vx_rebase X (R' := { frames := R.frames, locals := R.locals, cells := 1, slots := 6 }) (Nat.le_refl _) (Nat.le_refl _) hRcells hRslots
  obtain ⟨s', hA⟩ : ∃ z, z = (T.setVm s.vm).setFrames (.invoking m args :: below) := ⟨_, rfl⟩
  rw [← hA] at Y
  have hvm : s'.vm = s.vm := by rw [hA]; rfl
  have hhp : s'.heap = H := by rw [hA]; exact hT
  have hW0 : s.WarmedH s'.vm := by rw [hvm]; exact State.WarmedH.refl s
  have hat' : ∀ w ∈ vx_atS own ic cls names, w.before args s' = true := fun w hw => vx_ot_at hW0 hvm.symm (hgood w (List.mem_cons_of_mem _ (List.mem_cons_of_mem _ hw))) (hat w hw)
  have hk' : (Cond.classLink own ik cls).before args s' = true := vx_ot_at hW0 hvm.symm (hgood _ List.mem_cons_self) hk
  have hini' : (Cond.initialized cls).before args s' = true := vx_ot_at hW0 hvm.symm (hgood _ (List.mem_cons_of_mem _ List.mem_cons_self)) hini
  have hU' : vx_Zq Bundle.tN "UNASSIGNED_STACK" Bundle.steD A s' s'.heap := by rw [hhp]; exact vx_Zq.moved hW0.alike (hU.kept hS.2.1)
  have hN' : vx_Zq Bundle.tN "SUPPRESSED_SENTINEL" Bundle.listD A s' s'.heap := by rw [hhp]; exact vx_Zq.moved hW0.alike (hN.kept hS.2.1)
  have h : ∀ w ∈ Bundle.ownAtoms own ic cls names, w.before args s' = true := vx_own hat' (vx_isRefq hU'.1) (vx_isRefq hN'.1) hU'.2.word hN'.2.word
  have hown' : s'.vm.findClass own = some m.cls := by rw [hvm]; exact hown
  have hins : (Cond.instantiable cls 6).before args s' = true := h _ (by simp [Bundle.ownAtoms])
  obtain ⟨vm₁, cX, kX, hfX, hkX, -, -, X₁, st1⟩ := Y.newCold hexec (own := own) (C := cls) (index := ik) (n := 6) hown' hk' hins hini'
    (g := F0 m pc ls rest) rfl (by rw [hb]; exact d0) (Nat.le_refl _) (Nat.le_refl _)
  generalize hT1 : (T.setVm vm₁).pushCell { cls := cX, slots := kX.instanceTypes.map defaultValue, vm := .none } = T1 at X₁ st1
  have hcat : (Value.ref T.heap.size).category = 1 := rfl
  have hcellA : T1.heap[T.heap.size]? = some (freshCell cX kX) := by rw [← hT1]; exact State.heap_pushCell_size _ _
  have d3' : decode c.code (pc + 3) = .ok (.dup, 1) := by rw [hb]; exact d3
  have d4' : decode c.code (pc + 4) = .ok (.ldc is, 2) := by rw [hb]; exact d4
  have hstr' : vk_R own is text sa s' := vk_R.warm hW0 hstr
  obtain ⟨U, hsteps, hrun, hend, hW, hsame, ce, hce, hO⟩ := X₁.ctorThrowS hexec htr (own := own) (cls := cls) (names := names) (ic := ic) hown' hcls hnames h (fun x hx => nomatch hx) hfX hkX hcellA (by rw [hhp, hT]; exact Nat.le_refl _) (msg := .ref sa) rfl
    (g := { method := m, pc := pc + 6, locals := ls, stack := .ref sa :: .ref T.heap.size :: .ref T.heap.size :: rest, locked := none }) rfl hsize rfl rfl (rest := rest) rfl
    (by rw [hb]; exact d6) (by rw [hb]; exact d9) hout hRframes (by simp only [List.map_cons, List.sum_cons, hcat]; omega) hlocks
  obtain ⟨f1, f2⟩ := vx_frame hsame
  rw [hhp] at f1 f2
  have hpush : U.heap = H.push ce := by
    refine wd_push_of ?_ (by rw [← hT]; exact hce) (fun q hq => f2 q hq (fun z hz => nomatch hz))
    have h9 := hsame.2.2.1
    rw [hhp] at h9
    exact h9
  have hWs : s.WarmedH U.vm := State.WarmedH.trans hW0 hW
  have hcl : s.vm.findClass cls = some ce.cls := by
    have h9 := hO.cls
    rw [hvm] at h9
    exact h9
  have hall : s.sameButNew ({ U with vm := s.vm } : State) locs mc ms := by
    subst hA
    obtain ⟨e1, e2⟩ := hsame
    rw [State.setFrames_setFrames] at e1
    have h2 : (T.setVm s.vm).sameButNew ({ U with vm := s.vm } : State) [] (0 + 1) (0 + 6) := ⟨e1, e2⟩
    have h3 := X.same.trans h2
    rw [List.append_nil] at h3
    exact h3.mono hc hs
  refine ⟨U, ?_, .threw T.heap.size, hrun, hend, Or.inr ⟨T.heap.size, rfl, cls, ce, locs, hx U ce hWs.alike hpush hO.size, hce, hO.vm, hcl, hWs, hall, hf⟩⟩
  refine st1 _ ?_
  show Steps p.tables e below (T1.setTop { method := m, pc := pc + 3, locals := ls, stack := .ref T.heap.size :: rest, locked := none }) _
  jvm_step X₁.here [X₁.here.top, hexec, d3', Value.category]
  exact X₁.ldcString hexec (own := own) (text := text) (index := is) (a := sa) hown' hstr'.1 hstr'.2
    (g := { method := m, pc := pc + 4, locals := ls, stack := .ref T.heap.size :: .ref T.heap.size :: rest, locked := none }) rfl d4' _ hsteps
abbrev wd_finX (E : wd_E) (w0 : Wd) (o : Option Int32) (w' : Wd) (R : Room) (args : Array Value) (s : State) (below : List Frame) : State → Prop := vx_MQ below (wd_qcX E w0 o w') (wd_xcX E w0 o w') args s R.cells R.slots (fun q => (eG E).size ≤ q)
theorem z_xret {v : Int32} (hx : p.tables.exec = Jvm.exec) (hb : c.code = cc) (hr : meth.sig.returnType = some .int) (hlocks : meth.locks = false) (hZ : wd_Z E w0 R s w H locs cells slots ks) (hdg : decode cc pc = .ok (.ireturn, 1)) : W p l e R s m args below meth c H locs cells slots (wd_finX E w0 (some v) w R args s below) (F0 m pc ls [.int v]) :=
  z_wide hZ (vx_ret (W.iret hx hb hr (fun t ht hW => ⟨v, rfl, rfl, by rw [ht]; exact hZ.1, hZ.2.2.2.1⟩) hZ.2.1 hdg hlocks))
theorem wd_atS (hts : ∀ w ∈ TT, w.before args s = true) (hin : ∀ w ∈ (vx_atS RX11 44 nIS ["java/lang/RuntimeException", "java/lang/Exception"]).filter goodWord, w ∈ TT) (hK : wd_KS E s) : ∀ w ∈ vx_atS RX11 44 nIS ["java/lang/RuntimeException", "java/lang/Exception"], w.before args s = true :=
  vx_hat (B := [.castable nIS nIS, .declares (wd_ini "java/lang/RuntimeException"), .declares (wd_ini "java/lang/Exception"), .declares (wd_ini "java/lang/Throwable")]) (fun w hw => hts w (hin w hw)) (by decide +kernel)
    (List.forall_mem_cons.mpr ⟨va_Nw.use rfl hK.2.2.2.2.1.1, List.forall_mem_cons.mpr ⟨va_Nw.use rfl hK.2.2.2.2.1.2.1, List.forall_mem_cons.mpr ⟨va_Nw.use rfl hK.2.2.2.2.1.2.2.1, List.forall_mem_cons.mpr ⟨va_Nw.use rfl hK.2.2.2.2.1.2.2.2, fun _ h => absurd h List.not_mem_nil⟩⟩⟩⟩)
theorem z_throwS {is sa : Nat} {text : String} (hst : l.stackTraces = false) (hstr : vk_R RX11 is text sa s) (hx : p.tables.exec = Jvm.exec) (hb : c.code = cc) (hts : ∀ w ∈ TT, w.before args s = true) (hin : ∀ w ∈ (vx_atS RX11 44 nIS ["java/lang/RuntimeException", "java/lang/Exception"]).filter goodWord, w ∈ TT) (hgood : ∀ w ∈ Cond.classLink RX11 40 nIS :: Cond.initialized nIS :: vx_atS RX11 44 nIS ["java/lang/RuntimeException", "java/lang/Exception"], vx_ot w = true) (hown : s.vm.findClass RX11 = some m.cls) (hK : wd_KS E s) (hZ : wd_Z E w0 R s w H locs cells slots ks) (hcl : Cond.classLink RX11 40 nIS ∈ TT) (hini : Cond.initialized nIS ∈ TT) (hsize : ls.size = c.maxLocals)
    (d0 : decode cc pc = .ok (.new 40, 3)) (d3 : decode cc (pc + 3) = .ok (.dup, 1)) (d4 : decode cc (pc + 4) = .ok (.ldc is, 2)) (d6 : decode cc (pc + 6) = .ok (.invokespecial 44, 3)) (d9 : decode cc (pc + 9) = .ok (.athrow, 1)) (hout : ∀ x ∈ c.exceptionTable.toList, False) (hRf : 6 ≤ R.frames) (hRl : 90 ≤ R.locals) (hrest : (rest.map fun v => v.category).sum ≤ 8) (hlocks : meth.locks = false) (hbase : ∀ a, a < (eG E).size → ¬ (eG E).size ≤ a → s.heap[a]? = (eG E)[a]?) (hSS : va_S (fun q => (eG E).size ≤ q) s.heap H locs) (hg : ¬ (wd_M w = 0 ∨ wd_S w < 6)) :
    W p l e R s m args below meth c H locs cells slots (wd_finX E w0 none (wd_nw w 30 0 6) R args s below) (F0 m pc ls rest) := by
  have hM : 1 ≤ wd_M w := by omega
  have hS6 : 6 ≤ wd_S w := by omega
  have hb3 := hZ.2.2.1
  have hfit := hZ.2.2.2.2.2
  have hsz : s.heap.size + R.cells = eC E := hfit.1
  refine z_throw0 (A := fun q => (eG E).size ≤ q) (names := ["java/lang/RuntimeException", "java/lang/Exception"]) hx hb hst hown (by decide +kernel) (by decide +kernel) (hts _ hcl) (hts _ hini) hstr (wd_atS hts hin hK) hgood ?_ ?_ ?_ hsize d0 d3 d4 d6 d9 (fun x h => (hout x h).elim) (by show 2 + 3 < R.frames; omega) (by show _ + (13 * (2 + 1) + 43) ≤ R.locals; omega) (by omega) (by omega) hlocks ?_ hZ.2.1 (by omega) (by omega)
  · exact hK.2.2.2.2.2.2.2.2.2.2.2.1.kept hbase
  · exact hK.2.2.2.2.2.2.2.2.2.2.2.2.kept hbase
  · exact hSS
  · intro t ce hal ht hsz6
    refine ⟨rfl, rfl, ?_, hZ.2.2.2.1.tr (wd_nw_ex w hZ.1.2.1 _ _ _)⟩
    rw [ht]
    have h9 := hZ.1.new (k := 30) (n := 0) (cell := ce) hM (by rw [hsz6]; exact hS6) (by decide) (fun ci h9 hci => by omega) (by omega) (by omega)
    rw [hsz6] at h9
    exact h9
theorem wd_hbase {U : Heap} (hs0 : wd_Hd E w0 U) : ∀ a, a < (eG E).size → ¬ (eG E).size ≤ a → U[a]? = (eG E)[a]? := fun a h _ => hs0.1.2.2.2.2 a h
theorem wd_hSS (hs0 : wd_Hd E w0 s.heap) (hZ : wd_Z E w0 R s w H locs cells slots ks) : va_S (fun q => (eG E).size ≤ q) s.heap H locs := by
  refine ⟨by rw [hs0.1.1, hZ.1.1.1]; exact hZ.2.2.2.1.2, fun q _ h2 => ?_, hZ.2.1⟩
  have h3 : q < (eG E).size := Nat.not_le.mp h2
  rw [hZ.1.1.2.2.2.2 q h3, hs0.1.2.2.2.2 q h3]
theorem z_callVX {own : String} {index : Nat} {y : MethodName} {bytes : ByteArray} {maxL F Lc ci n nL : Nat} {ret : Option FieldType} {As : List Value} {b : Nat} {o : Option Int32} {w1 : Wd} {C : String} {T : u_T} {N : Nat} {st0 : List Value}
    (hC : wd_CX l E y bytes maxL ret F Lc (.ref b :: As) w o w1) (M : wd_mok y bytes maxL ret n) (hyc : y.cls = C) (hci : ci < 12) (hc : wd_cl[ci]? = some (C, T, N)) (hinst : Cond.instanceMethod y ∈ TT) (hsel : Cond.selects C y y ∈ TT) (hlk : Cond.methodLink own index y ∈ TT) (hx : p.tables.exec = Jvm.exec) (hb : c.code = cc) (hml : c.maxLocals = nL) (hts : ∀ w ∈ TT, w.before args s = true) (hown : s.vm.findClass own = some m.cls) (hK : wd_KS E s) (hR : F + 1 ≤ R.frames ∧ 8 + (maxL + 11) + Lc ≤ R.locals) (hZ : wd_Z E w0 R s w H locs cells slots ks) (hk : wd_K w b = ci + 1)
    (hn : As.length = n) (hsz : ls.size = nL) (hst0 : st0 = As.reverse ++ .ref b :: rest) (hW : (rest.map fun v => v.category).sum ≤ 8) (hdg : decode cc pc = .ok (.invokevirtual index, 3))
    (kk : ∀ r, o = some r → ∀ (H1 : Heap) (locs1 : List Loc) (cells1 slots1 : Nat), wd_Z E w0 R s w1 H1 locs1 cells1 slots1 ks → W p l e R s m args below meth c H1 locs1 cells1 slots1 Q (F0 m (pc + 3) ls (.int r :: rest)))
    (kx : o = none → ∀ (H1 : Heap) (locs1 : List Loc) (cells1 slots1 : Nat) (q : Nat) (ce : Cell), wd_Z E w0 R s w1 H1 locs1 cells1 slots1 ks → H1[q]? = some ce → ce.vm = .none → s.vm.findClass nIS = some ce.cls → vx_W p l e R s m args below meth c H1 locs1 cells1 slots1 Q (F0 m pc ls rest) q) : W p l e R s m args below meth c H locs cells slots Q (F0 m pc ls st0) := by
  have hb3 := hZ.2.2.1
  have cb := callB_of (R := R) (mc := wd_M w) (ms := wd_S w) (rm := { frames := F, cells := wd_M w, slots := wd_S w, locals := Lc }) n hts (wd_goodC M.1) rfl rfl rfl (hts _ M.2.1) (hts _ hlk) M.2.2 hR
  obtain ⟨-, cellB, g1, g2, g3, -⟩ := hZ.1.2.2.1 b ci hk hci
  have hcls := (hK.1.1 ci _ hc).2.1
  have hr := vx_runV (C := C) (As := As) (rest := rest) (cells := cells) (slots := slots) (locs := locs) (g := F0 m pc ls st0) (e := e) (below := below) (meth := meth) (⟨hx, hb, hml, hown, hts⟩ : CallFix p m c cc nL s args TT own) hC ⟨cb, hts _ hinst, hts _ hsel⟩ ⟨wd_blind E _ w, ⟨cellB, g1, by rw [g3]; rfl, by rw [g2]; exact hcls⟩, fun U hU hW => ⟨rfl, by rw [hU]; exact hZ.1, wd_KS.warm hW hK⟩⟩ rfl hn hsz hst0 (lv_room hW) hdg ⟨by omega, by omega⟩
  intro T hT X
  rcases hr T hT X with ⟨v, st₀, t, T', L, h0, X', hL, e1, e2, ⟨r, ho, hv, hd, hE⟩, st⟩ | ⟨q, st₀, t, T', L, C9, ce, h0, X', hL, e1, e2, ⟨ho, rfl, hd, hE⟩, hce, hcv, hcl, st⟩
  · obtain rfl := Outcome.returned.inj hv
    obtain ⟨X2, hZ2⟩ := z_back hZ hd hE (fun q hq => by
      rcases List.mem_append.mp hq with h | h
      · exact hZ.2.1 q h
      · exact hL q h) e1 X'
    obtain ⟨t2, a1, b1⟩ := kk r ho t.heap (locs ++ L) _ _ hZ2 T' e1 X2
    exact ⟨t2, st t2 a1, b1⟩
  · obtain ⟨X2, hZ2⟩ := z_back hZ hd hE (fun q hq => by
      rcases List.mem_append.mp hq with h | h
      · exact hZ.2.1 q h
      · exact hL q h) e1 X'
    obtain ⟨t2, a1, b1⟩ := kx ho t.heap (locs ++ L) _ _ q ce hZ2 hce hcv hcl T' e1 X2
    exact ⟨t2, st.trans a1, b1⟩
/-- caught in the law's act, by a row for IllegalStateException -/
theorem z_catch {q : Nat} {ce : Cell} {tab : List ExceptionTableEntry} (htab : c.exceptionTable.toList = tab) (k : Nat) (x : ExceptionTableEntry) (hsp : tab = tab.take k ++ x :: tab.drop (k + 1)) (hp : ∀ z ∈ tab.take k, covers z pc = false ∨ z.catchType = 103 ∨ z.catchType = 105) (hcov : covers x pc = true) (hct : x.catchType = 107) (hts : ∀ w ∈ TT, w.before args s = true) (hown : s.vm.findClass RL = some m.cls) (hK : wd_KS E s) (h3 : Cond.classLink RL 103 nIO ∈ TT) (h5 : Cond.classLink RL 105 nIA ∈ TT) (h7 : Cond.classLink RL 107 nIS ∈ TT) (hce : H[q]? = some ce) (hcv : ce.vm = .none) (hcl : s.vm.findClass nIS = some ce.cls)
    (kk : W p l e R s m args below meth c H locs cells slots Q (F0 m x.handlerPc ls [.ref q])) : vx_W p l e R s m args below meth c H locs cells slots Q (F0 m pc ls rest) q := by
  refine vx_catch (name := nIS) (E := nIS) hown (tab.take k) x (tab.drop (k + 1)) (htab.trans hsp) (fun z hz => ?_) hcov (by rw [hct]; decide) (by rw [hct]; exact hts _ h7) (va_Nw.use rfl hK.2.2.2.2.1.1) hce hcv hcl kk
  rcases hp z hz with h | h | h
  · exact Or.inl h
  · exact Or.inr ⟨by rw [h]; decide, nIO, by rw [h]; exact hts _ h3, hK.2.2.2.2.2.1⟩
  · exact Or.inr ⟨by rw [h]; decide, nIA, by rw [h]; exact hts _ h5, hK.2.2.2.2.2.2.1⟩
/-- a method with a table of its own, that lets nothing out -/
def wd_CW (l : Launch) (E : wd_E) (y : MethodName) (cc : ByteArray) (maxL : Nat) (ret : Option FieldType) (hh : List (Nat × Nat × Nat × Nat)) (F Lc : Nat) (av : List Value) (w : Wd) (rv : Option Value) (w' : Wd) (X : Prop) : Prop :=
  vx_Met l y (Cond.codeWith y cc maxL ret hh :: TT) { frames := F, cells := wd_M w, slots := wd_S w, locals := Lc } (va_Pc av (fun U => wd_Hd E w U.heap ∧ wd_KS E U)) (wd_qc E w rv w' X) (fun _ _ _ => False) (wd_M w) (wd_S w) (fun q => (eG E).size ≤ q)
abbrev wd_finW (E : wd_E) (w0 : Wd) (rv : Option Value) (w' : Wd) (X : Prop) (R : Room) (args : Array Value) (s : State) (below : List Frame) : State → Prop := vx_MQ below (wd_qc E w0 rv w' X) (fun _ _ _ => False) args s R.cells R.slots (fun q => (eG E).size ≤ q)
theorem z_callSW {own : String} {index : Nat} {y : MethodName} {bytes : ByteArray} {maxL F Lc n nL : Nat} {ret : Option FieldType} {hh : List (Nat × Nat × Nat × Nat)} {As : List Value} {rv : Option Value} {w1 : Wd} {X : Prop} {st0 st1 : List Value}
    (hC : wd_CW l E y bytes maxL ret hh F Lc As w rv w1 X) (hcw : Cond.codeWith y bytes maxL ret hh ∈ TT) (hini : Cond.initialized y.cls ∈ TT) (hd : y.cls ≠ "java/lang/invoke/MethodHandle" ∧ y.cls ≠ "java/lang/invoke/VarHandle" ∧ (parseMethodDescriptor y.desc).map (fun d => d.parameters.length) = some n) (hinst : Cond.static y ∈ TT) (hlk : Cond.methodLink own index y ∈ TT) (hx : p.tables.exec = Jvm.exec) (hb : c.code = cc) (hml : c.maxLocals = nL) (hts : ∀ w ∈ TT, w.before args s = true) (hown : s.vm.findClass own = some m.cls) (hK : wd_KS E s) (hR : F + 1 ≤ R.frames ∧ 8 + (maxL + 11) + Lc ≤ R.locals) (hZ : wd_Z E w0 R s w H locs cells slots ks)
    (hn : As.length = n) (hsz : ls.size = nL) (hst0 : st0 = As.reverse ++ rest) (hW : (rest.map fun v => v.category).sum ≤ 8) (hst1 : rv.toList ++ rest = st1) (hdg : decode cc pc = .ok (.invokestatic index, 3))
    (kk : ∀ (H1 : Heap) (locs1 : List Loc) (cells1 slots1 : Nat), X → wd_Z E w0 R s w1 H1 locs1 cells1 slots1 ks → W p l e R s m args below meth c H1 locs1 cells1 slots1 Q (F0 m (pc + 3) ls st1)) : W p l e R s m args below meth c H locs cells slots Q (F0 m pc ls st0) := by
  have hb3 := hZ.2.2.1
  have hG : GoodIn TT (va_wsS own index y (Cond.codeWith y bytes maxL ret hh :: TT)) := fun w hw => by
    rcases List.mem_append.mp hw with h | h
    · rcases List.mem_cons.mp h with rfl | h
      · exact TT_good _ hlk
      · rcases List.mem_cons.mp h with rfl | h
        · exact TT_good _ hinst
        · rw [List.mem_singleton.mp h]; exact TT_good _ hini
    · rcases List.mem_cons.mp h with rfl | h
      · exact TT_good _ hcw
      · exact TT_good _ h
  have cw := vx_cwSW (R := R) (mc := wd_M w) (ms := wd_S w) (rm := { frames := F, cells := wd_M w, slots := wd_S w, locals := Lc }) n hts hG rfl rfl rfl hd hR
  have hr := vx_runSX (As := As) (rest := rest) (cells := cells) (slots := slots) (locs := locs) (g := F0 m pc ls st0) (e := e) (below := below) (meth := meth) (⟨hx, hb, hml, hown, hts⟩ : CallFix p m c cc nL s args TT own) hC cw ⟨wd_blind E _ w, fun U hU hW => ⟨rfl, by rw [hU]; exact hZ.1, wd_KS.warm hW hK⟩⟩ rfl hn hsz hst0 (lv_room hW) hdg ⟨by omega, by omega⟩
  intro T hT X
  rcases hr T hT X with ⟨v, st₀, t, T', L, h0, X', hL, e1, e2, ⟨hv, hd9, hE, hX9⟩, st⟩ | ⟨q, st₀, t, T', L, C9, ce, h0, X', hL, e1, e2, hff, -⟩
  · obtain rfl := Outcome.returned.inj hv
    obtain ⟨X2, hZ2⟩ := z_back hZ hd9 hE (fun q hq => by
      rcases List.mem_append.mp hq with h | h
      · exact hZ.2.1 q h
      · exact hL q h) e1 X'
    obtain ⟨t2, a1, b1⟩ := kk t.heap (locs ++ L) _ _ hX9 hZ2 T' e1 X2
    subst hst1
    exact ⟨t2, st t2 a1, b1⟩
  · exact hff.elim
end WDX
theorem wd_ofX {l : Launch} {E : wd_E} {y : MethodName} {cc : ByteArray} {maxL F Lc : Nat} {ret : Option FieldType} {av : List Value} {w w' : Wd} {o : Option Int32} {ks : List (Option Nat × Nat)} {lv : List (Nat × Value)} {own nm : String} (hy : plainName y.cls = true) (hyo : y.cls = own) (hyn : y.name = nm) (hsz : (lg_sl av).length ≤ maxL) (hlv : lv_args 0 av = lv) (hks : ∀ q ∈ ks, q.2 ≠ 0 ∧ ∀ a, q.1 = some a → wd_K w a = q.2)
    (body : ∀ (p : Program) (e : Env) (s : State) (m : MethodId) (args : Array Value) (below : List Frame) (meth : Method) (c : Code) (R : Room) (H : Heap) (locs : List Loc) (cells slots : Nat) (ls : Array Slot), wd_X p s m args meth c cc own maxL ret nm E → (F ≤ R.frames ∧ Lc ≤ R.locals) → wd_Hd E w s.heap → (∀ x ∈ c.exceptionTable.toList, False) → wd_Z E w R s w H locs cells slots ks → lv_has ls maxL lv → W p l e R s m args below meth c H locs cells slots (wd_finX E w o w' R args s below) (F0 m 0 ls [])) : wd_CX l E y cc maxL ret F Lc av w o w' := by
  refine vx_ofW (cc := cc) (maxL := maxL) (ret := ret) hy rfl ?_
  intro p e s m args below meth c s₁ B hml hout hv
  obtain ⟨rfl, hHd, hKS⟩ := hv
  have hts : ∀ w ∈ TT, w.before av.toArray s = true := fun w hw => atoms_spec (ws := Cond.code y cc maxL ret :: TT) B.pre w (List.mem_cons_of_mem _ hw)
  have hown : s.vm.findClass y.cls = some m.cls := findClass_of_methodNamed B.named
  have hl := lv_entry av (n := maxL) hsz
  rw [lg_entry_eq]
  generalize (lg_sl av ++ List.replicate (maxL - (lg_sl av).length) Slot.unset).toArray = ls at hl ⊢
  rw [hlv] at hl
  subst hyo
  have hfit : s.heap.size + wd_M w = eC E ∧ wd_hs s.heap + wd_S w = eS E := ⟨by rw [hHd.1.1]; exact hHd.1.2.1, hHd.1.2.2.1⟩
  exact body p e s m av.toArray below meth c _ s.heap [] 0 0 ls ⟨B.exec, B.bytes, B.returns, hml, hts, hown, B.notSynchronized, by rw [(name_of_methodNamed B.named B.method).1]; exact hyn, hKS⟩ ⟨Nat.le_refl _, Nat.le_refl _⟩ hHd hout ⟨hHd, fun q hq => absurd hq List.not_mem_nil, ⟨Nat.zero_add _, Nat.zero_add _⟩, wd_Ex.rf w, hks, hfit⟩ hl
theorem wd_ofH {l : Launch} {E : wd_E} {y : MethodName} {cc : ByteArray} {maxL F Lc : Nat} {ret : Option FieldType} {hh : List (Nat × Nat × Nat × Nat)} {av : List Value} {w w' : Wd} {rv : Option Value} {X : Prop} {ks : List (Option Nat × Nat)} {lv : List (Nat × Value)} {own nm : String} (hy : plainName y.cls = true) (hyo : y.cls = own) (hyn : y.name = nm) (hsz : (lg_sl av).length ≤ maxL) (hlv : lv_args 0 av = lv) (hks : ∀ q ∈ ks, q.2 ≠ 0 ∧ ∀ a, q.1 = some a → wd_K w a = q.2)
    (body : ∀ (p : Program) (e : Env) (s : State) (m : MethodId) (args : Array Value) (below : List Frame) (meth : Method) (c : Code) (R : Room) (H : Heap) (locs : List Loc) (cells slots : Nat) (ls : Array Slot), wd_X p s m args meth c cc own maxL ret nm E → (F ≤ R.frames ∧ Lc ≤ R.locals) → c.exceptionTable.toList = tableOf hh → wd_Z E w R s w H locs cells slots ks → lv_has ls maxL lv → W p l e R s m args below meth c H locs cells slots (wd_finW E w rv w' X R args s below) (F0 m 0 ls [])) : wd_CW l E y cc maxL ret hh F Lc av w rv w' X := by
  refine vx_ofWH (cc := cc) (maxL := maxL) (ret := ret) (hh := hh) hy rfl ?_
  intro p e s m args below meth c s₁ B hml hv
  obtain ⟨rfl, hHd, hKS⟩ := hv
  have hts : ∀ w ∈ TT, w.before av.toArray s = true := fun w hw => atoms_spec (ws := Cond.codeWith y cc maxL ret hh :: TT) B.pre w (List.mem_cons_of_mem _ hw)
  have htab := vx_table (x := y) B (atoms_spec (ws := Cond.codeWith y cc maxL ret hh :: TT) B.pre _ List.mem_cons_self)
  have hown : s.vm.findClass y.cls = some m.cls := findClass_of_methodNamed B.named
  have hl := lv_entry av (n := maxL) hsz
  rw [lg_entry_eq]
  generalize (lg_sl av ++ List.replicate (maxL - (lg_sl av).length) Slot.unset).toArray = ls at hl ⊢
  rw [hlv] at hl
  subst hyo
  have hfit : s.heap.size + wd_M w = eC E ∧ wd_hs s.heap + wd_S w = eS E := ⟨by rw [hHd.1.1]; exact hHd.1.2.1, hHd.1.2.2.1⟩
  exact body p e s m av.toArray below meth c _ s.heap [] 0 0 ls ⟨B.exec, B.bytes, B.returns, hml, hts, hown, B.notSynchronized, by rw [(name_of_methodNamed B.named B.method).1]; exact hyn, hKS⟩ ⟨Nat.le_refl _, Nat.le_refl _⟩ htab ⟨hHd, fun q hq => absurd hq List.not_mem_nil, ⟨Nat.zero_add _, Nat.zero_add _⟩, wd_Ex.rf w, hks, hfit⟩ hl
def wd_ox {ρ : Type} (o : Option Int32) (A : Option ρ) (B : Int32 → Option ρ) : Option ρ := match o with
  | none => A
  | some a => B a
theorem wd_ox_n {ρ : Type} {r : Option Int32} {A : Option ρ} {B : Int32 → Option ρ} {o : ρ} (hr : r = none) (h : wd_ox r A B = some o) : A = some o := by subst hr; exact h
theorem wd_ox_s {ρ : Type} {r : Option Int32} {A : Option ρ} {B : Int32 → Option ρ} {o : ρ} {a : Int32} (hr : r = some a) (h : wd_ox r A B = some o) : B a = some o := by subst hr; exact h
theorem wd_atIn : ∀ w ∈ (vx_atS RX11 44 nIS ["java/lang/RuntimeException", "java/lang/Exception"]).filter goodWord, w ∈ TT := tw_l (by decide +kernel) (by decide +kernel)
theorem wd_atGood : ∀ w ∈ Cond.classLink RX11 40 nIS :: Cond.initialized nIS :: vx_atS RX11 44 nIS ["java/lang/RuntimeException", "java/lang/Exception"], vx_ot w = true := by decide +kernel
