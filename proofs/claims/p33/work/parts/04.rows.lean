/-! ===== ROWS over the world ===== -/

def wd_fok (g ci k : Nat) (C : String) (T : u_T) (N : Nat) (ref nm ds : String) : Prop := g = 100 * ci + k ∧ k < N ∧ ci < 12 ∧ wd_nF ci = N ∧ wd_cl[ci]? = some (C, T, N) ∧ (T k).1 = ref ∧ (T k).2.1 = nm ∧ (T k).2.2.1 = ds ∧ (∀ w ∈ u_ws C T N, w ∈ TT)
def wd_cok (ci : Nat) (C : String) (T : u_T) (N : Nat) (ty : Nat → FieldType) : Prop := ci < 12 ∧ wd_nF ci = N ∧ N ≤ 15 ∧ wd_cl[ci]? = some (C, T, N) ∧ (∀ k, k < N → parseFieldDescriptor (T k).2.2.1 = some (ty k)) ∧ (∀ a, a < N → ∀ b, b < N → a ≠ b → (T a).2.1 ≠ (T b).2.1) ∧ (∀ w ∈ u_ws C T N, w ∈ TT) ∧ (∀ j, j < N → defaultValue (ty j) = if wd_t (100 * ci + j) = 0 then .int 0 else .null)
/-- the end of a walk of this claim's methods -/
abbrev wd_qc (E : wd_E) (w : Wd) (rv : Option Value) (w' : Wd) (X : Prop) : Array Value → State → Outcome → State → Prop := fun _ _ oc t => oc = .returned rv ∧ wd_Hd E w' t.heap ∧ wd_Ex w w' ∧ X
/-- A METHOD'S CONTRACT: from the world w, with these arguments, it returns rv, in the world w' -/
def wd_C (l : Launch) (E : wd_E) (y : MethodName) (cc : ByteArray) (maxL : Nat) (ret : Option FieldType) (F Lc : Nat) (av : List Value) (w : Wd) (rv : Option Value) (w' : Wd) (X : Prop) : Prop :=
  Met l y (Cond.code y cc maxL ret :: TT) { frames := F, cells := wd_M w, slots := wd_S w, locals := Lc } (va_Pc av (fun U => wd_Hd E w U.heap ∧ wd_KS E U)) (wd_qc E w rv w' X) (wd_M w) (wd_S w) (fun q => (eG E).size ≤ q)
section WDR
variable {p : Program} {l : Launch} {e : Env} {R : Room} {s : State} {m : MethodId} {args : Array Value} {below : List Frame} {meth : Method} {c : Code} {H : Heap} {locs : List Loc} {cells slots : Nat} {Q : State → Prop}
variable {cc : ByteArray} {pc : Nat} {ls : Array Slot} {rest : List Value} {E : wd_E} {w0 w : Wd} {ks : List (Option Nat × Nat)} {a : Nat}
theorem z_ob {g ci k : Nat} {C : String} {T : u_T} {N : Nat} {ref nm ds : String} (F : wd_fok g ci k C T N ref nm ds) (hts : ∀ w ∈ TT, w.before args s = true) (hK : wd_KS E s) (hZ : wd_Z E w0 R s w H locs cells slots ks) (ha : wd_K w a = ci + 1) :
    ∃ (cell : Cell) (cf : Nat) (kf : Class) (fi : Nat) (f : Field), H[a]? = some cell ∧ cell.vm ≠ .unknown ∧ s.fieldFound? ref nm ds = some (cf, kf, fi, f) ∧ f.isStatic = false ∧ cell.slots[f.slot]? = some (wd_v w g a) := by
  obtain ⟨rfl, hk, hci, hN, hc, rfl, rfl, rfl, hin⟩ := F
  obtain ⟨-, cell, q1, q2, q3, q4⟩ := hZ.1.2.2.1 a ci ha hci
  obtain ⟨hS, hfc, kC, hkC, hkind⟩ := hK.1.1 ci _ hc
  obtain ⟨cf, kf, fi, f, hi, hsl⟩ := hS k hk
  exact ⟨cell, cf, kf, fi, f, q1, (by rw [q3]; exact (fun h => by cases h)), hi, (u_facts hfc hkC (u_lays hts hin hk) hi).1, by rw [hsl]; exact q4 k (by rw [hN]; exact hk)⟩
theorem z_getI {g ci k : Nat} {C : String} {T : u_T} {N : Nat} {ref nm ds own : String} {index : Nat} (F : wd_fok g ci k C T N ref nm ds) (ht : wd_t g = 0) (hx : p.tables.exec = Jvm.exec) (hb : c.code = cc) (hts : ∀ w ∈ TT, w.before args s = true) (hown : s.vm.findClass own = some m.cls) (hK : wd_KS E s) (hZ : wd_Z E w0 R s w H locs cells slots ks) (ha : wd_K w a = ci + 1)
    (hl : (Cond.fieldLink own index ref nm ds) ∈ TT) (hdg : decode cc pc = .ok (.getfield index, 3))
    (kk : W p l e R s m args below meth c H locs cells slots Q (F0 m (pc + 3) ls (.int (wd_I w g a) :: rest))) : W p l e R s m args below meth c H locs cells slots Q (F0 m pc ls (.ref a :: rest)) := by
  obtain ⟨cell, cf, kf, fi, f, h1, h2, h3, h4, h5⟩ := z_ob F hts hK hZ ha
  rw [wd_hasV ht] at h5
  exact W.getf hx hb hown (hts _ hl) h3 h4 h1 h2 h5 rfl rfl hdg kk
theorem z_getR {g ci k tk : Nat} {C : String} {T : u_T} {N : Nat} {ref nm ds own : String} {index : Nat} (F : wd_fok g ci k C T N ref nm ds) (ht : wd_t g = tk + 1) (hx : p.tables.exec = Jvm.exec) (hb : c.code = cc) (hts : ∀ w ∈ TT, w.before args s = true) (hown : s.vm.findClass own = some m.cls) (hK : wd_KS E s) (hZ : wd_Z E w0 R s w H locs cells slots ks) (ha : wd_K w a = ci + 1)
    (hl : (Cond.fieldLink own index ref nm ds) ∈ TT) (hdg : decode cc pc = .ok (.getfield index, 3))
    (kk : wd_Z E w0 R s w H locs cells slots ((wd_R w g a, tk + 1) :: ks) → W p l e R s m args below meth c H locs cells slots Q (F0 m (pc + 3) ls (va_rf (wd_R w g a) :: rest))) : W p l e R s m args below meth c H locs cells slots Q (F0 m pc ls (.ref a :: rest)) := by
  have ht0 : wd_t g ≠ 0 := by omega
  obtain ⟨cell, cf, kf, fi, f, h1, h2, h3, h4, h5⟩ := z_ob F hts hK hZ ha
  rw [wd_hasR ht0] at h5
  refine W.getf hx hb hown (hts _ hl) h3 h4 h1 h2 h5 rfl rfl hdg (kk (hZ.add (Nat.succ_ne_zero tk) fun q hq => ?_))
  obtain ⟨rfl, hk, hci, hN, -⟩ := F
  rw [hZ.1.2.2.2.2.2.2.1 a ci k q ha hci (by rw [hN]; exact hk) ht0 hq, ht]
theorem z_getRN {g ci k tk : Nat} {C : String} {T : u_T} {N : Nat} {ref nm ds own host : String} {index : Nat} (F : wd_fok g ci k C T N ref nm ds) (ht : wd_t g = tk + 1) (hx : p.tables.exec = Jvm.exec) (hb : c.code = cc) (hts : ∀ w ∈ TT, w.before args s = true) (hown : s.vm.findClass own = some m.cls) (hK : wd_KS E s) (hZ : wd_Z E w0 R s w H locs cells slots ks) (ha : wd_K w a = ci + 1)
    (hl : va_Nw (.fieldLinkNest own index ref nm ds host) s) (hdg : decode cc pc = .ok (.getfield index, 3))
    (kk : wd_Z E w0 R s w H locs cells slots ((wd_R w g a, tk + 1) :: ks) → W p l e R s m args below meth c H locs cells slots Q (F0 m (pc + 3) ls (va_rf (wd_R w g a) :: rest))) : W p l e R s m args below meth c H locs cells slots Q (F0 m pc ls (.ref a :: rest)) := by
  have ht0 : wd_t g ≠ 0 := by omega
  obtain ⟨cell, cf, kf, fi, f, h1, h2, h3, h4, h5⟩ := z_ob F hts hK hZ ha
  rw [wd_hasR ht0] at h5
  refine va_Wgetf (args := args) hx hb hown (va_Nw.use rfl hl) h3 h4 h1 h2 h5 rfl rfl hdg (kk (hZ.add (Nat.succ_ne_zero tk) fun q hq => ?_))
  obtain ⟨rfl, hk, hci, hN, -⟩ := F
  rw [hZ.1.2.2.2.2.2.2.1 a ci k q ha hci (by rw [hN]; exact hk) ht0 hq, ht]
theorem z_step {w1 : Wd} {H1 : Heap} {a k : Nat} (hZ : wd_Z E w0 R s w H locs cells slots ks) (hd : wd_Hd E w1 H1) (hga : (eG E).size ≤ a) (hM : wd_M w1 = wd_M w) (hS : wd_S w1 = wd_S w) (hK1 : wd_K w1 = wd_K w) (hH : wd_H w1 = wd_H w) : wd_Z E w0 R s w1 H1 (locs ++ [⟨a, k⟩]) cells slots ks := by
  obtain ⟨-, h2, h3, h4, h5, h6⟩ := hZ
  refine ⟨hd, fun q hq => ?_, by rw [hM, hS]; exact h3, ⟨fun b hb => by rw [hK1]; exact h4.1 b hb, by rw [hH]; exact h4.2⟩, by rw [hK1]; exact h5, h6⟩
  rcases List.mem_append.mp hq with hq | hq
  · exact h2 q hq
  · rw [List.mem_singleton.mp hq]
    exact hga
theorem z_putI {g ci k : Nat} {C : String} {T : u_T} {N : Nat} {ref nm ds own : String} {index : Nat} {tf : Nat → FieldType} {ty : FieldType} {v : Int32} (F : wd_fok g ci k C T N ref nm ds) (O : wd_cok ci C T N tf) (ht : wd_t g = 0) (hfin : (T k).2.2.2 = false) (hd : tf k = ty) (hn : narrow ty (.int v) = .int v) (hfit : fits ty (.int v) = true) (hx : p.tables.exec = Jvm.exec) (hb : c.code = cc) (hts : ∀ w ∈ TT, w.before args s = true) (hown : s.vm.findClass own = some m.cls) (hK : wd_KS E s) (hZ : wd_Z E w0 R s w H locs cells slots ks) (ha : wd_K w a = ci + 1)
    (hl : (Cond.fieldLink own index ref nm ds) ∈ TT) (hdg : decode cc pc = .ok (.putfield index, 3))
    (kk : ∀ (H1 : Heap) (locs1 : List Loc), wd_Z E w0 R s (wd_sI w g a v) H1 locs1 cells slots ks → W p l e R s m args below meth c H1 locs1 cells slots Q (F0 m (pc + 3) ls rest)) : W p l e R s m args below meth c H locs cells slots Q (F0 m pc ls (.int v :: .ref a :: rest)) := by
  obtain ⟨-, -, hN15, -, hty, hnm, -, -⟩ := O
  obtain ⟨rfl, hk, hci, hN, hc, rfl, rfl, rfl, hin⟩ := F
  subst hd
  have hap := va_apart (own := own) hts hin tf hty hnm hK.1 hc
  obtain ⟨hga, cell, q1, q2, q3, q4⟩ := hZ.1.2.2.1 a ci ha hci
  rw [hN] at q4
  obtain ⟨hS, hfc, kC, hkC, hkind⟩ := hK.1.1 ci _ hc
  obtain ⟨cf, kf, fi, f, hi, hsl⟩ := hS k hk
  have hlay := hts _ (hin _ (u_in_lay hk))
  unfold u_lay at hlay
  rw [if_neg (by rw [hfin]; decide)] at hlay
  have hst := (u_facts hfc hkC (u_lays hts hin hk) hi).1
  have h6 := u_store hfc hkC hkind hlay hi (hty k hk) hn hfit
  refine W.putK hx hb (f := f) ⟨hown, hts _ hl, ⟨_, _, _, hi⟩, hst⟩ (by rw [q2]; exact h6) q1 q3 (by rw [hsl]; exact k2_hasslot (q4 k hk)) rfl rfl hdg fun H' e1 e2 e3 => ?_
  rw [hsl] at e1 ⊢
  refine kk H' _ (z_step hZ (hZ.1.putI ha hci (by rw [hN]; exact hk) (by rw [hN]; exact hN15) ht ⟨_, e1, q2, q3, ?_⟩ e2 e3 (wd_hs_put q1 e1 e2 e3)) hga rfl rfl rfl rfl)
  rw [hN]
  exact t_set q4 hap hk _
theorem z_putR {g ci k : Nat} {C : String} {T : u_T} {N : Nat} {ref nm ds own : String} {index : Nat} {tf : Nat → FieldType} {ty : FieldType} {r : Option Nat} {vv : Value} (hvv : va_rf r = vv) (F : wd_fok g ci k C T N ref nm ds) (O : wd_cok ci C T N tf) {tk : Nat} (ht : wd_t g = tk + 1) (hr : ∀ q, r = some q → wd_K w q = tk + 1) (hfin : (T k).2.2.2 = false) (hd : tf k = ty) (hob : ∀ r, narrow ty (va_rf r) = va_rf r ∧ fits ty (va_rf r) = true) (hx : p.tables.exec = Jvm.exec) (hb : c.code = cc) (hts : ∀ w ∈ TT, w.before args s = true) (hown : s.vm.findClass own = some m.cls) (hK : wd_KS E s) (hZ : wd_Z E w0 R s w H locs cells slots ks) (ha : wd_K w a = ci + 1)
    (hl : (Cond.fieldLink own index ref nm ds) ∈ TT) (hdg : decode cc pc = .ok (.putfield index, 3))
    (kk : ∀ (H1 : Heap) (locs1 : List Loc), wd_Z E w0 R s (wd_sR w g a r) H1 locs1 cells slots ks → W p l e R s m args below meth c H1 locs1 cells slots Q (F0 m (pc + 3) ls rest)) : W p l e R s m args below meth c H locs cells slots Q (F0 m pc ls (vv :: .ref a :: rest)) := by
  subst hvv
  obtain ⟨-, -, hN15, -, hty, hnm, -, -⟩ := O
  obtain ⟨rfl, hk, hci, hN, hc, rfl, rfl, rfl, hin⟩ := F
  subst hd
  have hap := va_apart (own := own) hts hin tf hty hnm hK.1 hc
  obtain ⟨hga, cell, q1, q2, q3, q4⟩ := hZ.1.2.2.1 a ci ha hci
  rw [hN] at q4
  obtain ⟨hS, hfc, kC, hkC, hkind⟩ := hK.1.1 ci _ hc
  obtain ⟨cf, kf, fi, f, hi, hsl⟩ := hS k hk
  have hlay := hts _ (hin _ (u_in_lay hk))
  unfold u_lay at hlay
  rw [if_neg (by rw [hfin]; decide)] at hlay
  have hst := (u_facts hfc hkC (u_lays hts hin hk) hi).1
  have h6 := u_store hfc hkC hkind hlay hi (hty k hk) (hob r).1 (hob r).2
  refine W.putK hx hb (f := f) ⟨hown, hts _ hl, ⟨_, _, _, hi⟩, hst⟩ (by rw [q2]; exact h6) q1 q3 (by rw [hsl]; exact k2_hasslot (q4 k hk)) rfl rfl hdg fun H' e1 e2 e3 => ?_
  rw [hsl] at e1 ⊢
  refine kk H' _ (z_step hZ (hZ.1.putR ha hci (by rw [hN]; exact hk) (by rw [hN]; exact hN15) (by omega) (by rw [ht]; exact hr) ⟨_, e1, q2, q3, ?_⟩ e2 e3 (wd_hs_put q1 e1 e2 e3)) hga rfl rfl rfl rfl)
  rw [hN]
  exact t_set q4 hap hk _
theorem z_fin {ci k : Nat} {C : String} {T : u_T} {N : Nat} {own : String} {tf : Nat → FieldType} {v : Value} (hk : k < N) (hc : wd_cl[ci]? = some (C, T, N)) (hty : ∀ k, k < N → parseFieldDescriptor (T k).2.2.1 = some (tf k)) (hin : ∀ w ∈ u_ws C T N, w ∈ TT) (hfin : (T k).2.2.2 = true) (hdecl : (T k).1 = own) (hn : narrow (tf k) v = v) (hfit : fits (tf k) v = true) (hts : ∀ w ∈ TT, w.before args s = true) (hown : s.vm.findClass own = some m.cls) (hK : wd_KS E s) :
    ∃ (cf : Nat) (kf : Class) (fi : Nat) (f : Field), s.fieldFound? (T k).1 (T k).2.1 (T k).2.2.1 = some (cf, kf, fi, f) ∧ f.slot = (eD E).2 ci k ∧ f.isStatic = false ∧ m.cls = cf ∧ (narrow f.type v = v ∧ s.fitsSlot ((eD E).1 ci) .none f.slot v = true) := by
  obtain ⟨hS, hfc, kC, hkC, hkind⟩ := hK.1.1 ci _ hc
  obtain ⟨cf, kf, fi, f, hi, hsl⟩ := hS k hk
  have hlay := hts _ (hin _ (u_in_lay hk))
  unfold u_lay at hlay
  rw [if_pos hfin] at hlay
  have hst := (u_facts hfc hkC (u_lays hts hin hk) hi).1
  have hcf : m.cls = cf := by
    obtain ⟨_, _, c', _, _, _, -, -, hf', -, -, -, hown2, -⟩ := Cond.laysFinal_spec hlay
    have e1 : c' = cf := by have := hi.symm.trans hf'; simp at this; exact this.1.symm
    rw [hdecl] at hown2
    rw [← e1]; exact Option.some.inj (hown.symm.trans hown2)
  exact ⟨cf, kf, fi, f, hi, hsl, hst, hcf, u_fits hfc hkC hkind (Or.inr hlay) hi (hty k hk) hn hfit⟩
theorem z_putFI {g ci k : Nat} {C : String} {T : u_T} {N : Nat} {ref nm ds own : String} {index : Nat} {tf : Nat → FieldType} {ty : FieldType} {v : Int32} (hmn : meth.name = "<init>") (hdecl : ref = own) (F : wd_fok g ci k C T N ref nm ds) (O : wd_cok ci C T N tf) (ht : wd_t g = 0) (hfin : (T k).2.2.2 = true) (hd : tf k = ty) (hn : narrow ty (.int v) = .int v) (hfit : fits ty (.int v) = true) (hx : p.tables.exec = Jvm.exec) (hb : c.code = cc) (hts : ∀ w ∈ TT, w.before args s = true) (hown : s.vm.findClass own = some m.cls) (hK : wd_KS E s) (hZ : wd_Z E w0 R s w H locs cells slots ks) (ha : wd_K w a = ci + 1)
    (hl : (Cond.fieldLink own index ref nm ds) ∈ TT) (hdg : decode cc pc = .ok (.putfield index, 3))
    (kk : ∀ (H1 : Heap) (locs1 : List Loc), wd_Z E w0 R s (wd_sI w g a v) H1 locs1 cells slots ks → W p l e R s m args below meth c H1 locs1 cells slots Q (F0 m (pc + 3) ls rest)) : W p l e R s m args below meth c H locs cells slots Q (F0 m pc ls (.int v :: .ref a :: rest)) := by
  obtain ⟨-, -, hN15, -, hty, hnm, -, -⟩ := O
  obtain ⟨rfl, hk, hci, hN, hc, hrf, rfl, rfl, hin⟩ := F
  subst hd
  have hap := va_apart (own := own) hts hin tf hty hnm hK.1 hc
  obtain ⟨hga, cell, q1, q2, q3, q4⟩ := hZ.1.2.2.1 a ci ha hci
  rw [hN] at q4
  obtain ⟨cf, kf, fi, f, hi, hsl, hst, hcf, h6⟩ := z_fin hk hc hty hin hfin (hrf.trans hdecl) hn hfit hts hown hK
  subst hrf
  refine W.putFinK hx hb hown (hts _ hl) hi hst hcf hmn (by rw [q2]; exact h6) q1 q3 (by rw [hsl]; exact k2_hasslot (q4 k hk)) rfl rfl hdg fun H' e1 e2 e3 => ?_
  rw [hsl] at e1 ⊢
  refine kk H' _ (z_step hZ (hZ.1.putI ha hci (by rw [hN]; exact hk) (by rw [hN]; exact hN15) ht ⟨_, e1, q2, q3, ?_⟩ e2 e3 (wd_hs_put q1 e1 e2 e3)) hga rfl rfl rfl rfl)
  rw [hN]
  exact t_set q4 hap hk _
theorem z_putFR {g ci k : Nat} {C : String} {T : u_T} {N : Nat} {ref nm ds own : String} {index : Nat} {tf : Nat → FieldType} {ty : FieldType} {r : Option Nat} {vv : Value} (hvv : va_rf r = vv) (hmn : meth.name = "<init>") (hdecl : ref = own) (F : wd_fok g ci k C T N ref nm ds) (O : wd_cok ci C T N tf) {tk : Nat} (ht : wd_t g = tk + 1) (hr : ∀ q, r = some q → wd_K w q = tk + 1) (hfin : (T k).2.2.2 = true) (hd : tf k = ty) (hob : ∀ r, narrow ty (va_rf r) = va_rf r ∧ fits ty (va_rf r) = true) (hx : p.tables.exec = Jvm.exec) (hb : c.code = cc) (hts : ∀ w ∈ TT, w.before args s = true) (hown : s.vm.findClass own = some m.cls) (hK : wd_KS E s) (hZ : wd_Z E w0 R s w H locs cells slots ks) (ha : wd_K w a = ci + 1)
    (hl : (Cond.fieldLink own index ref nm ds) ∈ TT) (hdg : decode cc pc = .ok (.putfield index, 3))
    (kk : ∀ (H1 : Heap) (locs1 : List Loc), wd_Z E w0 R s (wd_sR w g a r) H1 locs1 cells slots ks → W p l e R s m args below meth c H1 locs1 cells slots Q (F0 m (pc + 3) ls rest)) : W p l e R s m args below meth c H locs cells slots Q (F0 m pc ls (vv :: .ref a :: rest)) := by
  subst hvv
  obtain ⟨-, -, hN15, -, hty, hnm, -, -⟩ := O
  obtain ⟨rfl, hk, hci, hN, hc, hrf, rfl, rfl, hin⟩ := F
  subst hd
  have hap := va_apart (own := own) hts hin tf hty hnm hK.1 hc
  obtain ⟨hga, cell, q1, q2, q3, q4⟩ := hZ.1.2.2.1 a ci ha hci
  rw [hN] at q4
  obtain ⟨cf, kf, fi, f, hi, hsl, hst, hcf, h6⟩ := z_fin hk hc hty hin hfin (hrf.trans hdecl) (hob r).1 (hob r).2 hts hown hK
  subst hrf
  refine W.putFinK hx hb hown (hts _ hl) hi hst hcf hmn (by rw [q2]; exact h6) q1 q3 (by rw [hsl]; exact k2_hasslot (q4 k hk)) rfl rfl hdg fun H' e1 e2 e3 => ?_
  rw [hsl] at e1 ⊢
  refine kk H' _ (z_step hZ (hZ.1.putR ha hci (by rw [hN]; exact hk) (by rw [hN]; exact hN15) (by omega) (by rw [ht]; exact hr) ⟨_, e1, q2, q3, ?_⟩ e2 e3 (wd_hs_put q1 e1 e2 e3)) hga rfl rfl rfl rfl)
  rw [hN]
  exact t_set q4 hap hk _
theorem z_iald (hx : p.tables.exec = Jvm.exec) (hb : c.code = cc) (hK : wd_KS E s) (hZ : wd_Z E w0 R s w H locs cells slots ks) (ha : wd_K w a = 21) {i : Int32} (hin : ¬ (i < 0 ∨ wd_N w a ≤ i.toNatClampNeg)) (hdg : decode cc pc = .ok (.iaload, 1))
    (kk : W p l e R s m args below meth c H locs cells slots Q (F0 m (pc + 1) ls (.int (wd_A w a i.toNatClampNeg) :: rest))) : W p l e R s m args below meth c H locs cells slots Q (F0 m pc ls (.int i :: .ref a :: rest)) := by
  have hlt : i.toNatClampNeg < wd_N w a := Nat.not_le.mp fun q => hin (Or.inr q)
  exact W.iald (v := .int (wd_A w a i.toNatClampNeg)) hx hb (hZ.1.2.2.2.1 a ha).2 ((hK.1.2 0 _ rfl).1 _ _) (fun q => by cases q) (by rw [arrV_size]; exact hin) (by rw [arrV_read _ _ hlt]) rfl rfl hdg kk
/-- the script's own array -/
theorem z_iald0 (hx : p.tables.exec = Jvm.exec) (hb : c.code = cc) (hK : wd_KS E s) (hZ : wd_Z E w0 R s w H locs cells slots ks) (ha : wd_K w a = 20) {i : Int32} (hin : ¬ (i < 0 ∨ wd_N w a ≤ i.toNatClampNeg)) (hdg : decode cc pc = .ok (.iaload, 1))
    (kk : W p l e R s m args below meth c H locs cells slots Q (F0 m (pc + 1) ls (.int (wd_A w a i.toNatClampNeg) :: rest))) : W p l e R s m args below meth c H locs cells slots Q (F0 m pc ls (.int i :: .ref a :: rest)) := by
  obtain ⟨h1, h2, h3, h4⟩ := hZ.1.2.2.2.2.2.1 a ha
  subst h1
  obtain ⟨scr, g1, g2, g3, g4, g5⟩ := hK.2.1
  have hlt : i.toNatClampNeg < eL E := by rw [← h3]; exact Nat.not_le.mp fun q => hin (Or.inr q)
  refine W.iald (v := .int (wd_A w (eB E) i.toNatClampNeg)) hx hb (by rw [hZ.1.1.2.2.2.2 _ h2]; exact g1) g2 g3 (by rw [g4, ← h3]; exact hin) ?_ rfl rfl hdg kk
  rw [g5 _ hlt, h4 _ hlt]
theorem z_iast (hx : p.tables.exec = Jvm.exec) (hb : c.code = cc) (hK : wd_KS E s) (hZ : wd_Z E w0 R s w H locs cells slots ks) (ha : wd_K w a = 21) {i x : Int32} (hin : ¬ (i < 0 ∨ wd_N w a ≤ i.toNatClampNeg)) (hdg : decode cc pc = .ok (.iastore, 1))
    (kk : ∀ (H1 : Heap) (locs1 : List Loc), wd_Z E w0 R s (wd_sA w a i.toNatClampNeg x) H1 locs1 cells slots ks → W p l e R s m args below meth c H1 locs1 cells slots Q (F0 m (pc + 1) ls rest)) : W p l e R s m args below meth c H locs cells slots Q (F0 m pc ls (.int x :: .int i :: .ref a :: rest)) := by
  obtain ⟨hga, hc⟩ := hZ.1.2.2.2.1 a ha
  refine W.iast hx hb hc ((hK.1.2 0 _ rfl).1 _ _) (fun q => by cases q) (by rw [arrV_size]; exact hin) rfl rfl hdg fun H1 e1 e2 e3 => ?_
  refine kk H1 _ (z_step hZ (hZ.1.putA ha ?_ e2 e3 (wd_hs_put hc e1 e2 e3)) hga rfl rfl rfl rfl)
  rw [e1, arrV_store]
theorem z_alen (hx : p.tables.exec = Jvm.exec) (hb : c.code = cc) (hK : wd_KS E s) (hZ : wd_Z E w0 R s w H locs cells slots ks) (ha : wd_K w a = 21) (hdg : decode cc pc = .ok (.arraylength, 1))
    (kk : W p l e R s m args below meth c H locs cells slots Q (F0 m (pc + 1) ls (.int (Int32.ofNat (wd_N w a)) :: rest))) : W p l e R s m args below meth c H locs cells slots Q (F0 m pc ls (.ref a :: rest)) :=
  W.alen (n := Int32.ofNat (wd_N w a)) hx hb (hZ.1.2.2.2.1 a ha).2 ((hK.1.2 0 _ rfl).1 _ _) (by rw [arrV_size]) rfl rfl hdg kk
theorem z_alen0 (hx : p.tables.exec = Jvm.exec) (hb : c.code = cc) (hK : wd_KS E s) (hZ : wd_Z E w0 R s w H locs cells slots ks) (ha : wd_K w a = 20) (hdg : decode cc pc = .ok (.arraylength, 1))
    (kk : W p l e R s m args below meth c H locs cells slots Q (F0 m (pc + 1) ls (.int (Int32.ofNat (wd_N w a)) :: rest))) : W p l e R s m args below meth c H locs cells slots Q (F0 m pc ls (.ref a :: rest)) := by
  obtain ⟨h1, h2, h3, h4⟩ := hZ.1.2.2.2.2.2.1 a ha
  subst h1
  obtain ⟨scr, g1, g2, g3, g4, g5⟩ := hK.2.1
  exact W.alen (n := Int32.ofNat (wd_N w (eB E))) hx hb (by rw [hZ.1.1.2.2.2.2 _ h2]; exact g1) g2 (by rw [g4, ← h3]) rfl rfl hdg kk
/-- the classes of the elements -/
def wd_ec : Nat → FieldType
  | 22 => .object RX7 | 23 => .object RX3 | 24 => .object RX2 | 25 => .object RX1
  | _ => .array .int
theorem z_aty (hK : wd_KS E s) {k : Nat} (hk1 : 22 ≤ k) (hk2 : k ≤ 26) : ArrOfT s (eA E k) (wd_ec k) ∧ va_RA s (eA E k) (wd_ec k) := by
  have : k = 22 ∨ k = 23 ∨ k = 24 ∨ k = 25 ∨ k = 26 := by omega
  rcases this with rfl | rfl | rfl | rfl | rfl
  · exact hK.1.2 1 _ rfl
  · exact hK.1.2 2 _ rfl
  · exact hK.1.2 3 _ rfl
  · exact hK.1.2 4 _ rfl
  · exact hK.1.2 5 _ rfl
theorem z_aald {k : Nat} (hk1 : 22 ≤ k) (hk2 : k ≤ 26) {tk : Nat} (htk : wd_e k = tk + 1) (hx : p.tables.exec = Jvm.exec) (hb : c.code = cc) (hK : wd_KS E s) (hZ : wd_Z E w0 R s w H locs cells slots ks) (ha : wd_K w a = k) {i : Int32} (hin : ¬ (i < 0 ∨ wd_N w a ≤ i.toNatClampNeg)) (hdg : decode cc pc = .ok (.aaload, 1))
    (kk : wd_Z E w0 R s w H locs cells slots ((wd_Q w a i.toNatClampNeg, tk + 1) :: ks) → W p l e R s m args below meth c H locs cells slots Q (F0 m (pc + 1) ls (va_rf (wd_Q w a i.toNatClampNeg) :: rest))) : W p l e R s m args below meth c H locs cells slots Q (F0 m pc ls (.int i :: .ref a :: rest)) := by
  have hlt : i.toNatClampNeg < wd_N w a := Nat.not_le.mp fun q => hin (Or.inr q)
  have hr : (wd_ec k).isReference = true := by
    have : k = 22 ∨ k = 23 ∨ k = 24 ∨ k = 25 ∨ k = 26 := by omega
    rcases this with rfl | rfl | rfl | rfl | rfl <;> rfl
  refine W.aald (v := va_rf (wd_Q w a i.toNatClampNeg)) (ty := wd_ec k) hx hb (hZ.1.2.2.2.2.1 a k ha hk1 hk2).2 ((z_aty hK hk1 hk2).1 _ _) hr (fun q => by cases q) (by rw [arrV_size]; exact hin) (by rw [arrV_read _ _ hlt]) rfl rfl hdg (kk (hZ.add (Nat.succ_ne_zero tk) fun q hq => ?_))
  rw [hZ.1.2.2.2.2.2.2.2 a _ q (by rw [ha]; exact hk1) (by rw [ha]; exact hk2) hq, ha, htk]
theorem z_aast {k ci v : Nat} {C : String} {T : u_T} {N : Nat} (hk1 : 22 ≤ k) (hk2 : k ≤ 25) (hec : wd_ec k = .object C) (hte : wd_e k = ci + 1) (hci : ci < 12) (hc : wd_cl[ci]? = some (C, T, N)) (hx : p.tables.exec = Jvm.exec) (hb : c.code = cc) (hK : wd_KS E s) (hZ : wd_Z E w0 R s w H locs cells slots ks) (ha : wd_K w a = k) (hv : wd_K w v = ci + 1) {i : Int32} (hin : ¬ (i < 0 ∨ wd_N w a ≤ i.toNatClampNeg)) (hdg : decode cc pc = .ok (.aastore, 1))
    (kk : ∀ (H1 : Heap) (locs1 : List Loc), wd_Z E w0 R s (wd_sQ w a i.toNatClampNeg (some v)) H1 locs1 cells slots ks → W p l e R s m args below meth c H1 locs1 cells slots Q (F0 m (pc + 1) ls rest)) : W p l e R s m args below meth c H locs cells slots Q (F0 m pc ls (.ref v :: .int i :: .ref a :: rest)) := by
  have hk2' : k ≤ 26 := by omega
  have hlt : i.toNatClampNeg < wd_N w a := Nat.not_le.mp fun q => hin (Or.inr q)
  have h0 : ¬ i < 0 := fun q => hin (Or.inl q)
  obtain ⟨-, cellV, g1, g2, g3, -⟩ := hZ.1.2.2.1 v ci hv hci
  have hcls := (hK.1.1 ci _ hc).2
  have hRA := (z_aty hK hk1 hk2').2
  rw [hec] at hRA
  obtain ⟨kA, comp, k1, k2, k3, -⟩ := hRA
  have hcomp : comp = (eD E).1 ci := Option.some.inj (k3.symm.trans hcls.1)
  subst hcomp
  obtain ⟨kC, hkC, -⟩ := id hcls.2
  obtain ⟨hga, hca⟩ := hZ.1.2.2.2.2.1 a k ha hk1 hk2'
  refine W.aast hx hb hca (fun q h => by cases h) (fun h => by cases h) k1 k2 rfl hkC ⟨h0, by rw [arrV_size]; exact hlt⟩ g1 (fun q h => by rw [g3] at h; cases h) (by rw [g2]; exact hkC) (by rw [g2]; exact va_assign hcls) rfl rfl hdg fun H1 e1 e2 e3 => ?_
  refine kk H1 _ (z_step hZ (hZ.1.putQ ha hk1 hk2' (fun q hq => by cases hq; rw [hv, hte]) ?_ e2 e3 (wd_hs_put hca e1 e2 e3)) hga rfl rfl rfl rfl)
  rw [e1, arrV_store]
  rfl
theorem z_grow {w1 : Wd} {H1 : Heap} {n : Nat} (hZ : wd_Z E w0 R s w H locs cells slots ks) (hd : wd_Hd E w1 H1) (hc : 1 ≤ wd_M w) (hs : n ≤ wd_S w) (hM : wd_M w1 = wd_M w - 1) (hS : wd_S w1 = wd_S w - n) (hE : wd_Ex w w1) : wd_Z E w0 R s w1 H1 locs (cells + 1) (slots + n) ks := by
  obtain ⟨h1, h2, h3, h4, h5, h6⟩ := hZ
  refine ⟨hd, h2, by rw [hM, hS]; omega, h4.tr hE, fun q hq => ⟨(h5 q hq).1, fun a ha => ?_⟩, h6⟩
  have h9 := (h5 q hq).2 a ha
  rw [hE.1 a (by rw [h9]; exact (h5 q hq).1)]
  exact h9
end WDR
theorem va_cat_r (a : Nat) : (Value.ref a).category = 1 := rfl
theorem va_cat_i (a : Int32) : (Value.int a).category = 1 := rfl
theorem va_cat_l (a : Int64) : (Value.long a).category = 2 := rfl
theorem va_cat_d (a : UInt64) : (Value.double a).category = 2 := rfl
theorem va_rf_cat (r : Option Nat) : (va_rf r).category = 1 := by cases r <;> rfl
section WDQ
variable {p : Program} {l : Launch} {e : Env} {R : Room} {s : State} {m : MethodId} {args : Array Value} {below : List Frame} {meth : Method} {c : Code} {H : Heap} {locs : List Loc} {cells slots : Nat} {Q : State → Prop}
variable {cc : ByteArray} {pc : Nat} {ls : Array Slot} {rest : List Value} {E : wd_E} {w0 w : Wd} {ks : List (Option Nat × Nat)} {a : Nat}
theorem z_null (hx : p.tables.exec = Jvm.exec) (hb : c.code = cc) (hdg : decode cc pc = .ok (.aconst_null, 1)) (k : W p l e R s m args below meth c H locs cells slots Q (F0 m (pc + 1) ls (va_rf none :: rest))) : W p l e R s m args below meth c H locs cells slots Q (F0 m pc ls rest) := lv_null hx hb hdg k
theorem z_aload_n (hx : p.tables.exec = Jvm.exec) (hb : c.code = cc) {k : Fin 4} {i : Nat} {r : Option Nat} (hdg : decode cc pc = .ok (.aload_n k, 1)) (hi : (k : Nat) = i) (hl : ls[i]? = some (.val (va_rf r)))
    (k : W p l e R s m args below meth c H locs cells slots Q (F0 m (pc + 1) ls (va_rf r :: rest))) : W p l e R s m args below meth c H locs cells slots Q (F0 m pc ls rest) := by
  cases r with
  | none => exact lv_aload_nN hx hb hdg hi hl k
  | some x => exact lv_aload_n hx hb hdg hi hl k
theorem z_aload (hx : p.tables.exec = Jvm.exec) (hb : c.code = cc) {i : Nat} {r : Option Nat} (hdg : decode cc pc = .ok (.aload i, 2)) (hl : ls[i]? = some (.val (va_rf r)))
    (k : W p l e R s m args below meth c H locs cells slots Q (F0 m (pc + 2) ls (va_rf r :: rest))) : W p l e R s m args below meth c H locs cells slots Q (F0 m pc ls rest) := by
  cases r with
  | none => exact lv_aloadN hx hb hdg hl k
  | some x => exact lv_aload hx hb hdg hl k
theorem z_astore_n (hx : p.tables.exec = Jvm.exec) (hb : c.code = cc) {k : Fin 4} {i nL : Nat} {r : Option Nat} {lv lv' : List (Nat × Value)} (hdg : decode cc pc = .ok (.astore_n k, 1)) (hi : (k : Nat) = i) (h : lv_has ls nL lv) (hn : i < nL) (hl : (i, va_rf r) :: lv.filter (fun q => !(q.1 == i) && !(q.1 + 1 == i && q.2.category == 2)) = lv')
    (kk : ∀ ls' : Array Slot, lv_has ls' nL lv' → W p l e R s m args below meth c H locs cells slots Q (F0 m (pc + 1) ls' rest)) : W p l e R s m args below meth c H locs cells slots Q (F0 m pc ls (va_rf r :: rest)) := by
  cases r with
  | none => exact lv_astore_nN hx hb hdg hi h hn hl kk
  | some x => exact lv_astore_n hx hb hdg hi h hn hl kk
theorem z_astore (hx : p.tables.exec = Jvm.exec) (hb : c.code = cc) {i nL : Nat} {r : Option Nat} {lv lv' : List (Nat × Value)} (hdg : decode cc pc = .ok (.astore i, 2)) (h : lv_has ls nL lv) (hn : i < nL) (hl : (i, va_rf r) :: lv.filter (fun q => !(q.1 == i) && !(q.1 + 1 == i && q.2.category == 2)) = lv')
    (kk : ∀ ls' : Array Slot, lv_has ls' nL lv' → W p l e R s m args below meth c H locs cells slots Q (F0 m (pc + 2) ls' rest)) : W p l e R s m args below meth c H locs cells slots Q (F0 m pc ls (va_rf r :: rest)) := by
  cases r with
  | none => exact lv_astoreN hx hb hdg h hn hl kk
  | some x => exact lv_astore hx hb hdg h hn hl kk
theorem z_goY {off : Int} {tgt : Nat} {op : Instr} {r : Option Nat} (hop : op = .ifnull off ∨ op = .ifnonnull off) (hx : p.tables.exec = Jvm.exec) (hb : c.code = cc) (hdg : decode cc pc = .ok (op, 3)) (ht : (pc : Int) + off = (tgt : Int)) (hj : (op = .ifnull off ∧ r = none) ∨ (op = .ifnonnull off ∧ r ≠ none))
    (k : W p l e R s m args below meth c H locs cells slots Q (F0 m tgt ls rest)) : W p l e R s m args below meth c H locs cells slots Q (F0 m pc ls (va_rf r :: rest)) := by
  intro T hT X
  obtain ⟨t, a, b⟩ := k T hT X
  refine ⟨t, ?_, b⟩
  rcases hj with ⟨h1, h2⟩ | ⟨h1, h2⟩
  · subst h1
    subst h2
    jvm_step X.here [X.here.top, hx, hb, hdg, ht, va_rf, Value.asRef?]
    exact a
  · subst h1
    cases r with
    | none => exact absurd rfl h2
    | some y =>
      jvm_step X.here [X.here.top, hx, hb, hdg, ht, va_rf, Value.asRef?]
      exact a
theorem z_ifnull (hx : p.tables.exec = Jvm.exec) (hb : c.code = cc) {off : Int} {tgt : Nat} {r : Option Nat} (hdg : decode cc pc = .ok (.ifnull off, 3)) (ht : (pc : Int) + off = (tgt : Int))
    (kt : r = none → W p l e R s m args below meth c H locs cells slots Q (F0 m tgt ls rest)) (kf : ∀ y, r = some y → W p l e R s m args below meth c H locs cells slots Q (F0 m (pc + 3) ls rest)) : W p l e R s m args below meth c H locs cells slots Q (F0 m pc ls (va_rf r :: rest)) := by
  cases r with
  | none => exact z_goY (Or.inl rfl) hx hb hdg ht (Or.inl ⟨rfl, rfl⟩) (kt rfl)
  | some y => exact lv_ifnull hx hb hdg (kf y rfl)
theorem z_ifnonnull (hx : p.tables.exec = Jvm.exec) (hb : c.code = cc) {off : Int} {tgt : Nat} {r : Option Nat} (hdg : decode cc pc = .ok (.ifnonnull off, 3)) (ht : (pc : Int) + off = (tgt : Int))
    (kt : ∀ y, r = some y → W p l e R s m args below meth c H locs cells slots Q (F0 m tgt ls rest)) (kf : r = none → W p l e R s m args below meth c H locs cells slots Q (F0 m (pc + 3) ls rest)) : W p l e R s m args below meth c H locs cells slots Q (F0 m pc ls (va_rf r :: rest)) := by
  cases r with
  | none => exact lv_ifnonnullN hx hb hdg (kf rfl)
  | some y => exact z_goY (Or.inr rfl) hx hb hdg ht (Or.inr ⟨rfl, fun h => by cases h⟩) (kt y rfl)
theorem wd_nw_ex (w : Wd) (hz : ∀ a, wd_H w ≤ a → wd_K w a = 0) (k n sz : Nat) : wd_Ex w (wd_nw w k n sz) := by
  refine ⟨fun a ha => ?_, Nat.le_succ _⟩
  have hne : a ≠ wd_H w := fun h => ha (hz a (by omega))
  show (if a = wd_H w then k else wd_K w a) = wd_K w a
  rw [if_neg hne]
theorem z_new {ci : Nat} {C own : String} {T : u_T} {N index : Nat} {tf : Nat → FieldType} (O : wd_cok ci C T N tf) (hx : p.tables.exec = Jvm.exec) (hb : c.code = cc) (hts : ∀ w ∈ TT, w.before args s = true) (hown : s.vm.findClass own = some m.cls) (hK : wd_KS E s) (hZ : wd_Z E w0 R s w H locs cells slots ks)
    (hcl : Cond.classLink own index C ∈ TT) (hins : Cond.instantiable C N ∈ TT) (hini : Cond.initialized C ∈ TT) (hg : ¬ (wd_M w = 0 ∨ wd_S w < N)) (hdg : decode cc pc = .ok (.new index, 3))
    (kk : ∀ (H1 : Heap) (cells1 slots1 : Nat), wd_Z E w0 R s (wd_nw w (ci + 1) 0 N) H1 locs cells1 slots1 ((some (wd_H w), ci + 1) :: ks) → W p l e R s m args below meth c H1 locs cells1 slots1 Q (F0 m (pc + 3) ls (.ref (wd_H w) :: rest))) : W p l e R s m args below meth c H locs cells slots Q (F0 m pc ls rest) := by
  obtain ⟨hci, hN, hN15, hc, hty, hnm, hin, hdf⟩ := O
  have hM : 1 ≤ wd_M w := by omega
  have hS : N ≤ wd_S w := by omega
  have hb3 := hZ.2.2.1
  have hKn := hK.1.1 ci _ hc
  refine W.newc hx hb hown (hts _ hcl) (hts _ hins) (hts _ hini) rfl hdg (by omega) (by omega) fun cC kC h1 h2 h3 h4 => ?_
  have hsz : ({ cls := cC, slots := kC.instanceTypes.map defaultValue, vm := .none } : Cell).slots.size = N := by
    show (kC.instanceTypes.map defaultValue).size = N
    rw [Array.size_map, h4]
  have hcC : cC = (eD E).1 ci := Option.some.inj (h1.symm.trans hKn.2.1)
  have hd := hZ.1.new (k := ci + 1) (n := 0) (cell := { cls := cC, slots := kC.instanceTypes.map defaultValue, vm := .none }) hM (by rw [hsz]; exact hS) (by omega) (fun ci' h9 hci' H1 hH1 => ?_) (by omega) (by omega)
  · rw [hsz] at hd
    have hsize : H.size = wd_H w := hZ.1.1.1
    rw [hsize]
    refine kk _ _ _ ((z_grow hZ hd hM hS rfl rfl (wd_nw_ex w hZ.1.2.1 _ _ _)).add (Nat.succ_ne_zero ci) fun q hq => ?_)
    cases hq
    show (if wd_H w = wd_H w then ci + 1 else wd_K w (wd_H w)) = ci + 1
    rw [if_pos rfl]
  · have : ci' = ci := by omega
    subst this
    subst hcC
    rw [hsz]
    have hkC := h2
    rw [hN]
    refine (u_born tf hts hin hKn hkC hH1 hty).to fun j hj => ?_
    rw [hdf j hj]
    by_cases ht : wd_t (100 * ci' + j) = 0
    · rw [if_pos ht, wd_hasV ht]
      simp [wd_nw, wd_I]
    · rw [if_neg ht, wd_hasR ht]
      simp [wd_nw, wd_R, va_rf]
theorem z_newa (hx : p.tables.exec = Jvm.exec) (hb : c.code = cc) (hts : ∀ w ∈ TT, w.before args s = true) (hK : wd_KS E s) (hZ : wd_Z E w0 R s w H locs cells slots ks) (harr : Cond.arrayClass .int ∈ TT) {n : Int32} {N : Nat} (hn : ¬ n < 0) (hN : n.toNatClampNeg = N) (hby : N * 4 ≤ 536870912) (hg : ¬ (wd_M w = 0 ∨ wd_S w < N)) (hdg : decode cc pc = .ok (.newarray .int, 2))
    (kk : ∀ (H1 : Heap) (cells1 slots1 : Nat), wd_Z E w0 R s (wd_nw w 21 N N) H1 locs cells1 slots1 ((some (wd_H w), 21) :: ks) → W p l e R s m args below meth c H1 locs cells1 slots1 Q (F0 m (pc + 2) ls (.ref (wd_H w) :: rest))) : W p l e R s m args below meth c H locs cells slots Q (F0 m pc ls (.int n :: rest)) := by
  subst hN
  have hM : 1 ≤ wd_M w := by omega
  have hS : n.toNatClampNeg ≤ wd_S w := by omega
  have hb3 := hZ.2.2.1
  refine W.newa hx hb (atype := .int) (hts _ harr) rfl hdg rfl hn hby (by omega) (by omega) fun cA kA comp h1 h2 h3 => ?_
  have hcA : cA = eA E 21 := by
    have h9 : va_RA s (eA E 21) .int := (hK.1.2 0 _ rfl).2
    exact Option.some.inj (h1.symm.trans h9)
  subst hcA
  have hcell : ({ cls := eA E 21, slots := Array.replicate n.toNatClampNeg (defaultValue (newarray.typeOf .int)), vm := .none } : Cell) = arrV (eA E 21) n.toNatClampNeg (fun _ => .int 0) := arrV_new _ _ _
  have hd := hZ.1.new (k := 21) (n := n.toNatClampNeg) (cell := arrV (eA E 21) n.toNatClampNeg (fun _ => .int 0)) hM (by rw [arrV_size]; exact hS) (by omega) (fun ci' h9 hci' => by omega) (fun _ => rfl) (by omega)
  rw [arrV_size] at hd
  rw [hcell, show H.size = wd_H w from hZ.1.1.1]
  refine kk _ _ _ ((z_grow hZ hd hM hS rfl rfl (wd_nw_ex w hZ.1.2.1 _ _ _)).add (by decide) fun q hq => ?_)
  cases hq
  show (if wd_H w = wd_H w then 21 else wd_K w (wd_H w)) = 21
  rw [if_pos rfl]
theorem z_anew {k : Nat} {C own : String} {index : Nat} (hk1 : 22 ≤ k) (hk2 : k ≤ 25) (hec : wd_ec k = .object C) (hover : va_AO C s) (hx : p.tables.exec = Jvm.exec) (hb : c.code = cc) (hts : ∀ w ∈ TT, w.before args s = true) (hown : s.vm.findClass own = some m.cls) (hK : wd_KS E s) (hZ : wd_Z E w0 R s w H locs cells slots ks) (hcl : Cond.classLink own index C ∈ TT) {n : Int32} {N : Nat} (hn : ¬ n < 0) (hN : n.toNatClampNeg = N) (hby : N * 4 ≤ 536870912) (hg : ¬ (wd_M w = 0 ∨ wd_S w < N)) (hdg : decode cc pc = .ok (.anewarray index, 3))
    (kk : ∀ (H1 : Heap) (cells1 slots1 : Nat), wd_Z E w0 R s (wd_nw w k N N) H1 locs cells1 slots1 ((some (wd_H w), k) :: ks) → W p l e R s m args below meth c H1 locs cells1 slots1 Q (F0 m (pc + 3) ls (.ref (wd_H w) :: rest))) : W p l e R s m args below meth c H locs cells slots Q (F0 m pc ls (.int n :: rest)) := by
  subst hN
  have hk2' : k ≤ 26 := by omega
  have hM : 1 ≤ wd_M w := by omega
  have hS : n.toNatClampNeg ≤ wd_S w := by omega
  have hb3 := hZ.2.2.1
  refine W.anew hx hb hown (hts _ hcl) (va_AO.use hover) rfl hdg rfl hn hby (by omega) (by omega) fun cA kA comp h1 h2 h3 h4 => ?_
  have hcA : cA = eA E k := by
    have h9 := (z_aty hK hk1 hk2').2
    rw [hec] at h9
    obtain ⟨_, _, _, _, _, h10⟩ := h9
    exact Option.some.inj (h1.symm.trans h10)
  subst hcA
  have hcell : ({ cls := eA E k, slots := Array.replicate n.toNatClampNeg .null, vm := .none } : Cell) = arrV (eA E k) n.toNatClampNeg (fun _ => .null) := arrV_new _ _ _
  have hd := hZ.1.new (k := k) (n := n.toNatClampNeg) (cell := arrV (eA E k) n.toNatClampNeg (fun _ => .null)) hM (by rw [arrV_size]; exact hS) (by omega) (fun ci' h9 hci' => by omega) (by omega) (fun _ _ => rfl)
  rw [arrV_size] at hd
  rw [hcell, show H.size = wd_H w from hZ.1.1.1]
  refine kk _ _ _ ((z_grow hZ hd hM hS rfl rfl (wd_nw_ex w hZ.1.2.1 _ _ _)).add (by omega) fun q hq => ?_)
  cases hq
  show (if wd_H w = wd_H w then k else wd_K w (wd_H w)) = k
  rw [if_pos rfl]
/-- behind a call -/
theorem z_back {w1 : Wd} {H1 : Heap} {T' : State} {locs1 : List Loc} {c1 s1 : Nat} (hZ : wd_Z E w0 R s w H locs cells slots ks) (hd : wd_Hd E w1 H1) (hE : wd_Ex w w1) (hL : ∀ q ∈ locs1, (eG E).size ≤ q.base) (hT : T'.heap = H1) (X : Stand p l e R s m args below meth c T' locs1 c1 s1) :
    Stand p l e R s m args below meth c T' locs1 (R.cells - wd_M w1) (R.slots - wd_S w1) ∧ wd_Z E w0 R s w1 H1 locs1 (R.cells - wd_M w1) (R.slots - wd_S w1) ks := by
  obtain ⟨-, h2, h3, h4, h5, h6⟩ := hZ
  obtain ⟨g1, g2⟩ := wd_grown X
  obtain ⟨⟨a1, a2, a3, -, -⟩, -⟩ := id hd
  rw [hT] at g1 g2
  have hc : wd_M w1 ≤ R.cells := by omega
  have hs : wd_S w1 ≤ R.slots := by omega
  refine ⟨wd_tight X (by rw [hT]; omega) (by rw [hT]; omega), hd, hL, by omega, h4.tr hE, fun q hq => ⟨(h5 q hq).1, fun a ha => ?_⟩, h6⟩
  have h9 := (h5 q hq).2 a ha
  rw [hE.1 a (by rw [h9]; exact (h5 q hq).1)]
  exact h9
theorem z_go {w1 : Wd} {rv : Option Value} {X : Prop} {st0 st1 : List Value} {av : Array Value} (hZ : wd_Z E w0 R s w H locs cells slots ks) (hr : va_Run p l e R s m args below meth c H locs cells slots (wd_M w) (wd_S w) (F0 m pc ls st0) rest (wd_qc E w rv w1 X av) (fun q => (eG E).size ≤ q)) (hst : rv.toList ++ rest = st1)
    (kk : ∀ (H1 : Heap) (locs1 : List Loc) (cells1 slots1 : Nat), X → wd_Z E w0 R s w1 H1 locs1 cells1 slots1 ks → W p l e R s m args below meth c H1 locs1 cells1 slots1 Q (F0 m (pc + 3) ls st1)) : W p l e R s m args below meth c H locs cells slots Q (F0 m pc ls st0) := by
  intro T hT X
  obtain ⟨v, st₀, t, T', L, h0, X', hL, e1, e2, ⟨hv, hd, hE, hX⟩, st⟩ := hr T hT X
  obtain rfl := Outcome.returned.inj hv
  obtain ⟨X2, hZ2⟩ := z_back hZ hd hE (fun q hq => by
    rcases List.mem_append.mp hq with h | h
    · exact hZ.2.1 q h
    · exact hL q h) e1 X'
  obtain ⟨t2, a1, b1⟩ := kk t.heap (locs ++ L) _ _ hX hZ2 T' e1 X2
  subst hst
  exact ⟨t2, st t2 a1, b1⟩
def wd_mok (y : MethodName) (cc : ByteArray) (maxL : Nat) (ret : Option FieldType) (n : Nat) : Prop := Cond.code y cc maxL ret ∈ TT ∧ Cond.initialized y.cls ∈ TT ∧ (y.cls ≠ "java/lang/invoke/MethodHandle" ∧ y.cls ≠ "java/lang/invoke/VarHandle" ∧ (parseMethodDescriptor y.desc).map (fun d => d.parameters.length) = some n)
theorem wd_goodC {y : MethodName} {cc : ByteArray} {maxL : Nat} {ret : Option FieldType} (h : Cond.code y cc maxL ret ∈ TT) : GoodIn TT (Cond.code y cc maxL ret :: TT) := fun w hw => by
  rcases List.mem_cons.mp hw with rfl | hw
  · exact TT_good _ h
  · exact TT_good _ hw
theorem wd_blind (E : wd_E) (av : List Value) (w : Wd) : FrameBlind (va_Pc av (fun U => wd_Hd E w U.heap ∧ wd_KS E U)) := fun a U g mk q => ⟨q.1, q.2.1, wd_KS.same (s := U) (U := U.calling g mk a) rfl q.2.2⟩
theorem z_callV {own : String} {index : Nat} {y : MethodName} {bytes : ByteArray} {maxL F Lc ci n nL : Nat} {ret : Option FieldType} {As : List Value} {b : Nat} {rv : Option Value} {w1 : Wd} {X : Prop} {C : String} {T : u_T} {N : Nat} {st0 st1 : List Value}
    (hC : wd_C l E y bytes maxL ret F Lc (.ref b :: As) w rv w1 X) (M : wd_mok y bytes maxL ret n) (hyc : y.cls = C) (hci : ci < 12) (hc : wd_cl[ci]? = some (C, T, N)) (hinst : Cond.instanceMethod y ∈ TT) (hsel : Cond.selects C y y ∈ TT) (hlk : Cond.methodLink own index y ∈ TT) (hx : p.tables.exec = Jvm.exec) (hb : c.code = cc) (hml : c.maxLocals = nL) (hts : ∀ w ∈ TT, w.before args s = true) (hown : s.vm.findClass own = some m.cls) (hK : wd_KS E s) (hR : F + 1 ≤ R.frames ∧ 8 + (maxL + 11) + Lc ≤ R.locals) (hZ : wd_Z E w0 R s w H locs cells slots ks) (hk : wd_K w b = ci + 1)
    (hn : As.length = n) (hsz : ls.size = nL) (hst0 : st0 = As.reverse ++ .ref b :: rest) (hW : (rest.map fun v => v.category).sum ≤ 8) (hst1 : rv.toList ++ rest = st1) (hdg : decode cc pc = .ok (.invokevirtual index, 3))
    (kk : ∀ (H1 : Heap) (locs1 : List Loc) (cells1 slots1 : Nat), X → wd_Z E w0 R s w1 H1 locs1 cells1 slots1 ks → W p l e R s m args below meth c H1 locs1 cells1 slots1 Q (F0 m (pc + 3) ls st1)) : W p l e R s m args below meth c H locs cells slots Q (F0 m pc ls st0) := by
  have hb3 := hZ.2.2.1
  have cb := callB_of (R := R) (mc := wd_M w) (ms := wd_S w) (rm := { frames := F, cells := wd_M w, slots := wd_S w, locals := Lc }) n hts (wd_goodC M.1) rfl rfl rfl (hts _ M.2.1) (hts _ hlk) M.2.2 hR
  obtain ⟨-, cellB, g1, g2, g3, -⟩ := hZ.1.2.2.1 b ci hk hci
  have hcls := (hK.1.1 ci _ hc).2.1
  exact z_go hZ (va_runV (C := C) (As := As) (rest := rest) ⟨hx, hb, hml, hown, hts⟩ hC ⟨cb, hts _ hinst, hts _ hsel⟩ ⟨wd_blind E _ w, ⟨cellB, g1, by rw [g3]; rfl, by rw [g2]; exact hcls⟩, fun U hU hW => ⟨rfl, by rw [hU]; exact hZ.1, wd_KS.warm hW hK⟩⟩ rfl hn hsz hst0 (lv_room hW) hdg ⟨by omega, by omega⟩) hst1 kk
theorem z_callS {own : String} {index : Nat} {y : MethodName} {bytes : ByteArray} {maxL F Lc n nL : Nat} {ret : Option FieldType} {As : List Value} {rv : Option Value} {w1 : Wd} {X : Prop} {st0 st1 : List Value}
    (hC : wd_C l E y bytes maxL ret F Lc As w rv w1 X) (M : wd_mok y bytes maxL ret n) (hinst : Cond.static y ∈ TT) (hlk : Cond.methodLink own index y ∈ TT) (hx : p.tables.exec = Jvm.exec) (hb : c.code = cc) (hml : c.maxLocals = nL) (hts : ∀ w ∈ TT, w.before args s = true) (hown : s.vm.findClass own = some m.cls) (hK : wd_KS E s) (hR : F + 1 ≤ R.frames ∧ 8 + (maxL + 11) + Lc ≤ R.locals) (hZ : wd_Z E w0 R s w H locs cells slots ks)
    (hn : As.length = n) (hsz : ls.size = nL) (hst0 : st0 = As.reverse ++ rest) (hW : (rest.map fun v => v.category).sum ≤ 8) (hst1 : rv.toList ++ rest = st1) (hdg : decode cc pc = .ok (.invokestatic index, 3))
    (kk : ∀ (H1 : Heap) (locs1 : List Loc) (cells1 slots1 : Nat), X → wd_Z E w0 R s w1 H1 locs1 cells1 slots1 ks → W p l e R s m args below meth c H1 locs1 cells1 slots1 Q (F0 m (pc + 3) ls st1)) : W p l e R s m args below meth c H locs cells slots Q (F0 m pc ls st0) := by
  have hb3 := hZ.2.2.1
  have cb := callB_of (R := R) (mc := wd_M w) (ms := wd_S w) (rm := { frames := F, cells := wd_M w, slots := wd_S w, locals := Lc }) n hts (wd_goodC M.1) rfl rfl rfl (hts _ M.2.1) (hts _ hlk) M.2.2 hR
  exact z_go hZ (va_runS (As := As) (rest := rest) ⟨hx, hb, hml, hown, hts⟩ hC ⟨cb, hts _ hinst⟩ ⟨wd_blind E _ w, fun U hU hW => ⟨rfl, by rw [hU]; exact hZ.1, wd_KS.warm hW hK⟩⟩ rfl hn hsz hst0 (lv_room hW) hdg ⟨by omega, by omega⟩) hst1 kk
theorem z_callI {own : String} {index : Nat} {y : MethodName} {bytes : ByteArray} {maxL F Lc n nL : Nat} {As : List Value} {b : Nat} {w1 : Wd} {X : Prop} {st0 : List Value}
    (hC : wd_C l E y bytes maxL none F Lc (.ref b :: As) w none w1 X) (M : wd_mok y bytes maxL none n) (hyn : y.name = "<init>") (hinst : Cond.instanceMethod y ∈ TT) (hlk : Cond.methodLink own index y ∈ TT) (hx : p.tables.exec = Jvm.exec) (hb : c.code = cc) (hml : c.maxLocals = nL) (hts : ∀ w ∈ TT, w.before args s = true) (hown : s.vm.findClass own = some m.cls) (hK : wd_KS E s) (hR : F + 1 ≤ R.frames ∧ 8 + (maxL + 11) + Lc ≤ R.locals) (hZ : wd_Z E w0 R s w H locs cells slots ks)
    (hn : As.length = n) (hsz : ls.size = nL) (hst0 : st0 = As.reverse ++ .ref b :: rest) (hW : (rest.map fun v => v.category).sum ≤ 8) (hdg : decode cc pc = .ok (.invokespecial index, 3))
    (kk : ∀ (H1 : Heap) (locs1 : List Loc) (cells1 slots1 : Nat), X → wd_Z E w0 R s w1 H1 locs1 cells1 slots1 ks → W p l e R s m args below meth c H1 locs1 cells1 slots1 Q (F0 m (pc + 3) ls rest)) : W p l e R s m args below meth c H locs cells slots Q (F0 m pc ls st0) := by
  have hb3 := hZ.2.2.1
  have cb := callB_of (R := R) (mc := wd_M w) (ms := wd_S w) (rm := { frames := F, cells := wd_M w, slots := wd_S w, locals := Lc }) n hts (wd_goodC M.1) rfl rfl rfl (hts _ M.2.1) (hts _ hlk) M.2.2 hR
  exact z_go hZ (va_runI (As := As) (rest := rest) ⟨hx, hb, hml, hown, hts⟩ hC ⟨cb, hyn, hts _ hinst⟩ ⟨wd_blind E _ w, fun U hU hW => ⟨rfl, by rw [hU]; exact hZ.1, wd_KS.warm hW hK⟩⟩ rfl hn hsz hst0 (lv_room hW) hdg ⟨by omega, by omega⟩) rfl kk
theorem z_callIN {own host : String} {index : Nat} {y : MethodName} {bytes : ByteArray} {maxL F Lc n nL : Nat} {As : List Value} {b : Nat} {w1 : Wd} {X : Prop} {st0 : List Value}
    (hC : wd_C l E y bytes maxL none F Lc (.ref b :: As) w none w1 X) (M : wd_mok y bytes maxL none n) (hyn : y.name = "<init>") (hinst : Cond.instanceMethod y ∈ TT) (hlk : va_Nw (.methodLinkNest own index y host) s) (hx : p.tables.exec = Jvm.exec) (hb : c.code = cc) (hml : c.maxLocals = nL) (hts : ∀ w ∈ TT, w.before args s = true) (hown : s.vm.findClass own = some m.cls) (hK : wd_KS E s) (hR : F + 1 ≤ R.frames ∧ 8 + (maxL + 11) + Lc ≤ R.locals) (hZ : wd_Z E w0 R s w H locs cells slots ks)
    (hn : As.length = n) (hsz : ls.size = nL) (hst0 : st0 = As.reverse ++ .ref b :: rest) (hW : (rest.map fun v => v.category).sum ≤ 8) (hdg : decode cc pc = .ok (.invokespecial index, 3))
    (kk : ∀ (H1 : Heap) (locs1 : List Loc) (cells1 slots1 : Nat), X → wd_Z E w0 R s w1 H1 locs1 cells1 slots1 ks → W p l e R s m args below meth c H1 locs1 cells1 slots1 Q (F0 m (pc + 3) ls rest)) : W p l e R s m args below meth c H locs cells slots Q (F0 m pc ls st0) := by
  have hb3 := hZ.2.2.1
  have cb := va_cnB (R := R) (args := args) (mc := wd_M w) (ms := wd_S w) (rm := { frames := F, cells := wd_M w, slots := wd_S w, locals := Lc }) n hts (wd_goodC M.1) rfl rfl rfl hlk (hts _ M.2.1) M.2.2 hR
  exact z_go hZ (va_runIN (As := As) (rest := rest) ⟨hx, hb, hml, hown, hts⟩ hC ⟨cb, hyn, hts _ hinst⟩ ⟨wd_blind E _ w, fun U hU hW => ⟨rfl, by rw [hU]; exact hZ.1, wd_KS.warm hW hK⟩⟩ rfl hn hsz hst0 (lv_room hW) hdg ⟨by omega, by omega⟩) rfl kk
/-- a walk's goal -/
abbrev wd_fin (E : wd_E) (w0 : Wd) (rv : Option Value) (w' : Wd) (X : Prop) (R : Room) (args : Array Value) (s : State) (below : List Frame) : State → Prop := MQ below (wd_qc E w0 rv w' X) args s R.cells R.slots (fun q => (eG E).size ≤ q)
/-- what a walk knows of its method -/
def wd_X (p : Program) (s : State) (m : MethodId) (args : Array Value) (meth : Method) (c : Code) (cc : ByteArray) (own : String) (maxL : Nat) (ret : Option FieldType) (nm : String) (E : wd_E) : Prop :=
  p.tables.exec = Jvm.exec ∧ c.code = cc ∧ meth.sig.returnType = ret ∧ c.maxLocals = maxL ∧ (∀ w ∈ TT, w.before args s = true) ∧ s.vm.findClass own = some m.cls ∧ meth.locks = false ∧ meth.name = nm ∧ wd_KS E s
theorem z_wide {g : JFrame} {Q : State → Prop} (hZ : wd_Z E w0 R s w H locs cells slots ks) (k : W p l e R s m args below meth c H locs R.cells R.slots Q g) : W p l e R s m args below meth c H locs cells slots Q g := by
  have hb3 := hZ.2.2.1
  exact W.widen (by omega) (by omega) k
theorem z_vret {X : Prop} (hx : p.tables.exec = Jvm.exec) (hb : c.code = cc) (hr : meth.sig.returnType = none) (hlocks : meth.locks = false) (hZ : wd_Z E w0 R s w H locs cells slots ks) (hX : X) (hdg : decode cc pc = .ok (.return_, 1)) : W p l e R s m args below meth c H locs cells slots (wd_fin E w0 none w X R args s below) (F0 m pc ls []) :=
  z_wide hZ (W.vret hx hb hr (fun t ht hW => ⟨rfl, by rw [ht]; exact hZ.1, hZ.2.2.2.1, hX⟩) hZ.2.1 hdg hlocks)
theorem z_iret {X : Prop} {v : Int32} (hx : p.tables.exec = Jvm.exec) (hb : c.code = cc) (hr : meth.sig.returnType = some .int) (hlocks : meth.locks = false) (hZ : wd_Z E w0 R s w H locs cells slots ks) (hX : X) (hdg : decode cc pc = .ok (.ireturn, 1)) : W p l e R s m args below meth c H locs cells slots (wd_fin E w0 (some (.int v)) w X R args s below) (F0 m pc ls [.int v]) :=
  z_wide hZ (W.iret hx hb hr (fun t ht hW => ⟨rfl, by rw [ht]; exact hZ.1, hZ.2.2.2.1, hX⟩) hZ.2.1 hdg hlocks)
theorem z_zret {X : Prop} {v : Int32} (hv : narrow .boolean (.int v) = .int v) (hx : p.tables.exec = Jvm.exec) (hb : c.code = cc) (hr : meth.sig.returnType = some .boolean) (hlocks : meth.locks = false) (hZ : wd_Z E w0 R s w H locs cells slots ks) (hX : X) (hdg : decode cc pc = .ok (.ireturn, 1)) : W p l e R s m args below meth c H locs cells slots (wd_fin E w0 (some (.int v)) w X R args s below) (F0 m pc ls [.int v]) :=
  z_wide hZ (W.zret hx hb hr hv (fun t ht hW => ⟨rfl, by rw [ht]; exact hZ.1, hZ.2.2.2.1, hX⟩) hZ.2.1 hdg hlocks)
theorem z_lret {X : Prop} {v : Int64} (hx : p.tables.exec = Jvm.exec) (hb : c.code = cc) (hr : meth.sig.returnType = some .long) (hlocks : meth.locks = false) (hZ : wd_Z E w0 R s w H locs cells slots ks) (hX : X) (hdg : decode cc pc = .ok (.lreturn, 1)) : W p l e R s m args below meth c H locs cells slots (wd_fin E w0 (some (.long v)) w X R args s below) (F0 m pc ls [.long v]) :=
  z_wide hZ (W.lret hx hb hr (fun t ht hW => ⟨rfl, by rw [ht]; exact hZ.1, hZ.2.2.2.1, hX⟩) hZ.2.1 hdg hlocks)
theorem z_dret {X : Prop} {v : UInt64} (hx : p.tables.exec = Jvm.exec) (hb : c.code = cc) (hr : meth.sig.returnType = some .double) (hlocks : meth.locks = false) (hZ : wd_Z E w0 R s w H locs cells slots ks) (hX : X) (hdg : decode cc pc = .ok (.dreturn, 1)) : W p l e R s m args below meth c H locs cells slots (wd_fin E w0 (some (.double v)) w X R args s below) (F0 m pc ls [.double v]) :=
  z_wide hZ (W.dret hx hb hr (fun t ht hW => ⟨rfl, by rw [ht]; exact hZ.1, hZ.2.2.2.1, hX⟩) hZ.2.1 hdg hlocks)
theorem z_aret {X : Prop} {r : Option Nat} {vv : Value} {n : String} (hvv : va_rf r = vv) (hx : p.tables.exec = Jvm.exec) (hb : c.code = cc) (hr : meth.sig.returnType = some (.object n)) (hlocks : meth.locks = false) (hZ : wd_Z E w0 R s w H locs cells slots ks) (hX : X) (hdg : decode cc pc = .ok (.areturn, 1)) : W p l e R s m args below meth c H locs cells slots (wd_fin E w0 (some (va_rf r)) w X R args s below) (F0 m pc ls [vv]) := by
  subst hvv
  exact z_wide hZ (W.aret hx hb hr (Or.inl ⟨n, rfl⟩) (va_rf_or r) (fun t ht hW => ⟨rfl, by rw [ht]; exact hZ.1, hZ.2.2.2.1, hX⟩) hZ.2.1 hdg hlocks)
end WDQ
theorem wd_ofW {l : Launch} {E : wd_E} {y : MethodName} {cc : ByteArray} {maxL F Lc : Nat} {ret : Option FieldType} {av : List Value} {w w' : Wd} {rv : Option Value} {X : Prop} {ks : List (Option Nat × Nat)} {lv : List (Nat × Value)} {own nm : String} (hy : plainName y.cls = true) (hyo : y.cls = own) (hyn : y.name = nm) (hsz : (lg_sl av).length ≤ maxL) (hlv : lv_args 0 av = lv) (hks : ∀ q ∈ ks, q.2 ≠ 0 ∧ ∀ a, q.1 = some a → wd_K w a = q.2)
    (body : ∀ (p : Program) (e : Env) (s : State) (m : MethodId) (args : Array Value) (below : List Frame) (meth : Method) (c : Code) (R : Room) (H : Heap) (locs : List Loc) (cells slots : Nat) (ls : Array Slot), wd_X p s m args meth c cc own maxL ret nm E → (F ≤ R.frames ∧ Lc ≤ R.locals) → wd_Z E w R s w H locs cells slots ks → lv_has ls maxL lv → W p l e R s m args below meth c H locs cells slots (wd_fin E w rv w' X R args s below) (F0 m 0 ls [])) : wd_C l E y cc maxL ret F Lc av w rv w' X := by
  refine Met.ofW (cc := cc) (maxL := maxL) (ret := ret) hy rfl ?_
  intro p e s m args below meth c s₁ B hml hv
  obtain ⟨rfl, hHd, hKS⟩ := hv
  have hts : ∀ w ∈ TT, w.before av.toArray s = true := fun w hw => atoms_spec (ws := Cond.code y cc maxL ret :: TT) B.pre w (List.mem_cons_of_mem _ hw)
  have hown : s.vm.findClass y.cls = some m.cls := findClass_of_methodNamed B.named
  have hl := lv_entry av (n := maxL) hsz
  rw [lg_entry_eq]
  generalize (lg_sl av ++ List.replicate (maxL - (lg_sl av).length) Slot.unset).toArray = ls at hl ⊢
  rw [hlv] at hl
  subst hyo
  have hfit : s.heap.size + wd_M w = eC E ∧ wd_hs s.heap + wd_S w = eS E := ⟨by rw [hHd.1.1]; exact hHd.1.2.1, hHd.1.2.2.1⟩
  exact body p e s m av.toArray below meth c _ s.heap [] 0 0 ls ⟨B.exec, B.bytes, B.returns, hml, hts, hown, B.notSynchronized, by rw [(name_of_methodNamed B.named B.method).1]; exact hyn, hKS⟩ ⟨Nat.le_refl _, Nat.le_refl _⟩ ⟨hHd, fun q hq => absurd hq List.not_mem_nil, ⟨Nat.zero_add _, Nat.zero_add _⟩, wd_Ex.rf w, hks, hfit⟩ hl
/-! combinators of the methods' meanings -/
def wd_let {α ρ : Type} (v : α) (F : α → Option ρ) : Option ρ := F v
theorem wd_let_e {α ρ : Type} {v : α} {F : α → Option ρ} {o : ρ} (h : wd_let v F = some o) : ∃ x, v = x ∧ F x = some o := ⟨v, rfl, h⟩
def wd_b2 {α ρ : Type} (o : Option (α × Wd)) (F : α → Wd → Option ρ) : Option ρ := match o with
  | none => none
  | some x => F x.1 x.2
theorem wd_b2_e {α ρ : Type} {o : Option (α × Wd)} {F : α → Wd → Option ρ} {r : ρ} (h : wd_b2 o F = some r) : ∃ x w, o = some (x, w) ∧ F x w = some r := by
  cases o with
  | none => cases h
  | some x => exact ⟨x.1, x.2, rfl, h⟩
def wd_gd {ρ : Type} (c : Prop) [Decidable c] (A : Option ρ) : Option ρ := if c then none else A
theorem wd_gd_e {ρ : Type} {c : Prop} [Decidable c] {A : Option ρ} {o : ρ} (h : wd_gd c A = some o) : ¬ c ∧ A = some o := by
  unfold wd_gd at h
  split at h
  · cases h
  · rename_i hc
    exact ⟨hc, h⟩
def wd_on {ρ : Type} (r : Option Nat) (A : Option ρ) (B : Nat → Option ρ) : Option ρ := match r with
  | none => A
  | some a => B a
theorem wd_on_n {ρ : Type} {r : Option Nat} {A : Option ρ} {B : Nat → Option ρ} {o : ρ} (hr : r = none) (h : wd_on r A B = some o) : A = some o := by subst hr; exact h
theorem wd_on_s {ρ : Type} {r : Option Nat} {A : Option ρ} {B : Nat → Option ρ} {o : ρ} {a : Nat} (hr : r = some a) (h : wd_on r A B = some o) : B a = some o := by subst hr; exact h
theorem wd_ite_p {ρ : Type} {c : Prop} [Decidable c] {A B : Option ρ} {o : ρ} (hc : c) (h : (if c then A else B) = some o) : A = some o := by rw [if_pos hc] at h; exact h
theorem wd_ite_n {ρ : Type} {c : Prop} [Decidable c] {A B : Option ρ} {o : ρ} (hc : ¬ c) (h : (if c then A else B) = some o) : B = some o := by rw [if_neg hc] at h; exact h
def wd_lp1 {A ρ : Type} (F : (A → Option ρ) → A → Option ρ) : Nat → A → Option ρ
  | 0, _ => none
  | k + 1, a => F (wd_lp1 F k) a
def wd_lp2 {A B ρ : Type} (F : (A → B → Option ρ) → A → B → Option ρ) : Nat → A → B → Option ρ
  | 0, _, _ => none
  | k + 1, a, b => F (wd_lp2 F k) a b
def wd_lp3 {A B C ρ : Type} (F : (A → B → C → Option ρ) → A → B → C → Option ρ) : Nat → A → B → C → Option ρ
  | 0, _, _, _ => none
  | k + 1, a, b, c => F (wd_lp3 F k) a b c
def wd_lp4 {A B C D ρ : Type} (F : (A → B → C → D → Option ρ) → A → B → C → D → Option ρ) : Nat → A → B → C → D → Option ρ
  | 0, _, _, _, _ => none
  | k + 1, a, b, c, d => F (wd_lp4 F k) a b c d
def wd_lp5 {A B C D E ρ : Type} (F : (A → B → C → D → E → Option ρ) → A → B → C → D → E → Option ρ) : Nat → A → B → C → D → E → Option ρ
  | 0, _, _, _, _, _ => none
  | k + 1, a, b, c, d, e => F (wd_lp5 F k) a b c d e
def wd_lp6 {A B C D E G ρ : Type} (F : (A → B → C → D → E → G → Option ρ) → A → B → C → D → E → G → Option ρ) : Nat → A → B → C → D → E → G → Option ρ
  | 0, _, _, _, _, _, _ => none
  | k + 1, a, b, c, d, e, g => F (wd_lp6 F k) a b c d e g
def wd_lp7 {A B C D E G H ρ : Type} (F : (A → B → C → D → E → G → H → Option ρ) → A → B → C → D → E → G → H → Option ρ) : Nat → A → B → C → D → E → G → H → Option ρ
  | 0, _, _, _, _, _, _, _ => none
  | k + 1, a, b, c, d, e, g, h => F (wd_lp7 F k) a b c d e g h
def wd_lp8 {A B C D E G H J ρ : Type} (F : (A → B → C → D → E → G → H → J → Option ρ) → A → B → C → D → E → G → H → J → Option ρ) : Nat → A → B → C → D → E → G → H → J → Option ρ
  | 0, _, _, _, _, _, _, _, _ => none
  | k + 1, a, b, c, d, e, g, h, j => F (wd_lp8 F k) a b c d e g h j
theorem wd_obO (C : String) (r : Option Nat) : narrow (.object C) (va_rf r) = va_rf r ∧ fits (.object C) (va_rf r) = true := by cases r <;> exact ⟨rfl, rfl⟩
theorem wd_obA (t : FieldType) (r : Option Nat) : narrow (.array t) (va_rf r) = va_rf r ∧ fits (.array t) (va_rf r) = true := by cases r <;> exact ⟨rfl, rfl⟩
theorem wd_zn {v : Int32} (h : ¬ ¬ (v = 0 ∨ v = 1)) : narrow .boolean (.int v) = .int v := by rcases Decidable.not_not.mp h with rfl | rfl <;> rfl
theorem wd_zf {v : Int32} (h : ¬ ¬ (v = 0 ∨ v = 1)) : fits .boolean (.int v) = true := by rcases Decidable.not_not.mp h with rfl | rfl <;> rfl
theorem wd_nan {x : UInt64} (h : ¬ ¬ (x &&& 9223372036854775807 ≤ 9218868437227405312)) : vf_n64 x := by
  have h9 := Decidable.not_not.mp h
  unfold vf_n64
  simpa using h9
theorem wd_ne {x k : Int32} (h : ¬ x = k) : x.toInt ≠ k.toInt := fun q => h (Int32.toInt_inj.mp q)
theorem wd_tb0_3 {x : Int32} (h0 : ¬ x = 0) (h1 : ¬ x = 1) (h2 : ¬ x = 2) (h3 : ¬ x = 3) : x.toInt < 0 ∨ 3 < x.toInt := by
  have a0 : x.toInt ≠ 0 := wd_ne h0
  have a1 : x.toInt ≠ 1 := wd_ne h1
  have a2 : x.toInt ≠ 2 := wd_ne h2
  have a3 : x.toInt ≠ 3 := wd_ne h3
  omega
theorem wd_tb4_6 {x : Int32} (h0 : ¬ x = 4) (h1 : ¬ x = 5) (h2 : ¬ x = 6) : x.toInt < 4 ∨ 6 < x.toInt := by
  have a0 : x.toInt ≠ 4 := wd_ne h0
  have a1 : x.toInt ≠ 5 := wd_ne h1
  have a2 : x.toInt ≠ 6 := wd_ne h2
  omega
theorem wd_tb0_10 {x : Int32} (h0 : ¬ x = 0) (h1 : ¬ x = 1) (h2 : ¬ x = 2) (h3 : ¬ x = 3) (h4 : ¬ x = 4) (h5 : ¬ x = 5) (h6 : ¬ x = 6) (h7 : ¬ x = 7) (h8 : ¬ x = 8) (h9 : ¬ x = 9) (h10 : ¬ x = 10) : x.toInt < 0 ∨ 10 < x.toInt := by
  have a0 : x.toInt ≠ 0 := wd_ne h0
  have a1 : x.toInt ≠ 1 := wd_ne h1
  have a2 : x.toInt ≠ 2 := wd_ne h2
  have a3 : x.toInt ≠ 3 := wd_ne h3
  have a4 : x.toInt ≠ 4 := wd_ne h4
  have a5 : x.toInt ≠ 5 := wd_ne h5
  have a6 : x.toInt ≠ 6 := wd_ne h6
  have a7 : x.toInt ≠ 7 := wd_ne h7
  have a8 : x.toInt ≠ 8 := wd_ne h8
  have a9 : x.toInt ≠ 9 := wd_ne h9
  have a10 : x.toInt ≠ 10 := wd_ne h10
  omega
section WDS
variable {p : Program} {l : Launch} {e : Env} {R : Room} {s : State} {m : MethodId} {args : Array Value} {below : List Frame} {meth : Method} {c : Code} {H : Heap} {locs : List Loc} {cells slots : Nat} {Q : State → Prop}
variable {cc : ByteArray} {pc : Nat} {ls : Array Slot} {rest : List Value} {E : wd_E} {w0 w : Wd} {ks : List (Option Nat × Nat)} {a : Nat}
theorem z_copy {own : String} {index N a0 : Nat} {n : Int32} (hn : ¬ n < 0) (hN : n.toNatClampNeg = N) (hx : p.tables.exec = Jvm.exec) (hb : c.code = cc) (hml : c.maxLocals = ls.size) (hown : s.vm.findClass own = some m.cls) (hlink : (Cond.methodLink own index arraycopyName).before args s = true) (hnat : (Cond.native arraycopyName).before args s = true) (hstat : (Cond.static arraycopyName).before args s = true) (hini : (Cond.initialized "java/lang/System").before args s = true)
    (hK : wd_KS E s) (hZ : wd_Z E w0 R s w H locs cells slots ks) (ha0 : wd_K w a0 = 21) (ha : wd_K w a = 21) (hg : ¬ (wd_N w a0 < N ∨ wd_N w a < N)) (hframes : 1 ≤ R.frames) (hlocals : (rest.map fun v => v.category).sum + (nativeFrameWords "java/lang/System" "arraycopy" 5 + 11) ≤ R.locals) (hdg : decode cc pc = .ok (.invokestatic index, 3))
    (kk : ∀ (H1 : Heap) (locs1 : List Loc), wd_Z E w0 R s (wd_sF w a (va_cpy (wd_A w a0) (wd_A w a) 0 0 N)) H1 locs1 cells slots ks → W p l e R s m args below meth c H1 locs1 cells slots Q (F0 m (pc + 3) ls rest)) : W p l e R s m args below meth c H locs cells slots Q (F0 m pc ls (.int n :: .int 0 :: .ref a :: .int 0 :: .ref a0 :: rest)) := by
  subst hN
  obtain ⟨g1, g2⟩ := hZ.1.2.2.2.1 a0 ha0
  obtain ⟨g3, g4⟩ := hZ.1.2.2.2.1 a ha
  have hP : va_P (eD E) wd_cl [(a0, .inl (eA E 21, wd_N w a0, .inl (wd_A w a0)))] H := by
    intro k q hk
    match k, hk with
    | 0, hk => cases hk; exact g2
    | k + 1, hk => simp at hk
  intro T hT X
  have nn : ∀ z : Int32, ¬ z < 0 → z.toInt = (z.toNatClampNeg : Int) := by
    intro z hz
    have hz0 : (0 : Int) ≤ z.toInt := by
      have := Int32.not_lt.mp hz
      simpa using Int32.le_iff_toInt_le.mp this
    show z.toInt = ((z.toInt.toNat : Nat) : Int)
    omega
  obtain ⟨-, k0, hk0, cm0, hkk0⟩ := (hK.1.2 0 _ rfl).1 (wd_N w a0) (fun j => .int (wd_A w a0 j))
  obtain ⟨-, k1, hk1, cm1, hkk1⟩ := (hK.1.2 0 _ rfl).1 (wd_N w a) (fun j => .int (wd_A w a j))
  have z0 : (0 : Int32).toNatClampNeg = 0 := by decide
  have zi : (0 : Int32).toInt = 0 := by decide
  obtain ⟨vm', X', step⟩ := X.arraycopy hx hown hlink hnat hstat hini (src := a0) (dst := a) (cs := arrV (eA E 21) (wd_N w a0) (fun j => .int (wd_A w a0 j))) (cd := arrV (eA E 21) (wd_N w a) (fun j => .int (wd_A w a j))) (srcPos := 0) (destPos := 0) (n := n) (by rw [hT]; exact g2) (by rw [hT]; exact g4)
    (fun _ h => by cases h) (fun _ h => by cases h) (fun h => by cases h) (fun h => by cases h) hk0 hk1 hkk0 hkk1 (by simp [refKind]) (by decide) (by decide) hn
    (by rw [nn n hn, zi, arrV_size]; omega)
    (by rw [nn n hn, zi, arrV_size]; omega)
    (fun vm₁ _ i hi => by
      have e : (arrV (eA E 21) (wd_N w a0) (fun j => .int (wd_A w a0 j))).slots.getD ((0 : Int32).toNatClampNeg + i) .null = .int (wd_A w a0 i) := by
        rw [z0, Array.getD_eq_getD_getElem?, Nat.zero_add, arrV_read _ _ (by omega)]
        rfl
      refine ⟨?_, ?_⟩
      · rw [e]
        rfl
      · rw [e]
        exact trivial)
    (g := F0 m pc ls (.int n :: .int 0 :: .ref a :: .int 0 :: .ref a0 :: rest)) rfl (by rw [hml]) (rest := rest) rfl (by rw [hb]; exact hdg) hframes (by show 2 * 0 + _ + _ ≤ _; omega)
  have e1 : copied (arrV (eA E 21) (wd_N w a0) (fun j => .int (wd_A w a0 j))) (arrV (eA E 21) (wd_N w a) (fun j => .int (wd_A w a j))) 0 0 n = arrV (eA E 21) (wd_N w a) (fun j => .int (va_cpy (wd_A w a0) (wd_A w a) 0 0 n.toNatClampNeg j)) := by
    have h9 := va_copied (fun z => .int z) (eA E 21) (eA E 21) (n0 := wd_N w a0) (n1 := wd_N w a) (sp := 0) (dp := 0) (n := n.toNatClampNeg) (wd_A w a0) (wd_A w a) (by omega)
    exact h9
  rw [e1] at X' step
  have hl : a < H.size := (Array.getElem?_eq_some_iff.mp g4).1
  generalize hcl : arrV (eA E 21) (wd_N w a) (fun j => .int (va_cpy (wd_A w a0) (wd_A w a) 0 0 n.toNatClampNeg j)) = cl9 at X' step
  have hheap : ((T.setVm vm').setCell a cl9).heap = H.setIfInBounds a cl9 := by rw [← hT]; rfl
  have oq : ∀ q : Nat, q ≠ a → (H.setIfInBounds a cl9)[q]? = H[q]? := fun q hq => by simp [Array.getElem?_setIfInBounds, Ne.symm hq]
  have e9 : (H.setIfInBounds a cl9)[a]? = some cl9 := by simp [Array.getElem?_setIfInBounds, hl]
  have hs9 : wd_hs (H.setIfInBounds a cl9) = wd_hs H := by
    refine wd_hs_same (by simp) fun q c hq => ?_
    by_cases h : q = a
    · subst h
      rw [g4] at hq
      cases hq
      refine ⟨cl9, e9, ?_⟩
      rw [← hcl, arrV_size, arrV_size]
    · exact ⟨c, by rw [oq q h]; exact hq, rfl⟩
  have hd := hZ.1.putF (f := va_cpy (wd_A w a0) (wd_A w a) 0 0 n.toNatClampNeg) ha (by rw [e9, ← hcl]) (by simp) oq hs9
  obtain ⟨-, h2, h3, h4, h5, h6⟩ := hZ
  obtain ⟨t, a1, b1⟩ := kk _ _ ⟨hd, (fun q hq => by
    rcases List.mem_append.mp hq with h | h
    · exact h2 q h
    · obtain ⟨z, -, hz⟩ := List.mem_map.mp h
      rw [← hz]
      exact g3), h3, h4, h5, h6⟩ _ hheap X'
  exact ⟨t, step t a1, b1⟩
end WDS
