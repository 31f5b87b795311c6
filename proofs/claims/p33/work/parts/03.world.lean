/-! ===== THE WORLD: a heap read as typed fields and elements; every method's contract speaks of it ===== -/
/-- kinds; int fields by (field code, address); reference fields; int elements; reference elements; lengths; next address; cells left; slots left -/
abbrev Wd : Type := (Nat → Nat) × (Nat → Nat → Int32) × (Nat → Nat → Option Nat) × (Nat → Nat → Int32) × (Nat → Nat → Option Nat) × (Nat → Nat) × Nat × Nat × Nat
def wd_K (w : Wd) : Nat → Nat := w.1
def wd_I (w : Wd) : Nat → Nat → Int32 := w.2.1
def wd_R (w : Wd) : Nat → Nat → Option Nat := w.2.2.1
def wd_A (w : Wd) : Nat → Nat → Int32 := w.2.2.2.1
def wd_Q (w : Wd) : Nat → Nat → Option Nat := w.2.2.2.2.1
def wd_N (w : Wd) : Nat → Nat := w.2.2.2.2.2.1
def wd_H (w : Wd) : Nat := w.2.2.2.2.2.2.1
def wd_M (w : Wd) : Nat := w.2.2.2.2.2.2.2.1
def wd_S (w : Wd) : Nat := w.2.2.2.2.2.2.2.2
def wd_up {α : Type} (f : Nat → Nat → α) (g a : Nat) (v : α) : Nat → Nat → α := fun h b => if h = g ∧ b = a then v else f h b
def wd_sI (w : Wd) (g a : Nat) (v : Int32) : Wd := (w.1, wd_up w.2.1 g a v, w.2.2)
def wd_sR (w : Wd) (g a : Nat) (v : Option Nat) : Wd := (w.1, w.2.1, wd_up w.2.2.1 g a v, w.2.2.2)
def wd_sA (w : Wd) (a i : Nat) (v : Int32) : Wd := (w.1, w.2.1, w.2.2.1, wd_up w.2.2.2.1 a i v, w.2.2.2.2)
def wd_sQ (w : Wd) (a i : Nat) (v : Option Nat) : Wd := (w.1, w.2.1, w.2.2.1, w.2.2.2.1, wd_up w.2.2.2.2.1 a i v, w.2.2.2.2.2)
/-- a whole int array -/
def wd_sF (w : Wd) (a : Nat) (f : Nat → Int32) : Wd := (w.1, w.2.1, w.2.2.1, fun b i => if b = a then f i else w.2.2.2.1 b i, w.2.2.2.2)
/-- a new cell: of kind k, length n, sz slots -/
def wd_nw (w : Wd) (k n sz : Nat) : Wd :=
  (fun b => if b = wd_H w then k else w.1 b, fun g b => if b = wd_H w then 0 else w.2.1 g b, fun g b => if b = wd_H w then none else w.2.2.1 g b,
   fun b i => if b = wd_H w then 0 else w.2.2.2.1 b i, fun b i => if b = wd_H w then none else w.2.2.2.2.1 b i, fun b => if b = wd_H w then n else w.2.2.2.2.2.1 b, wd_H w + 1, wd_M w - 1, wd_S w - sz)
/-- the kind of what a reference field holds (0: an int field); codes are 100 * class + place -/
def wd_t : Nat → Nat
  | 5 => 5 | 6 => 1
  | 102 => 5
  | 200 => 4 | 205 => 21 | 206 => 5 | 207 => 5 | 208 => 25 | 209 => 21
  | 302 => 22 | 304 => 21 | 305 => 21 | 306 => 21 | 308 => 21 | 310 => 21 | 311 => 21 | 312 => 21
  | 410 => 5 | 412 => 8 | 413 => 5 | 414 => 5
  | 500 => 21 | 502 => 23 | 504 => 22
  | 600 => 5 | 601 => 5
  | 800 => 1 | 802 => 1 | 803 => 1
  | 900 => 9 | 904 => 6 | 905 => 7 | 906 => 24 | 907 => 21
  | 1004 => 10
  | 1100 => 6 | 1101 => 10 | 1102 => 11
  | _ => 0
/-- the kind of an element of a reference array -/
def wd_e : Nat → Nat
  | 22 => 8 | 23 => 4 | 24 => 3 | 25 => 2 | 26 => 21
  | _ => 0
def wd_nF : Nat → Nat
  | 0 => 7 | 1 => 3 | 2 => 10 | 3 => 13 | 4 => 15 | 5 => 5 | 6 => 2 | 7 => 4 | 8 => 4 | 9 => 8 | 10 => 7 | 11 => 3
  | _ => 0
abbrev wd_cl : List vw_C := [(RX0, TX0, 7), (RX1, TX1, 3), (RX2, TX2, 10), (RX3, TX3, 13), (RX4, TX4, 15), (RX5, TX5, 5), (RX6, TX6, 2), (RX7, TX7, 4), (RX8, TX8, 4), (RX9, TX9, 8), (RX10, TX10, 7), (RX11, TX11, 3)]
/-- what is fixed over a whole run: the heap at its start; cells and slots in all; the tables' numbers; the array classes; the script -/
abbrev wd_E : Type := Heap × Nat × Nat × va_G × (Nat → ClassId) × Nat × Nat × (Nat → Int32)
abbrev eG (E : wd_E) : Heap := E.1
abbrev eC (E : wd_E) : Nat := E.2.1
abbrev eS (E : wd_E) : Nat := E.2.2.1
abbrev eD (E : wd_E) : va_G := E.2.2.2.1
abbrev eA (E : wd_E) : Nat → ClassId := E.2.2.2.2.1
abbrev eB (E : wd_E) : Nat := E.2.2.2.2.2.1
abbrev eL (E : wd_E) : Nat := E.2.2.2.2.2.2.1
abbrev eX (E : wd_E) : Nat → Int32 := E.2.2.2.2.2.2.2
abbrev wd_ty (E : wd_E) : List (ClassId × FieldType) := [(eA E 21, .int), (eA E 22, .object RX7), (eA E 23, .object RX3), (eA E 24, .object RX2), (eA E 25, .object RX1), (eA E 26, .array .int)]
def wd_nest (s : State) : Prop := va_Nw (.methodLinkNest RX2 34 yX1_init RX11) s ∧ va_Nw (.methodLinkNest RX6 21 yX4_init RX11) s ∧ va_Nw (.methodLinkNest RX8 15 yX0_init RX11) s ∧ va_Nw (.methodLinkNest RX9 11 yX8_init RX11) s ∧ va_Nw (.methodLinkNest RX9 20 yX6_init RX11) s ∧ va_Nw (.fieldLinkNest RX9 39 "SeamarkNet$Plan" "machines" "[LSeamarkNet$Machine;" RX11) s
abbrev nIS : String := "java/lang/IllegalStateException"
abbrev nIA : String := "java/lang/IllegalArgumentException"
abbrev nIO : String := "java/lang/IndexOutOfBoundsException"
/-- what a throw of this class's asks of the tables and of the heap below the run's -/
abbrev wd_ini (C : String) : MethodName := ⟨C, "<init>", "(Ljava/lang/String;)V"⟩
def wd_xs (E : wd_E) (s : State) : Prop := (va_Nw (.castable nIS nIS) s ∧ va_Nw (.declares (wd_ini "java/lang/RuntimeException")) s ∧ va_Nw (.declares (wd_ini "java/lang/Exception")) s ∧ va_Nw (.declares (wd_ini "java/lang/Throwable")) s) ∧ va_Nc nIS nIO s ∧ va_Nc nIS nIA s ∧ (∃ a, vk_R RX11 58 "there are 8 machines" a s) ∧ (∃ a, vk_R RX11 80 "the machine has 4 ports, or a port has this address" a s) ∧ (∃ a, vk_R RX11 93 "the machine has 2 tunnels" a s) ∧ (∃ a, vk_R RX11 108 "the machine has 6 routes" a s) ∧ vx_Zq Bundle.tN "UNASSIGNED_STACK" Bundle.steD (fun q => (eG E).size ≤ q) s (eG E) ∧ vx_Zq Bundle.tN "SUPPRESSED_SENTINEL" Bundle.listD (fun q => (eG E).size ≤ q) s (eG E)
theorem wd_xs.warm {E : wd_E} {s U : State} (hW : s.WarmedH U.vm) (h : wd_xs E s) : wd_xs E U := by
  obtain ⟨h1, h2, h3, ⟨a4, h4⟩, ⟨a5, h5⟩, ⟨a6, h6⟩, ⟨a7, h7⟩, h8, h9⟩ := h
  exact ⟨⟨va_Nw.warmC hW h1.1, va_Nw.warmD hW h1.2.1, va_Nw.warmD hW h1.2.2.1, va_Nw.warmD hW h1.2.2.2⟩, va_Nc.moved hW.alike h2, va_Nc.moved hW.alike h3, ⟨a4, vk_R.warm hW h4⟩, ⟨a5, vk_R.warm hW h5⟩, ⟨a6, vk_R.warm hW h6⟩, ⟨a7, vk_R.warm hW h7⟩, h8.moved hW.alike, h9.moved hW.alike⟩
theorem wd_xs.same {E : wd_E} {s U : State} (hv : s.vm = U.vm) (h : wd_xs E s) : wd_xs E U := by
  have ha : s.vm.Alike U.vm := by rw [← hv]; exact Vm.Alike.refl _
  obtain ⟨h1, h2, h3, ⟨a4, h4⟩, ⟨a5, h5⟩, ⟨a6, h6⟩, ⟨a7, h7⟩, h8, h9⟩ := h
  exact ⟨⟨va_Nw.same rfl hv h1.1, va_Nw.same rfl hv h1.2.1, va_Nw.same rfl hv h1.2.2.1, va_Nw.same rfl hv h1.2.2.2⟩, va_Nc.moved ha h2, va_Nc.moved ha h3, ⟨a4, vk_R.same hv.symm h4⟩, ⟨a5, vk_R.same hv.symm h5⟩, ⟨a6, vk_R.same hv.symm h6⟩, ⟨a7, vk_R.same hv.symm h7⟩, h8.moved ha, h9.moved ha⟩
def wd_KS (E : wd_E) (s : State) : Prop := va_K (eD E) wd_cl (wd_ty E) s ∧ va_X (eB E) (eL E) (eX E) s (eG E) ∧ (va_AO RX7 s ∧ va_AO RX3 s ∧ va_AO RX2 s ∧ va_AO RX1 s) ∧ wd_nest s ∧ wd_xs E s
theorem wd_KS.warm {E : wd_E} {s U : State} (hW : s.WarmedH U.vm) (h : wd_KS E s) : wd_KS E U :=
  ⟨va_K.moved hW.alike h.1, va_X.moved hW.alike h.2.1, ⟨h.2.2.1.1.moved hW.alike, h.2.2.1.2.1.moved hW.alike, h.2.2.1.2.2.1.moved hW.alike, h.2.2.1.2.2.2.moved hW.alike⟩,
   ⟨va_Nw.warmM hW h.2.2.2.1.1, va_Nw.warmM hW h.2.2.2.1.2.1, va_Nw.warmM hW h.2.2.2.1.2.2.1, va_Nw.warmM hW h.2.2.2.1.2.2.2.1, va_Nw.warmM hW h.2.2.2.1.2.2.2.2.1, va_Nw.warmF hW h.2.2.2.1.2.2.2.2.2⟩, h.2.2.2.2.warm hW⟩
theorem wd_KS.same {E : wd_E} {s U : State} (hv : s.vm = U.vm) (h : wd_KS E s) : wd_KS E U := by
  have ha : s.vm.Alike U.vm := by rw [← hv]; exact Vm.Alike.refl _
  exact ⟨va_K.moved ha h.1, va_X.moved ha h.2.1, ⟨h.2.2.1.1.moved ha, h.2.2.1.2.1.moved ha, h.2.2.1.2.2.1.moved ha, h.2.2.1.2.2.2.moved ha⟩,
   ⟨va_Nw.same rfl hv h.2.2.2.1.1, va_Nw.same rfl hv h.2.2.2.1.2.1, va_Nw.same rfl hv h.2.2.2.1.2.2.1, va_Nw.same rfl hv h.2.2.2.1.2.2.2.1, va_Nw.same rfl hv h.2.2.2.1.2.2.2.2.1, va_Nw.same rfl hv h.2.2.2.1.2.2.2.2.2⟩, h.2.2.2.2.same hv⟩
def wd_v (w : Wd) (g a : Nat) : Value := if wd_t g = 0 then .int (wd_I w g a) else va_rf (wd_R w g a)
/-- slots of a heap, in all -/
def wd_hs (H : Heap) : Nat := (H.toList.map (fun c : Cell => c.slots.size)).sum
/-- the heap is the world -/
def wd_Hd (E : wd_E) (w : Wd) (H : Heap) : Prop :=
  (H.size = wd_H w ∧ wd_H w + wd_M w = eC E ∧ wd_hs H + wd_S w = eS E ∧ (eG E).size ≤ wd_H w ∧ ∀ q, q < (eG E).size → H[q]? = (eG E)[q]?) ∧
  (∀ a, wd_H w ≤ a → wd_K w a = 0) ∧
  (∀ a k, wd_K w a = k + 1 → k < 12 → (eG E).size ≤ a ∧ t_OB a ((eD E).1 k) (wd_nF k) ((eD E).2 k) H (fun j => wd_v w (100 * k + j) a)) ∧
  (∀ a, wd_K w a = 21 → (eG E).size ≤ a ∧ H[a]? = some (arrV (eA E 21) (wd_N w a) (fun j => .int (wd_A w a j)))) ∧
  (∀ a k, wd_K w a = k → 22 ≤ k → k ≤ 26 → (eG E).size ≤ a ∧ H[a]? = some (arrV (eA E k) (wd_N w a) (fun j => va_rf (wd_Q w a j)))) ∧
  (∀ a, wd_K w a = 20 → a = eB E ∧ a < (eG E).size ∧ wd_N w a = eL E ∧ ∀ j, j < eL E → wd_A w a j = eX E j) ∧
  (∀ a k j q, wd_K w a = k + 1 → k < 12 → j < wd_nF k → wd_t (100 * k + j) ≠ 0 → wd_R w (100 * k + j) a = some q → wd_K w q = wd_t (100 * k + j)) ∧
  (∀ a j q, 22 ≤ wd_K w a → wd_K w a ≤ 26 → wd_Q w a j = some q → wd_K w q = wd_e (wd_K w a))
/-- a later world -/
def wd_Ex (w w' : Wd) : Prop := (∀ a, wd_K w a ≠ 0 → wd_K w' a = wd_K w a) ∧ wd_H w ≤ wd_H w'
theorem wd_Ex.rf (w : Wd) : wd_Ex w w := ⟨fun _ _ => rfl, Nat.le_refl _⟩
theorem wd_Ex.tr {a b c : Wd} (h1 : wd_Ex a b) (h2 : wd_Ex b c) : wd_Ex a c := ⟨fun q h => by rw [h2.1 q (by rw [h1.1 q h]; exact h), h1.1 q h], Nat.le_trans h1.2 h2.2⟩
theorem wd_hs_push (H : Heap) (c : Cell) : wd_hs (H.push c) = wd_hs H + c.slots.size := by
  simp [wd_hs]
theorem wd_hs_same {H H1 : Heap} (hz : H1.size = H.size) (h : ∀ (q : Nat) (c : Cell), H[q]? = some c → ∃ c1, H1[q]? = some c1 ∧ c1.slots.size = c.slots.size) : wd_hs H1 = wd_hs H := by
  unfold wd_hs
  congr 1
  apply List.ext_getElem?
  intro i
  rw [List.getElem?_map, List.getElem?_map, Array.getElem?_toList, Array.getElem?_toList]
  by_cases hi : i < H.size
  · obtain ⟨c, hc⟩ : ∃ c, H[i]? = some c := ⟨H[i], Array.getElem?_eq_getElem hi⟩
    obtain ⟨c1, h1, h2⟩ := h i c hc
    rw [h1, hc]
    simp [h2]
  · rw [Array.getElem?_eq_none (by omega), Array.getElem?_eq_none (by omega)]
theorem wd_setSlot_size (c : Cell) (i : Nat) (v : Value) : (c.setSlot i v).slots.size = c.slots.size := by
  simp [Cell.setSlot]
theorem wd_hs_put {H H1 : Heap} {a i : Nat} {v : Value} {cell : Cell} (hc : H[a]? = some cell) (h1 : H1[a]? = some (cell.setSlot i v)) (hz : H1.size = H.size) (ho : ∀ q, q ≠ a → H1[q]? = H[q]?) : wd_hs H1 = wd_hs H := by
  refine wd_hs_same hz fun q c hq => ?_
  by_cases h : q = a
  · subst h
    rw [hc] at hq
    cases hq
    exact ⟨_, h1, wd_setSlot_size _ _ _⟩
  · exact ⟨c, by rw [ho q h]; exact hq, rfl⟩
theorem wd_old {s t : State} {locs : List Loc} {cells slots : Nat} (h : s.sameButNew t locs cells slots) : wd_hs t.heap = wd_hs s.heap + ((t.heap.toList.drop s.heap.size).map (fun c : Cell => c.slots.size)).sum := by
  have e : (t.heap.toList.take s.heap.size).map (fun c : Cell => c.slots.size) = s.heap.toList.map (fun c : Cell => c.slots.size) := by
    apply List.ext_getElem?
    intro i
    rw [List.getElem?_map, List.getElem?_map, List.getElem?_take]
    by_cases hi : i < s.heap.size
    · rw [if_pos hi]
      obtain ⟨c, hc⟩ : ∃ c, s.heap[i]? = some c := ⟨s.heap[i], Array.getElem?_eq_getElem hi⟩
      obtain ⟨c', h1, -, h3, -⟩ := h.2.2.2.2.2 i c hc
      rw [Array.getElem?_toList, Array.getElem?_toList, h1, hc]
      simp [h3]
    · rw [if_neg hi, Array.getElem?_toList, Array.getElem?_eq_none (by omega)]
  unfold wd_hs
  rw [← e, ← List.sum_append, ← List.map_append, List.take_append_drop]
section WDT
variable {p : Program} {l : Launch} {e : Env} {R : Room} {s : State} {m : MethodId} {args : Array Value} {below : List Frame} {meth : Method} {c : Code} {T : State} {locs : List Loc} {cells slots : Nat}
theorem wd_tight (X : Stand p l e R s m args below meth c T locs cells slots) {c1 n1 : Nat} (h1 : T.heap.size ≤ s.heap.size + c1) (h2 : wd_hs T.heap ≤ wd_hs s.heap + n1) : Stand p l e R s m args below meth c T locs c1 n1 := by
  have ho := wd_old X.same
  have e : (T.setVm s.vm).heap = T.heap := rfl
  rw [e] at ho
  exact { X with same := ⟨X.same.1, X.same.2.1, h1, X.same.2.2.2.1, by rw [e]; omega, X.same.2.2.2.2.2⟩ }
theorem wd_grown (X : Stand p l e R s m args below meth c T locs cells slots) : s.heap.size ≤ T.heap.size ∧ wd_hs s.heap ≤ wd_hs T.heap := by
  have ho := wd_old X.same
  have e : (T.setVm s.vm).heap = T.heap := rfl
  rw [e] at ho
  exact ⟨X.same.2.1, by omega⟩
end WDT
theorem wd_hasV {w : Wd} {g a : Nat} (ht : wd_t g = 0) : wd_v w g a = .int (wd_I w g a) := if_pos ht
theorem wd_hasR {w : Wd} {g a : Nat} (ht : wd_t g ≠ 0) : wd_v w g a = va_rf (wd_R w g a) := if_neg ht
theorem wd_kind_lt {E : wd_E} {w : Wd} {H : Heap} (h : wd_Hd E w H) {a : Nat} (ha : wd_K w a ≠ 0) : a < wd_H w := by
  rcases Nat.lt_or_ge a (wd_H w) with q | q
  · exact q
  · exact absurd (h.2.1 a q) ha
theorem wd_Hd.putI {E : wd_E} {w : Wd} {H H1 : Heap} (h : wd_Hd E w H) {a ci k : Nat} {v : Int32} (ha : wd_K w a = ci + 1) (hci : ci < 12) (hk : k < wd_nF ci) (hn : wd_nF ci ≤ 15) (ht : wd_t (100 * ci + k) = 0)
    (e1 : t_OB a ((eD E).1 ci) (wd_nF ci) ((eD E).2 ci) H1 (updV (fun j => wd_v w (100 * ci + j) a) k (.int v))) (e2 : H1.size = H.size) (e3 : ∀ q, q ≠ a → H1[q]? = H[q]?) (e4 : wd_hs H1 = wd_hs H) : wd_Hd E (wd_sI w (100 * ci + k) a v) H1 := by
  obtain ⟨⟨a1, a2, a3, a4, a5⟩, b1, b2, b3, b4, b5, b6, b7⟩ := h
  have hga := (b2 a ci ha hci).1
  refine ⟨⟨e2.trans a1, a2, by rw [e4]; exact a3, a4, fun q hq => by rw [e3 q (by omega)]; exact a5 q hq⟩, b1, ?_, ?_, ?_, b5, b6, b7⟩
  · intro b k' hb hk'
    obtain ⟨g1, g2⟩ := b2 b k' hb hk'
    refine ⟨g1, ?_⟩
    by_cases hba : b = a
    · subst hba
      have : k' = ci := by have h1 : k' + 1 = ci + 1 := hb.symm.trans ha; omega
      subst this
      refine e1.to fun j hj => ?_
      by_cases hjk : j = k
      · subst hjk
        simp [updV, wd_v, ht, wd_sI, wd_I, wd_up]
      · have hne : ¬ (100 * k' + j = 100 * k' + k) := by omega
        simp only [updV, if_neg hjk, wd_v]
        split
        · simp [wd_sI, wd_I, wd_up, hjk]
        · rfl
    · refine (g2.kept (e3 b hba)).to fun j _ => ?_
      simp only [wd_v]
      split
      · simp [wd_sI, wd_I, wd_up, hba]
      · rfl
  · intro b hb
    have hba : b ≠ a := fun q => by subst q; have h1 : (21 : Nat) = ci + 1 := hb.symm.trans ha; omega
    obtain ⟨g1, g2⟩ := b3 b hb
    exact ⟨g1, by rw [e3 b hba]; exact g2⟩
  · intro b k' hb hk1 hk2
    have hba : b ≠ a := fun q => by subst q; have h1 : k' = ci + 1 := hb.symm.trans ha; omega
    obtain ⟨g1, g2⟩ := b4 b k' hb hk1 hk2
    exact ⟨g1, by rw [e3 b hba]; exact g2⟩
theorem wd_Hd.putR {E : wd_E} {w : Wd} {H H1 : Heap} (h : wd_Hd E w H) {a ci k : Nat} {r : Option Nat} (ha : wd_K w a = ci + 1) (hci : ci < 12) (hk : k < wd_nF ci) (hn : wd_nF ci ≤ 15) (ht : wd_t (100 * ci + k) ≠ 0) (hr : ∀ q, r = some q → wd_K w q = wd_t (100 * ci + k))
    (e1 : t_OB a ((eD E).1 ci) (wd_nF ci) ((eD E).2 ci) H1 (updV (fun j => wd_v w (100 * ci + j) a) k (va_rf r))) (e2 : H1.size = H.size) (e3 : ∀ q, q ≠ a → H1[q]? = H[q]?) (e4 : wd_hs H1 = wd_hs H) : wd_Hd E (wd_sR w (100 * ci + k) a r) H1 := by
  obtain ⟨⟨a1, a2, a3, a4, a5⟩, b1, b2, b3, b4, b5, b6, b7⟩ := h
  have hga := (b2 a ci ha hci).1
  refine ⟨⟨e2.trans a1, a2, by rw [e4]; exact a3, a4, fun q hq => by rw [e3 q (by omega)]; exact a5 q hq⟩, b1, ?_, ?_, ?_, b5, ?_, b7⟩
  · intro b k' hb hk'
    obtain ⟨g1, g2⟩ := b2 b k' hb hk'
    refine ⟨g1, ?_⟩
    by_cases hba : b = a
    · subst hba
      have : k' = ci := by have h1 : k' + 1 = ci + 1 := hb.symm.trans ha; omega
      subst this
      refine e1.to fun j hj => ?_
      by_cases hjk : j = k
      · subst hjk
        simp [updV, wd_v, ht, wd_sR, wd_R, wd_up]
      · simp only [updV, if_neg hjk, wd_v]
        split
        · rfl
        · simp [wd_sR, wd_R, wd_up, hjk]
    · refine (g2.kept (e3 b hba)).to fun j _ => ?_
      simp only [wd_v]
      split
      · rfl
      · simp [wd_sR, wd_R, wd_up, hba]
  · intro b hb
    have hba : b ≠ a := fun q => by subst q; have h1 : (21 : Nat) = ci + 1 := hb.symm.trans ha; omega
    obtain ⟨g1, g2⟩ := b3 b hb
    exact ⟨g1, by rw [e3 b hba]; exact g2⟩
  · intro b k' hb hk1 hk2
    have hba : b ≠ a := fun q => by subst q; have h1 : k' = ci + 1 := hb.symm.trans ha; omega
    obtain ⟨g1, g2⟩ := b4 b k' hb hk1 hk2
    exact ⟨g1, by rw [e3 b hba]; exact g2⟩
  · intro b k' j q hb hk' hj htj hq
    show wd_K w q = _
    have hq' : wd_up (wd_R w) (100 * ci + k) a r (100 * k' + j) b = some q := hq
    unfold wd_up at hq'
    split at hq'
    · rename_i hh
      rw [hh.1]
      exact hr q hq'
    · exact b6 b k' j q hb hk' hj htj hq'
theorem wd_Hd.putA {E : wd_E} {w : Wd} {H H1 : Heap} (h : wd_Hd E w H) {a i : Nat} {v : Int32} (ha : wd_K w a = 21)
    (e1 : H1[a]? = some (arrV (eA E 21) (wd_N w a) (updV (fun j => .int (wd_A w a j)) i (.int v)))) (e2 : H1.size = H.size) (e3 : ∀ q, q ≠ a → H1[q]? = H[q]?) (e4 : wd_hs H1 = wd_hs H) : wd_Hd E (wd_sA w a i v) H1 := by
  obtain ⟨⟨a1, a2, a3, a4, a5⟩, b1, b2, b3, b4, b5, b6, b7⟩ := h
  have hga := (b3 a ha).1
  refine ⟨⟨e2.trans a1, a2, by rw [e4]; exact a3, a4, fun q hq => by rw [e3 q (by omega)]; exact a5 q hq⟩, b1, ?_, ?_, ?_, ?_, b6, b7⟩
  · intro b k' hb hk'
    obtain ⟨g1, g2⟩ := b2 b k' hb hk'
    have hba : b ≠ a := fun q => by subst q; have h1 : k' + 1 = 21 := hb.symm.trans ha; omega
    exact ⟨g1, g2.kept (e3 b hba)⟩
  · intro b hb
    obtain ⟨g1, g2⟩ := b3 b hb
    refine ⟨g1, ?_⟩
    by_cases hba : b = a
    · subst hba
      rw [e1]
      show some (arrV (eA E 21) (wd_N w b) _) = some (arrV (eA E 21) (wd_N w b) _)
      congr 2
      funext j
      by_cases hj : j = i
      · subst hj
        simp [updV, wd_sA, wd_A, wd_up]
      · simp [updV, wd_sA, wd_A, wd_up, hj]
    · rw [e3 b hba, g2]
      show some (arrV (eA E 21) (wd_N w b) _) = some (arrV (eA E 21) (wd_N w b) _)
      congr 2
      funext j
      simp [wd_sA, wd_A, wd_up, hba]
  · intro b k' hb hk1 hk2
    have hba : b ≠ a := fun q => by subst q; have h1 : k' = 21 := hb.symm.trans ha; omega
    obtain ⟨g1, g2⟩ := b4 b k' hb hk1 hk2
    exact ⟨g1, by rw [e3 b hba]; exact g2⟩
  · intro b hb
    have hba : b ≠ a := fun q => by subst q; have h1 : (20 : Nat) = 21 := hb.symm.trans ha; omega
    obtain ⟨g1, g2, g3, g4⟩ := b5 b hb
    refine ⟨g1, g2, g3, fun j hj => ?_⟩
    rw [← g4 j hj]
    simp [wd_sA, wd_A, wd_up, hba]
/-- a whole int array written anew -/
theorem wd_Hd.putF {E : wd_E} {w : Wd} {H H1 : Heap} (h : wd_Hd E w H) {a : Nat} {f : Nat → Int32} (ha : wd_K w a = 21)
    (e1 : H1[a]? = some (arrV (eA E 21) (wd_N w a) (fun j => .int (f j)))) (e2 : H1.size = H.size) (e3 : ∀ q, q ≠ a → H1[q]? = H[q]?) (e4 : wd_hs H1 = wd_hs H) : wd_Hd E (wd_sF w a f) H1 := by
  obtain ⟨⟨a1, a2, a3, a4, a5⟩, b1, b2, b3, b4, b5, b6, b7⟩ := h
  have hga := (b3 a ha).1
  refine ⟨⟨e2.trans a1, a2, by rw [e4]; exact a3, a4, fun q hq => by rw [e3 q (by omega)]; exact a5 q hq⟩, b1, ?_, ?_, ?_, ?_, b6, b7⟩
  · intro b k' hb hk'
    obtain ⟨g1, g2⟩ := b2 b k' hb hk'
    have hba : b ≠ a := fun q => by subst q; have h1 : k' + 1 = 21 := hb.symm.trans ha; omega
    exact ⟨g1, g2.kept (e3 b hba)⟩
  · intro b hb
    obtain ⟨g1, g2⟩ := b3 b hb
    refine ⟨g1, ?_⟩
    by_cases hba : b = a
    · subst hba
      rw [e1]
      show some (arrV (eA E 21) (wd_N w b) _) = some (arrV (eA E 21) (wd_N w b) _)
      congr 2
      funext j
      simp [wd_sF, wd_A]
    · rw [e3 b hba, g2]
      show some (arrV (eA E 21) (wd_N w b) _) = some (arrV (eA E 21) (wd_N w b) _)
      congr 2
      funext j
      simp [wd_sF, wd_A, hba]
  · intro b k' hb hk1 hk2
    have hba : b ≠ a := fun q => by subst q; have h1 : k' = 21 := hb.symm.trans ha; omega
    obtain ⟨g1, g2⟩ := b4 b k' hb hk1 hk2
    exact ⟨g1, by rw [e3 b hba]; exact g2⟩
  · intro b hb
    have hba : b ≠ a := fun q => by subst q; have h1 : (20 : Nat) = 21 := hb.symm.trans ha; omega
    obtain ⟨g1, g2, g3, g4⟩ := b5 b hb
    refine ⟨g1, g2, g3, fun j hj => ?_⟩
    rw [← g4 j hj]
    simp [wd_sF, wd_A, hba]
theorem wd_Hd.putQ {E : wd_E} {w : Wd} {H H1 : Heap} (h : wd_Hd E w H) {a i k : Nat} {r : Option Nat} (ha : wd_K w a = k) (hk1 : 22 ≤ k) (hk2 : k ≤ 26) (hr : ∀ q, r = some q → wd_K w q = wd_e k)
    (e1 : H1[a]? = some (arrV (eA E k) (wd_N w a) (updV (fun j => va_rf (wd_Q w a j)) i (va_rf r)))) (e2 : H1.size = H.size) (e3 : ∀ q, q ≠ a → H1[q]? = H[q]?) (e4 : wd_hs H1 = wd_hs H) : wd_Hd E (wd_sQ w a i r) H1 := by
  obtain ⟨⟨a1, a2, a3, a4, a5⟩, b1, b2, b3, b4, b5, b6, b7⟩ := h
  have hga := (b4 a k ha hk1 hk2).1
  refine ⟨⟨e2.trans a1, a2, by rw [e4]; exact a3, a4, fun q hq => by rw [e3 q (by omega)]; exact a5 q hq⟩, b1, ?_, ?_, ?_, b5, b6, ?_⟩
  · intro b k' hb hk'
    obtain ⟨g1, g2⟩ := b2 b k' hb hk'
    have hba : b ≠ a := fun q => by subst q; have h1 : k' + 1 = k := hb.symm.trans ha; omega
    exact ⟨g1, g2.kept (e3 b hba)⟩
  · intro b hb
    have hba : b ≠ a := fun q => by subst q; have h1 : (21 : Nat) = k := hb.symm.trans ha; omega
    obtain ⟨g1, g2⟩ := b3 b hb
    exact ⟨g1, by rw [e3 b hba]; exact g2⟩
  · intro b k' hb hk1 hk2
    obtain ⟨g1, g2⟩ := b4 b k' hb hk1 hk2
    refine ⟨g1, ?_⟩
    by_cases hba : b = a
    · subst hba
      have : k' = k := hb.symm.trans ha
      subst this
      rw [e1]
      show some (arrV (eA E k') (wd_N w b) _) = some (arrV (eA E k') (wd_N w b) _)
      congr 2
      funext j
      by_cases hj : j = i
      · subst hj
        simp [updV, wd_sQ, wd_Q, wd_up]
      · simp [updV, wd_sQ, wd_Q, wd_up, hj]
    · rw [e3 b hba, g2]
      show some (arrV (eA E k') (wd_N w b) _) = some (arrV (eA E k') (wd_N w b) _)
      congr 2
      funext j
      simp [wd_sQ, wd_Q, wd_up, hba]
  · intro b j q h1 h2 hq
    show wd_K w q = wd_e (wd_K w b)
    have hq' : wd_up (wd_Q w) a i r b j = some q := hq
    unfold wd_up at hq'
    split at hq'
    · rename_i hh
      rw [hh.1, ha]
      exact hr q hq'
    · exact b7 b j q h1 h2 hq'
/-- a new cell of whatever kind: what its kind asks of it is the last premise -/
theorem wd_Hd.new {E : wd_E} {w : Wd} {H : Heap} (h : wd_Hd E w H) {k n : Nat} {cell : Cell} (hM : 1 ≤ wd_M w) (hS : cell.slots.size ≤ wd_S w) (hk20 : k ≠ 20)
    (e1 : ∀ ci, k = ci + 1 → ci < 12 → ∀ H1 : Heap, H1[wd_H w]? = some cell → t_OB (wd_H w) ((eD E).1 ci) (wd_nF ci) ((eD E).2 ci) H1 (fun j => wd_v (wd_nw w k n cell.slots.size) (100 * ci + j) (wd_H w)))
    (e2 : k = 21 → cell = arrV (eA E 21) n (fun _ => .int 0)) (e3 : 22 ≤ k → k ≤ 26 → cell = arrV (eA E k) n (fun _ => .null)) : wd_Hd E (wd_nw w k n cell.slots.size) (H.push cell) := by
  obtain ⟨⟨a1, a2, a3, a4, a5⟩, b1, b2, b3, b4, b5, b6, b7⟩ := id h
  have ho : ∀ q, q ≠ wd_H w → (H.push cell)[q]? = H[q]? := fun q hq => by
    rw [Array.getElem?_push, if_neg (by rw [a1]; exact hq)]
  have hs : (H.push cell)[wd_H w]? = some cell := by rw [← a1]; simp
  have hkk : ∀ b, wd_K (wd_nw w k n cell.slots.size) b = if b = wd_H w then k else wd_K w b := fun b => rfl
  have hold : ∀ b, wd_K w b ≠ 0 → b ≠ wd_H w := fun b hb => Nat.ne_of_lt (wd_kind_lt h hb)
  refine ⟨⟨?_, ?_, ?_, ?_, fun q hq => by rw [ho q (by omega)]; exact a5 q hq⟩, ?_, ?_, ?_, ?_, ?_, ?_, ?_⟩
  · show (H.push cell).size = wd_H w + 1
    rw [Array.size_push, a1]
  · show wd_H w + 1 + (wd_M w - 1) = eC E
    omega
  · show wd_hs (H.push cell) + (wd_S w - cell.slots.size) = eS E
    rw [wd_hs_push]
    omega
  · show (eG E).size ≤ wd_H w + 1
    omega
  · intro a ha
    have h1 : wd_H w + 1 ≤ a := ha
    rw [hkk, if_neg (by omega)]
    exact b1 a (by omega)
  · intro a k' ha hk'
    rw [hkk] at ha
    split at ha
    · rename_i hh
      subst hh
      exact ⟨a4, e1 k' ha hk' _ hs⟩
    · rename_i hh
      obtain ⟨g1, g2⟩ := b2 a k' ha hk'
      refine ⟨g1, (g2.kept (ho a hh)).to fun j _ => ?_⟩
      simp only [wd_v]
      split
      · simp [wd_nw, wd_I, hh]
      · simp [wd_nw, wd_R, hh]
  · intro a ha
    rw [hkk] at ha
    split at ha
    · rename_i hh
      subst hh
      refine ⟨a4, ?_⟩
      rw [hs]
      refine congrArg some ((e2 ha).trans ?_)
      have hn : wd_N (wd_nw w k n cell.slots.size) (wd_H w) = n := by simp [wd_nw, wd_N]
      rw [hn]
      congr 1
      funext j
      simp [wd_nw, wd_A]
    · rename_i hh
      obtain ⟨g1, g2⟩ := b3 a ha
      refine ⟨g1, ?_⟩
      rw [ho a hh, g2]
      have hn : wd_N (wd_nw w k n cell.slots.size) a = wd_N w a := by simp [wd_nw, wd_N, hh]
      rw [hn]
      congr 2
      funext j
      simp [wd_nw, wd_A, hh]
  · intro a k' ha hk1 hk2
    rw [hkk] at ha
    split at ha
    · rename_i hh
      subst hh
      subst ha
      refine ⟨a4, ?_⟩
      rw [hs]
      refine congrArg some ((e3 hk1 hk2).trans ?_)
      have hn : wd_N (wd_nw w k n cell.slots.size) (wd_H w) = n := by simp [wd_nw, wd_N]
      rw [hn]
      congr 1
      funext j
      simp [wd_nw, wd_Q, va_rf]
    · rename_i hh
      obtain ⟨g1, g2⟩ := b4 a k' ha hk1 hk2
      refine ⟨g1, ?_⟩
      rw [ho a hh, g2]
      have hn : wd_N (wd_nw w k n cell.slots.size) a = wd_N w a := by simp [wd_nw, wd_N, hh]
      rw [hn]
      congr 2
      funext j
      simp [wd_nw, wd_Q, hh]
  · intro a ha
    rw [hkk] at ha
    split at ha
    · exact absurd ha hk20
    · rename_i hh
      obtain ⟨g1, g2, g3, g4⟩ := b5 a ha
      have hn : wd_N (wd_nw w k n cell.slots.size) a = wd_N w a := by simp [wd_nw, wd_N, hh]
      refine ⟨g1, g2, hn.trans g3, fun j hj => ?_⟩
      rw [← g4 j hj]
      simp [wd_nw, wd_A, hh]
  · intro a k' j q ha hk' hj htj hq
    rw [hkk] at ha
    split at ha
    · rename_i hh
      subst hh
      simp [wd_nw, wd_R] at hq
    · rename_i hh
      have hq' : wd_R w (100 * k' + j) a = some q := by simpa [wd_nw, wd_R, hh] using hq
      have h9 := b6 a k' j q ha hk' hj htj hq'
      rw [hkk, if_neg (hold q (by rw [h9]; exact htj))]
      exact h9
  · intro a j q h1 h2 hq
    rw [hkk] at h1 h2 ⊢
    by_cases hh : a = wd_H w
    · subst hh
      simp [wd_nw, wd_Q] at hq
    · rw [if_neg hh] at h1 h2
      have hq' : wd_Q w a j = some q := by simpa [wd_nw, wd_Q, hh] using hq
      have h9 := b7 a j q h1 h2 hq'
      have h0 : wd_K w q ≠ 0 := by
        rw [h9]
        have : wd_K w a = 22 ∨ wd_K w a = 23 ∨ wd_K w a = 24 ∨ wd_K w a = 25 ∨ wd_K w a = 26 := by omega
        rcases this with z | z | z | z | z <;> rw [z] <;> decide
      rw [hkk, if_neg (hold q h0), if_neg hh]
      exact h9
/-- a walk's place: the world, what has been made and written, the kinds that are known -/
def wd_Z (E : wd_E) (w0 : Wd) (R : Room) (s : State) (w : Wd) (H : Heap) (locs : List Loc) (cells slots : Nat) (ks : List (Option Nat × Nat)) : Prop :=
  wd_Hd E w H ∧ (∀ q ∈ locs, (eG E).size ≤ q.base) ∧ (cells + wd_M w = R.cells ∧ slots + wd_S w = R.slots) ∧ wd_Ex w0 w ∧ (∀ q ∈ ks, q.2 ≠ 0 ∧ ∀ a, q.1 = some a → wd_K w a = q.2) ∧ (s.heap.size + R.cells = eC E ∧ wd_hs s.heap + R.slots = eS E)
theorem wd_Z.k {E : wd_E} {w0 w : Wd} {R : Room} {s : State} {H : Heap} {locs : List Loc} {cells slots : Nat} {ks : List (Option Nat × Nat)} (h : wd_Z E w0 R s w H locs cells slots ks) (i : Nat) {r : Option Nat} {k : Nat} (hi : ks[i]? = some (r, k)) {a : Nat} (ha : r = some a) : wd_K w a = k := (h.2.2.2.2.1 (r, k) (List.mem_of_getElem? hi)).2 a ha
theorem wd_Z.sub {E : wd_E} {w0 w : Wd} {R : Room} {s : State} {H : Heap} {locs : List Loc} {cells slots : Nat} {ks ks' : List (Option Nat × Nat)} (h : wd_Z E w0 R s w H locs cells slots ks) (is : List Nat) (hs : is.filterMap (fun i => ks[i]?) = ks') : wd_Z E w0 R s w H locs cells slots ks' := by
  refine ⟨h.1, h.2.1, h.2.2.1, h.2.2.2.1, fun q hq => ?_, h.2.2.2.2.2⟩
  subst hs
  obtain ⟨i, -, hi⟩ := List.mem_filterMap.mp hq
  exact h.2.2.2.2.1 q (List.mem_of_getElem? hi)
theorem wd_Z.add {E : wd_E} {w0 w : Wd} {R : Room} {s : State} {H : Heap} {locs : List Loc} {cells slots : Nat} {ks : List (Option Nat × Nat)} (h : wd_Z E w0 R s w H locs cells slots ks) {r : Option Nat} {k : Nat} (hk : k ≠ 0) (hr : ∀ a, r = some a → wd_K w a = k) : wd_Z E w0 R s w H locs cells slots ((r, k) :: ks) := by
  refine ⟨h.1, h.2.1, h.2.2.1, h.2.2.2.1, fun q hq => ?_, h.2.2.2.2.2⟩
  rcases List.mem_cons.mp hq with rfl | hq
  · exact ⟨hk, hr⟩
  · exact h.2.2.2.2.1 q hq
