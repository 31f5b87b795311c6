/-! ===== new int[n][k], in the law's own body ===== -/
def wd_mna (w : Wd) (N K : Nat) : Wd :=
  (fun b => if b = wd_H w then 26 else if wd_H w < b ∧ b ≤ wd_H w + N then 21 else wd_K w b, wd_I w, wd_R w,
   fun b i => if wd_H w < b ∧ b ≤ wd_H w + N then 0 else wd_A w b i, fun b i => if b = wd_H w then (if i < N then some (wd_H w + 1 + i) else none) else wd_Q w b i,
   fun b => if b = wd_H w then N else if wd_H w < b ∧ b ≤ wd_H w + N then K else wd_N w b, wd_H w + 1 + N, wd_M w - (1 + N), wd_S w - (N + N * K))
theorem wd_hs_mna {H F : Heap} {N K : Nat} {o i : Cell} (f1 : F.size = H.size + 1 + N) (f2 : F[H.size]? = some o) (f3 : ∀ x, x < H.size → F[x]? = H[x]?) (f4 : ∀ j, j < N → F[H.size + 1 + j]? = some i) (ho : o.slots.size = N) (hi : i.slots.size = K) : wd_hs F = wd_hs H + (N + N * K) := by
  have e : F.toList = H.toList ++ (o :: List.replicate N i) := by
    apply List.ext_getElem?
    intro x
    rw [Array.getElem?_toList]
    rcases Nat.lt_trichotomy x H.size with h | h | h
    · rw [f3 x h, List.getElem?_append_left (by rw [Array.length_toList]; exact h), Array.getElem?_toList]
    · subst h
      rw [f2, List.getElem?_append_right (by rw [Array.length_toList]; exact Nat.le_refl _), Array.length_toList, Nat.sub_self]
      rfl
    · rw [List.getElem?_append_right (by rw [Array.length_toList]; omega), Array.length_toList]
      obtain ⟨j, hj⟩ : ∃ j, x = H.size + 1 + j := ⟨x - H.size - 1, by omega⟩
      subst hj
      rw [show H.size + 1 + j - H.size = j + 1 by omega, List.getElem?_cons_succ, List.getElem?_replicate]
      by_cases hjN : j < N
      · rw [if_pos hjN, f4 j hjN]
      · rw [if_neg hjN, Array.getElem?_eq_none (by omega)]
  unfold wd_hs
  rw [e, List.map_append, List.sum_append, List.map_cons, List.sum_cons, List.map_replicate, ho, hi]
  simp
theorem wd_Hd.mna {E : wd_E} {w : Wd} {H F : Heap} {N K : Nat} (h : wd_Hd E w H) (f1 : F.size = H.size + 1 + N) (f2 : F[H.size]? = some (arrV (eA E 26) N (fun i => va_rf (if i < N then some (H.size + 1 + i) else none)))) (f3 : ∀ x, x < H.size → F[x]? = H[x]?) (f4 : ∀ j, j < N → F[H.size + 1 + j]? = some (arrV (eA E 21) K (fun _ => .int 0))) (hM : 1 + N ≤ wd_M w) (hS : N + N * K ≤ wd_S w) : wd_Hd E (wd_mna w N K) F := by
  obtain ⟨⟨a1, a2, a3, a4, a5⟩, b1, b2, b3, b4, b5, b6, b7⟩ := id h
  have hsum := wd_hs_mna f1 f2 f3 f4 (arrV_size _ _ _) (arrV_size _ _ _)
  rw [a1] at f1 f2 f3 f4
  have hlt : ∀ a, wd_K w a ≠ 0 → a < wd_H w := fun a ha => wd_kind_lt h ha
  have hkk : ∀ b, wd_K (wd_mna w N K) b = if b = wd_H w then 26 else if wd_H w < b ∧ b ≤ wd_H w + N then 21 else wd_K w b := fun b => rfl
  have hold : ∀ b, b < wd_H w → wd_K (wd_mna w N K) b = wd_K w b := fun b hb => by
    rw [hkk, if_neg (by omega), if_neg (by omega)]
  refine ⟨⟨f1, ?_, ?_, ?_, fun q hq => by rw [f3 q (by omega)]; exact a5 q hq⟩, ?_, ?_, ?_, ?_, ?_, ?_, ?_⟩
  · show wd_H w + 1 + N + (wd_M w - (1 + N)) = eC E
    omega
  · show wd_hs F + (wd_S w - (N + N * K)) = eS E
    rw [hsum]
    omega
  · show (eG E).size ≤ wd_H w + 1 + N
    omega
  · intro a ha
    have h1 : wd_H w + 1 + N ≤ a := ha
    rw [hkk, if_neg (by omega), if_neg (by omega)]
    exact b1 a (by omega)
  · intro a k' ha hk'
    rw [hkk] at ha
    split at ha
    · omega
    · split at ha
      · omega
      · obtain ⟨g1, g2⟩ := b2 a k' ha hk'
        exact ⟨g1, g2.kept (f3 a (hlt a (by omega)))⟩
  · intro a ha
    rw [hkk] at ha
    split at ha
    · omega
    · split at ha
      · rename_i h1 h2
        obtain ⟨j, hj⟩ : ∃ j, a = wd_H w + 1 + j := ⟨a - wd_H w - 1, by omega⟩
        subst hj
        refine ⟨by omega, ?_⟩
        rw [f4 j (by omega)]
        have hn : wd_N (wd_mna w N K) (wd_H w + 1 + j) = K := by simp [wd_mna, wd_N, h1, h2]
        rw [hn]
        congr 2
        funext i
        simp [wd_mna, wd_A, h2]
      · rename_i h1 h2
        obtain ⟨g1, g2⟩ := b3 a ha
        refine ⟨g1, ?_⟩
        have hl := hlt a (by omega)
        rw [f3 a hl, g2]
        have hn : wd_N (wd_mna w N K) a = wd_N w a := by
          show (if a = wd_H w then N else if wd_H w < a ∧ a ≤ wd_H w + N then K else wd_N w a) = wd_N w a
          rw [if_neg h1, if_neg h2]
        rw [hn]
        congr 2
        funext i
        show Value.int (wd_A w a i) = Value.int (if wd_H w < a ∧ a ≤ wd_H w + N then 0 else wd_A w a i)
        rw [if_neg h2]
  · intro a k' ha hk1 hk2
    rw [hkk] at ha
    split at ha
    · rename_i h1
      subst h1
      subst ha
      refine ⟨a4, ?_⟩
      rw [f2]
      have hn : wd_N (wd_mna w N K) (wd_H w) = N := by simp [wd_mna, wd_N]
      rw [hn]
      congr 2
      funext i
      simp [wd_mna, wd_Q]
    · split at ha
      · omega
      · rename_i h1 h2
        obtain ⟨g1, g2⟩ := b4 a k' ha hk1 hk2
        refine ⟨g1, ?_⟩
        rw [f3 a (hlt a (by omega)), g2]
        have hn : wd_N (wd_mna w N K) a = wd_N w a := by
          show (if a = wd_H w then N else if wd_H w < a ∧ a ≤ wd_H w + N then K else wd_N w a) = wd_N w a
          rw [if_neg h1, if_neg h2]
        rw [hn]
        congr 2
        funext i
        show va_rf (wd_Q w a i) = va_rf (if a = wd_H w then _ else wd_Q w a i)
        rw [if_neg h1]
  · intro a ha
    rw [hkk] at ha
    split at ha
    · omega
    · split at ha
      · omega
      · rename_i h1 h2
        obtain ⟨g1, g2, g3, g4⟩ := b5 a ha
        have hn : wd_N (wd_mna w N K) a = wd_N w a := by
          show (if a = wd_H w then N else if wd_H w < a ∧ a ≤ wd_H w + N then K else wd_N w a) = wd_N w a
          rw [if_neg h1, if_neg h2]
        refine ⟨g1, g2, hn.trans g3, fun j hj => ?_⟩
        rw [← g4 j hj]
        show (if wd_H w < a ∧ a ≤ wd_H w + N then 0 else wd_A w a j) = wd_A w a j
        rw [if_neg h2]
  · intro a k' j q ha hk' hj htj hq
    rw [hkk] at ha
    split at ha
    · omega
    · split at ha
      · omega
      · have h9 := b6 a k' j q ha hk' hj htj hq
        rw [hold q (hlt q (by rw [h9]; exact htj))]
        exact h9
  · intro a j q h1 h2 hq
    have hq' : (if a = wd_H w then (if j < N then some (wd_H w + 1 + j) else none) else wd_Q w a j) = some q := hq
    have e1 := hkk a
    have e2 := hkk q
    rw [e1] at h1 h2
    rw [e1, e2]
    by_cases hh : a = wd_H w
    · rw [if_pos hh] at hq'
      split at hq'
      · cases hq'
        rename_i hj
        rw [if_pos hh, if_neg (by omega), if_pos (by omega)]
        rfl
      · cases hq'
    · rw [if_neg hh] at hq' h1 h2
      split at h1
      · omega
      · rename_i h3
        rw [if_neg h3] at h2
        have h9 := b7 a j q h1 h2 hq'
        have h0 : wd_K w q ≠ 0 := by
          rw [h9]
          have : wd_K w a = 22 ∨ wd_K w a = 23 ∨ wd_K w a = 24 ∨ wd_K w a = 25 ∨ wd_K w a = 26 := by omega
          rcases this with z | z | z | z | z <;> rw [z] <;> decide
        have h8 := hlt q h0
        rw [if_neg hh, if_neg h3, if_neg (by omega), if_neg (by omega)]
        exact h9
section WDM
variable {p : Program} {l : Launch} {e : Env} {R : Room} {s : State} {m : MethodId} {args : Array Value} {below : List Frame} {meth : Method} {c : Code} {H : Heap} {locs : List Loc} {cells slots : Nat} {Q : State → Prop}
variable {cc : ByteArray} {pc : Nat} {ls : Array Slot} {rest : List Value} {E : wd_E} {w0 w : Wd} {ks : List (Option Nat × Nat)} {a : Nat}
theorem z_mna {own : String} {index N K : Nat} {n k : Int32} (hn : ¬ n < 0) (hk : ¬ k < 0) (hN : n.toNatClampNeg = N) (hKk : k.toNatClampNeg = K) (hb1 : N * 4 ≤ 536870912) (hb2 : K * 4 ≤ 536870912) (hover : (Cond.arrayOver (.array .int)).before args s = true) (hx : p.tables.exec = Jvm.exec) (hb : c.code = cc) (hts : ∀ w ∈ TT, w.before args s = true) (hown : s.vm.findClass own = some m.cls) (hK : wd_KS E s) (hZ : wd_Z E w0 R s w H locs cells slots ks) (hcl : Cond.classLink own index "[[I" ∈ TT) (harr : Cond.arrayClass .int ∈ TT) (hg : ¬ (wd_M w < 1 + N ∨ wd_S w < N + N * K)) (hdg : decode cc pc = .ok (.multianewarray index 2, 4))
    (kk : ∀ (H1 : Heap) (cells1 slots1 : Nat), wd_Z E w0 R s (wd_mna w N K) H1 locs cells1 slots1 ((some (wd_H w), 26) :: ks) → W p l e R s m args below meth c H1 locs cells1 slots1 Q (F0 m (pc + 4) ls (.ref (wd_H w) :: rest))) : W p l e R s m args below meth c H locs cells slots Q (F0 m pc ls (.int k :: .int n :: rest)) := by
  subst hN
  subst hKk
  have hM : 1 + n.toNatClampNeg ≤ wd_M w := by omega
  have hS : n.toNatClampNeg + n.toNatClampNeg * k.toNatClampNeg ≤ wd_S w := by omega
  intro T hT Xs
  have hb3 := hZ.2.2.1
  obtain ⟨vm₁, cA, comp, hW1, fA, fC, hO, -, X', step⟩ := Xs.multianewarray2F (ty := .int) hx hown (hts _ hcl) hover (hts _ harr) (g := F0 m pc ls (.int k :: .int n :: rest)) rfl (by rw [hb]; exact hdg) rfl hn hk hb1 hb2 (by omega) rfl rfl (by omega) (by omega)
  have hcA : cA = eA E 26 := by
    have h9 : va_RA s (eA E 26) (.array .int) := (hK.1.2 5 _ rfl).2
    exact Option.some.inj (fA.symm.trans h9)
  have hcM : comp = eA E 21 := by
    have h9 : va_RA s (eA E 21) .int := (hK.1.2 0 _ rfl).2
    exact Option.some.inj (fC.symm.trans h9)
  subst hcA
  subst hcM
  have hTh : (T.setVm vm₁).heap = H := hT
  obtain ⟨f1, f2, -, -⟩ := Jvm.Free.Multi.fill_facts (T.setVm vm₁) (eA E 26) (eA E 21) n.toNatClampNeg k.toNatClampNeg (defaultValue .int) n.toNatClampNeg
  have f3 : ∀ x : Nat, x < H.size → (Jvm.Free.Multi.fill (T.setVm vm₁) (eA E 26) (eA E 21) n.toNatClampNeg k.toNatClampNeg (defaultValue .int) n.toNatClampNeg).heap[x]? = H[x]? := fun x hx => by
    have := Jvm.Free.Multi.fill_old (T.setVm vm₁) (eA E 26) (eA E 21) n.toNatClampNeg k.toNatClampNeg (defaultValue .int) (a := x) (by rw [hTh]; exact hx) n.toNatClampNeg
    rw [hTh] at this
    exact this
  have f4 : ∀ j : Nat, j < n.toNatClampNeg → (Jvm.Free.Multi.fill (T.setVm vm₁) (eA E 26) (eA E 21) n.toNatClampNeg k.toNatClampNeg (defaultValue .int) n.toNatClampNeg).heap[H.size + 1 + j]? = some (arrV (eA E 21) k.toNatClampNeg (fun _ => .int 0)) := fun j hj => by
    have := Jvm.Free.Multi.fill_inner (T.setVm vm₁) (eA E 26) (eA E 21) n.toNatClampNeg k.toNatClampNeg (defaultValue .int) n.toNatClampNeg j hj
    rw [hTh] at this
    rw [this]
    exact congrArg some (arrV_new _ _ _)
  rw [hTh, vr_outer] at f2
  rw [hTh] at f1
  have hd := hZ.1.mna f1 f2 f3 f4 hM hS
  have hEx : wd_Ex w (wd_mna w n.toNatClampNeg k.toNatClampNeg) := by
    refine ⟨fun a ha => ?_, ?_⟩
    · have hl := wd_kind_lt hZ.1 ha
      show (if a = wd_H w then 26 else if wd_H w < a ∧ a ≤ wd_H w + n.toNatClampNeg then 21 else wd_K w a) = wd_K w a
      rw [if_neg (by omega), if_neg (by omega)]
    · show wd_H w ≤ wd_H w + 1 + n.toNatClampNeg
      omega
  have hsz : T.heap.size = wd_H w := by rw [hT]; exact hZ.1.1.1
  obtain ⟨t, a1, b1⟩ := kk _ (cells + 1 + n.toNatClampNeg) (slots + n.toNatClampNeg + n.toNatClampNeg * k.toNatClampNeg) (by
    refine wd_Z.add ?_ (by decide) ?_
    · obtain ⟨-, h2, h3, h4, h5, h6⟩ := hZ
      refine ⟨hd, h2, ?_, h4.tr hEx, fun q hq => ⟨(h5 q hq).1, fun a ha => ?_⟩, h6⟩
      · show cells + 1 + n.toNatClampNeg + (wd_M w - (1 + n.toNatClampNeg)) = R.cells ∧ slots + n.toNatClampNeg + n.toNatClampNeg * k.toNatClampNeg + (wd_S w - (n.toNatClampNeg + n.toNatClampNeg * k.toNatClampNeg)) = R.slots
        omega
      · have h9 := (h5 q hq).2 a ha
        rw [hEx.1 a (by rw [h9]; exact (h5 q hq).1)]
        exact h9
    · intro q hq
      cases hq
      show (if wd_H w = wd_H w then 26 else _) = 26
      rw [if_pos rfl]) _ rfl X'
  refine ⟨t, step t ?_, b1⟩
  rw [hsz]
  exact a1
end WDM
