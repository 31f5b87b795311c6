section
-- ===== PART A: goes FIRST, ahead of the names: the tables' words, and 'selects' of the private methods out of them =====
/-- a private method of a class that the tables say can be made, by its rows of tables_1 -/
def lw_okq (q : MethodName × Nat) : Prop := (q.1.cls ≠ "java/lang/invoke/MethodHandle" ∧ q.1.cls ≠ "java/lang/invoke/VarHandle") ∧ Cond.instantiable q.1.cls q.2 ∈ tables_1 ∧ Cond.privateMethod q.1 ∈ tables_1 ∧ Cond.instanceMethod q.1 ∈ tables_1
theorem lw_p0 : lw_okq (⟨"java/lang/Throwable", "fillInStackTrace", "(I)Ljava/lang/Throwable;"⟩, 6) := ⟨⟨by decide +kernel, by decide +kernel⟩, List.mem_of_getElem? (i := 336) (by decide +kernel), List.mem_of_getElem? (i := 334) (by decide +kernel), List.mem_of_getElem? (i := 335) (by decide +kernel)⟩
theorem lw_p1 : lw_okq (⟨"SeamarkNet$Frame", "partWithout", "(I)I"⟩, 7) := ⟨⟨by decide +kernel, by decide +kernel⟩, List.mem_of_getElem? (i := 411) (by decide +kernel), List.mem_of_getElem? (i := 409) (by decide +kernel), List.mem_of_getElem? (i := 410) (by decide +kernel)⟩
theorem lw_p2 : lw_okq (⟨"SeamarkNet", "hostOf", "(I)LSeamarkNet$Host;"⟩, 3) := ⟨⟨by decide +kernel, by decide +kernel⟩, List.mem_of_getElem? (i := 23) (by decide +kernel), List.mem_of_getElem? (i := 421) (by decide +kernel), List.mem_of_getElem? (i := 422) (by decide +kernel)⟩
theorem lw_p3 : lw_okq (⟨"SeamarkNet", "digestHost", "(JLSeamarkNet$Host;)J"⟩, 3) := ⟨⟨by decide +kernel, by decide +kernel⟩, List.mem_of_getElem? (i := 23) (by decide +kernel), List.mem_of_getElem? (i := 445) (by decide +kernel), List.mem_of_getElem? (i := 446) (by decide +kernel)⟩
theorem lw_p4 : lw_okq (⟨"SeamarkNet", "needCable", "(I)V"⟩, 3) := ⟨⟨by decide +kernel, by decide +kernel⟩, List.mem_of_getElem? (i := 23) (by decide +kernel), List.mem_of_getElem? (i := 504) (by decide +kernel), List.mem_of_getElem? (i := 505) (by decide +kernel)⟩
theorem lw_p5 : lw_okq (⟨"SeamarkNet$Machine", "layWays", "()V"⟩, 13) := ⟨⟨by decide +kernel, by decide +kernel⟩, List.mem_of_getElem? (i := 40) (by decide +kernel), List.mem_of_getElem? (i := 556) (by decide +kernel), List.mem_of_getElem? (i := 557) (by decide +kernel)⟩
theorem lw_p6 : lw_okq (⟨"SeamarkNet$Machine", "portWithNetOf", "(I)I"⟩, 13) := ⟨⟨by decide +kernel, by decide +kernel⟩, List.mem_of_getElem? (i := 40) (by decide +kernel), List.mem_of_getElem? (i := 560) (by decide +kernel), List.mem_of_getElem? (i := 561) (by decide +kernel)⟩
theorem lw_p7 : lw_okq (⟨"SeamarkNet$Machine", "routeFor", "(I)I"⟩, 13) := ⟨⟨by decide +kernel, by decide +kernel⟩, List.mem_of_getElem? (i := 40) (by decide +kernel), List.mem_of_getElem? (i := 568) (by decide +kernel), List.mem_of_getElem? (i := 569) (by decide +kernel)⟩
theorem lw_p8 : lw_okq (⟨"SeamarkNet$Machine", "layByRoute", "(II)V"⟩, 13) := ⟨⟨by decide +kernel, by decide +kernel⟩, List.mem_of_getElem? (i := 40) (by decide +kernel), List.mem_of_getElem? (i := 572) (by decide +kernel), List.mem_of_getElem? (i := 573) (by decide +kernel)⟩
theorem lw_p9 : lw_okq (⟨"SeamarkNet$Machine", "layWay", "(IIII)V"⟩, 13) := ⟨⟨by decide +kernel, by decide +kernel⟩, List.mem_of_getElem? (i := 40) (by decide +kernel), List.mem_of_getElem? (i := 576) (by decide +kernel), List.mem_of_getElem? (i := 577) (by decide +kernel)⟩
theorem lw_p10 : lw_okq (⟨"SeamarkNet$Traffic", "bear", "(IIII)LSeamarkNet$Packet;"⟩, 8) := ⟨⟨by decide +kernel, by decide +kernel⟩, List.mem_of_getElem? (i := 112) (by decide +kernel), List.mem_of_getElem? (i := 640) (by decide +kernel), List.mem_of_getElem? (i := 641) (by decide +kernel)⟩
theorem lw_p11 : lw_okq (⟨"SeamarkNet$Traffic", "goOut", "(LSeamarkNet$Host;LSeamarkNet$Packet;)V"⟩, 8) := ⟨⟨by decide +kernel, by decide +kernel⟩, List.mem_of_getElem? (i := 112) (by decide +kernel), List.mem_of_getElem? (i := 732) (by decide +kernel), List.mem_of_getElem? (i := 733) (by decide +kernel)⟩
theorem lw_p12 : lw_okq (⟨"SeamarkNet$Traffic", "accept", "(LSeamarkNet$Host;LSeamarkNet$Packet;)LSeamarkNet$Packet;"⟩, 8) := ⟨⟨by decide +kernel, by decide +kernel⟩, List.mem_of_getElem? (i := 112) (by decide +kernel), List.mem_of_getElem? (i := 737) (by decide +kernel), List.mem_of_getElem? (i := 738) (by decide +kernel)⟩
theorem lw_p13 : lw_okq (⟨"SeamarkNet$Traffic", "wrap", "(LSeamarkNet$Machine;LSeamarkNet$Packet;)LSeamarkNet$Packet;"⟩, 8) := ⟨⟨by decide +kernel, by decide +kernel⟩, List.mem_of_getElem? (i := 112) (by decide +kernel), List.mem_of_getElem? (i := 748) (by decide +kernel), List.mem_of_getElem? (i := 749) (by decide +kernel)⟩
theorem lw_p14 : lw_okq (⟨"SeamarkNet$Traffic", "complain", "(LSeamarkNet$Host;LSeamarkNet$Packet;II)LSeamarkNet$Packet;"⟩, 8) := ⟨⟨by decide +kernel, by decide +kernel⟩, List.mem_of_getElem? (i := 112) (by decide +kernel), List.mem_of_getElem? (i := 752) (by decide +kernel), List.mem_of_getElem? (i := 753) (by decide +kernel)⟩
theorem lw_p15 : lw_okq (⟨"SeamarkNet$Traffic", "goByPort", "(LSeamarkNet$Host;LSeamarkNet$Port;LSeamarkNet$Packet;)V"⟩, 8) := ⟨⟨by decide +kernel, by decide +kernel⟩, List.mem_of_getElem? (i := 112) (by decide +kernel), List.mem_of_getElem? (i := 764) (by decide +kernel), List.mem_of_getElem? (i := 765) (by decide +kernel)⟩
def lw_privs_1 : List (MethodName × Nat) := [(⟨"java/lang/Throwable", "fillInStackTrace", "(I)Ljava/lang/Throwable;"⟩, 6), (⟨"SeamarkNet$Frame", "partWithout", "(I)I"⟩, 7), (⟨"SeamarkNet", "hostOf", "(I)LSeamarkNet$Host;"⟩, 3), (⟨"SeamarkNet", "digestHost", "(JLSeamarkNet$Host;)J"⟩, 3), (⟨"SeamarkNet", "needCable", "(I)V"⟩, 3), (⟨"SeamarkNet$Machine", "layWays", "()V"⟩, 13), (⟨"SeamarkNet$Machine", "portWithNetOf", "(I)I"⟩, 13), (⟨"SeamarkNet$Machine", "routeFor", "(I)I"⟩, 13), (⟨"SeamarkNet$Machine", "layByRoute", "(II)V"⟩, 13), (⟨"SeamarkNet$Machine", "layWay", "(IIII)V"⟩, 13), (⟨"SeamarkNet$Traffic", "bear", "(IIII)LSeamarkNet$Packet;"⟩, 8), (⟨"SeamarkNet$Traffic", "goOut", "(LSeamarkNet$Host;LSeamarkNet$Packet;)V"⟩, 8), (⟨"SeamarkNet$Traffic", "accept", "(LSeamarkNet$Host;LSeamarkNet$Packet;)LSeamarkNet$Packet;"⟩, 8), (⟨"SeamarkNet$Traffic", "wrap", "(LSeamarkNet$Machine;LSeamarkNet$Packet;)LSeamarkNet$Packet;"⟩, 8), (⟨"SeamarkNet$Traffic", "complain", "(LSeamarkNet$Host;LSeamarkNet$Packet;II)LSeamarkNet$Packet;"⟩, 8), (⟨"SeamarkNet$Traffic", "goByPort", "(LSeamarkNet$Host;LSeamarkNet$Port;LSeamarkNet$Packet;)V"⟩, 8)]
theorem lw_r1 : ∀ q ∈ lw_privs_1, lw_okq q := List.forall_mem_cons.mpr ⟨lw_p0, List.forall_mem_cons.mpr ⟨lw_p1, List.forall_mem_cons.mpr ⟨lw_p2, List.forall_mem_cons.mpr ⟨lw_p3, List.forall_mem_cons.mpr ⟨lw_p4, List.forall_mem_cons.mpr ⟨lw_p5, List.forall_mem_cons.mpr ⟨lw_p6, List.forall_mem_cons.mpr ⟨lw_p7, List.forall_mem_cons.mpr ⟨lw_p8, List.forall_mem_cons.mpr ⟨lw_p9, List.forall_mem_cons.mpr ⟨lw_p10, List.forall_mem_cons.mpr ⟨lw_p11, List.forall_mem_cons.mpr ⟨lw_p12, List.forall_mem_cons.mpr ⟨lw_p13, List.forall_mem_cons.mpr ⟨lw_p14, List.forall_mem_cons.mpr ⟨lw_p15, fun _ h => absurd h List.not_mem_nil⟩⟩⟩⟩⟩⟩⟩⟩⟩⟩⟩⟩⟩⟩⟩⟩
theorem lw_p16 : lw_okq (⟨"SeamarkNet$Traffic", "goToHop", "(LSeamarkNet$Host;LSeamarkNet$Port;LSeamarkNet$Packet;)V"⟩, 8) := ⟨⟨by decide +kernel, by decide +kernel⟩, List.mem_of_getElem? (i := 112) (by decide +kernel), List.mem_of_getElem? (i := 768) (by decide +kernel), List.mem_of_getElem? (i := 769) (by decide +kernel)⟩
theorem lw_p17 : lw_okq (⟨"SeamarkNet$Host", "dropFirstWaiting", "()V"⟩, 10) := ⟨⟨by decide +kernel, by decide +kernel⟩, List.mem_of_getElem? (i := 153) (by decide +kernel), List.mem_of_getElem? (i := 821) (by decide +kernel), List.mem_of_getElem? (i := 822) (by decide +kernel)⟩
theorem lw_p18 : lw_okq (⟨"SeamarkNet$Traffic", "hearQuestion", "(LSeamarkNet$Frame;)V"⟩, 8) := ⟨⟨by decide +kernel, by decide +kernel⟩, List.mem_of_getElem? (i := 112) (by decide +kernel), List.mem_of_getElem? (i := 849) (by decide +kernel), List.mem_of_getElem? (i := 850) (by decide +kernel)⟩
theorem lw_p19 : lw_okq (⟨"SeamarkNet$Traffic", "hostWithMark", "(I)LSeamarkNet$Host;"⟩, 8) := ⟨⟨by decide +kernel, by decide +kernel⟩, List.mem_of_getElem? (i := 112) (by decide +kernel), List.mem_of_getElem? (i := 855) (by decide +kernel), List.mem_of_getElem? (i := 856) (by decide +kernel)⟩
theorem lw_p20 : lw_okq (⟨"SeamarkNet$Traffic", "hearReply", "(LSeamarkNet$Frame;)V"⟩, 8) := ⟨⟨by decide +kernel, by decide +kernel⟩, List.mem_of_getElem? (i := 112) (by decide +kernel), List.mem_of_getElem? (i := 864) (by decide +kernel), List.mem_of_getElem? (i := 865) (by decide +kernel)⟩
theorem lw_p21 : lw_okq (⟨"SeamarkNet$Traffic", "come", "(LSeamarkNet$Host;LSeamarkNet$Packet;)LSeamarkNet$Packet;"⟩, 8) := ⟨⟨by decide +kernel, by decide +kernel⟩, List.mem_of_getElem? (i := 112) (by decide +kernel), List.mem_of_getElem? (i := 872) (by decide +kernel), List.mem_of_getElem? (i := 873) (by decide +kernel)⟩
theorem lw_p22 : lw_okq (⟨"SeamarkNet$Host", "findHeap", "(LSeamarkNet$Packet;)I"⟩, 10) := ⟨⟨by decide +kernel, by decide +kernel⟩, List.mem_of_getElem? (i := 153) (by decide +kernel), List.mem_of_getElem? (i := 884) (by decide +kernel), List.mem_of_getElem? (i := 885) (by decide +kernel)⟩
theorem lw_p23 : lw_okq (⟨"SeamarkNet$Host", "beginHeap", "(LSeamarkNet$Packet;)I"⟩, 10) := ⟨⟨by decide +kernel, by decide +kernel⟩, List.mem_of_getElem? (i := 153) (by decide +kernel), List.mem_of_getElem? (i := 888) (by decide +kernel), List.mem_of_getElem? (i := 889) (by decide +kernel)⟩
theorem lw_p24 : lw_okq (⟨"SeamarkNet$Host", "dropHeap", "(I)V"⟩, 10) := ⟨⟨by decide +kernel, by decide +kernel⟩, List.mem_of_getElem? (i := 153) (by decide +kernel), List.mem_of_getElem? (i := 892) (by decide +kernel), List.mem_of_getElem? (i := 893) (by decide +kernel)⟩
theorem lw_p25 : lw_okq (⟨"SeamarkNet$Trial", "look", "(LSeamarkNet$Host;)V"⟩, 7) := ⟨⟨by decide +kernel, by decide +kernel⟩, List.mem_of_getElem? (i := 247) (by decide +kernel), List.mem_of_getElem? (i := 1057) (by decide +kernel), List.mem_of_getElem? (i := 1058) (by decide +kernel)⟩
def lw_privs_2 : List (MethodName × Nat) := [(⟨"SeamarkNet$Traffic", "goToHop", "(LSeamarkNet$Host;LSeamarkNet$Port;LSeamarkNet$Packet;)V"⟩, 8), (⟨"SeamarkNet$Host", "dropFirstWaiting", "()V"⟩, 10), (⟨"SeamarkNet$Traffic", "hearQuestion", "(LSeamarkNet$Frame;)V"⟩, 8), (⟨"SeamarkNet$Traffic", "hostWithMark", "(I)LSeamarkNet$Host;"⟩, 8), (⟨"SeamarkNet$Traffic", "hearReply", "(LSeamarkNet$Frame;)V"⟩, 8), (⟨"SeamarkNet$Traffic", "come", "(LSeamarkNet$Host;LSeamarkNet$Packet;)LSeamarkNet$Packet;"⟩, 8), (⟨"SeamarkNet$Host", "findHeap", "(LSeamarkNet$Packet;)I"⟩, 10), (⟨"SeamarkNet$Host", "beginHeap", "(LSeamarkNet$Packet;)I"⟩, 10), (⟨"SeamarkNet$Host", "dropHeap", "(I)V"⟩, 10), (⟨"SeamarkNet$Trial", "look", "(LSeamarkNet$Host;)V"⟩, 7)]
theorem lw_r2 : ∀ q ∈ lw_privs_2, lw_okq q := List.forall_mem_cons.mpr ⟨lw_p16, List.forall_mem_cons.mpr ⟨lw_p17, List.forall_mem_cons.mpr ⟨lw_p18, List.forall_mem_cons.mpr ⟨lw_p19, List.forall_mem_cons.mpr ⟨lw_p20, List.forall_mem_cons.mpr ⟨lw_p21, List.forall_mem_cons.mpr ⟨lw_p22, List.forall_mem_cons.mpr ⟨lw_p23, List.forall_mem_cons.mpr ⟨lw_p24, List.forall_mem_cons.mpr ⟨lw_p25, fun _ h => absurd h List.not_mem_nil⟩⟩⟩⟩⟩⟩⟩⟩⟩⟩
def lw_privs : List (MethodName × Nat) := lw_privs_1 ++ (lw_privs_2)
def lw_tbl : List Cond := k2_sels lw_privs ++ tables_1
theorem lw_privs_ok : ∀ q ∈ lw_privs, lw_okq q := by
  show ∀ q ∈ lw_privs_1 ++ (lw_privs_2), lw_okq q
  exact List.forall_mem_append.mpr ⟨lw_r1, lw_r2⟩
/-- the streams that the claim lets the run draw from -/
abbrev lw_cs : List Choice := [Jvm.Choice.named "NaN.bits"]
theorem lw_bits : nanBits ∈ lw_cs := by first | decide | exact List.mem_cons_self | simp [lw_cs, nanBits]

/-! ===== BEGIN words of one list among another's, by their places ===== -/
theorem goodIn_r {big : List Cond} (ws : List Cond) (ps : List Nat) (hp : ws = ps.filterMap (fun i => big[i]?)) (h : ws.all goodWord = true) : GoodIn big ws := by
  intro w hw
  have h1 := List.all_eq_true.mp h w hw
  rw [hp] at hw
  obtain ⟨i, -, hi⟩ := List.mem_filterMap.mp hw
  have hm : w ∈ big := by first | exact List.mem_of_getElem? hi | exact List.getElem?_mem hi
  exact ⟨hm, good_of_word h1⟩
theorem goodIn_app {big a b : List Cond} (ha : GoodIn big a) (hb : GoodIn big b) : GoodIn big (a ++ b) := fun w h => (List.mem_append.mp h).elim (ha w) (hb w)
theorem goodIn_ca {big a b : List Cond} {c : Cond} (ha : GoodIn big (c :: a)) (hb : GoodIn big b) : GoodIn big (c :: (a ++ b)) := fun w h => (List.mem_cons.mp h).elim (fun e => ha w (List.mem_cons.mpr (Or.inl e))) (fun h => (List.mem_append.mp h).elim (fun h => ha w (List.mem_cons.mpr (Or.inr h))) (hb w))
theorem goodIn_sub {big ws : List Cond} (hm : ∀ w ∈ ws, w ∈ big) (h : ws.all goodWord = true) : GoodIn big ws := fun w hw => ⟨hm w hw, good_of_word (List.all_eq_true.mp h w hw)⟩
/-! ===== END ===== -/

/-! ===== BEGIN new T[n][m]: the outer array a place, the inner ones among the pooled ===== -/
/-- f, but v at every address of l -/
def vr_up {α : Type} (f : Nat → α) (l : List Nat) (v : α) : Nat → α := fun a => if a ∈ l then v else f a
theorem vr_up_in {α : Type} {f : Nat → α} {l : List Nat} {v : α} {a : Nat} (h : a ∈ l) : vr_up f l v a = v := if_pos h
theorem vr_up_ne {α : Type} {f : Nat → α} {l : List Nat} {v : α} {a : Nat} (h : a ∉ l) : vr_up f l v a = f a := if_neg h
theorem vr_rows {L l : List Nat} {f : Nat → va_E} {e : va_E} (h : ∀ a, a ∈ l → a ∉ L) : va_pl L f ++ l.map (fun a => (a, e)) = va_pl (L ++ l) (vr_up f l e) := by
  unfold va_pl
  rw [List.map_append]
  congr 1
  · apply List.map_congr_left
    intro a ha
    rw [vr_up_ne (fun q => h a q ha)]
  · apply List.map_congr_left
    intro a ha
    rw [vr_up_in ha]
theorem vr_lay {X rows : va_W} {x : Nat × va_E} {pl : va_W} {D : va_G} {cl : List vw_C} {H : Heap} (hP : va_P D cl (((X ++ pl) ++ [x]) ++ rows) H) : va_P D cl ((X ++ [x]) ++ (pl ++ rows)) H := by
  rw [List.append_assoc (X ++ pl)] at hP
  have h := va_P.swap hP
  rw [← List.append_assoc X] at h
  have h2 := va_P.swap h
  rw [List.append_assoc (X ++ [x])] at h2
  exact h2
theorem vr_layD {X rows : va_W} {x : Nat × va_E} {pl : va_W} {A : Nat → Prop} (hD : va_D A (((X ++ pl) ++ [x]) ++ rows)) : va_D A ((X ++ [x]) ++ (pl ++ rows)) := by
  rw [List.append_assoc (X ++ pl)] at hD
  have h := va_D.swap hD
  rw [← List.append_assoc X] at h
  have h2 := va_D.swap h
  rw [List.append_assoc (X ++ [x])] at h2
  exact h2
theorem vr_outer (c : ClassId) (N h0 : Nat) : ∀ i : Nat, Jvm.Free.Multi.outerC c N h0 i = arrV c N (fun j => va_rf (if j < i then some (h0 + 1 + j) else none))
  | 0 => by
    show ({ cls := c, slots := Array.replicate N .null, vm := .none } : Cell) = _
    rw [arrV_new]
    refine congrArg (arrV c N) (funext fun j => ?_)
    simp [va_rf]
  | i + 1 => by
    show (Jvm.Free.Multi.outerC c N h0 i).setSlot i (.ref (h0 + 1 + i)) = _
    rw [vr_outer c N h0 i, arrV_store]
    refine congrArg (arrV c N) (funext fun j => ?_)
    by_cases e : j = i
    · subst e
      simp [updV, va_rf]
    · by_cases h : j < i
      · simp [updV, e, h, Nat.lt_succ_of_lt h]
      · simp [updV, e, h, show ¬ j < i + 1 by omega]
/-! ===== END ===== -/

/-! ===== BEGIN exceptions that leave a method, and their catching by the caller (launches without stack traces) ===== -/
section VXA
/-! The laws vx_back, vx_callV, vx_callS, vx_callSW, vx_throw0, vx_throwS follow proofs of the library, with one case more: JvmDerived/Free/Laws.lean (Back.of_free), Shelf42/LK1.lean (callV, callS), Shelf/KitTraced.lean (throwNew0V, throwNewS). -/
/-- where a method has thrown q: the class by its name, the cell, what was written, the world -/
def vx_T (XC : String → State → State → Prop) (st : State) (q : Addr) (t : State) (mc ms : Nat) (free : Addr → Prop) : Prop :=
  ∃ (E : String) (ce : Cell) (L : List Loc), XC E st t ∧ t.heap[q]? = some ce ∧ ce.vm = .none ∧ st.vm.findClass E = some ce.cls ∧ st.WarmedH t.vm ∧ st.sameButNew ({ t with vm := st.vm } : State) L mc ms ∧ ∀ z ∈ L, free z.base
def vx_Q (Qc : Array Value → State → Outcome → State → Prop) (XC : String → State → State → Prop) (mc ms : Nat) (free : Addr → Prop) : Array Value → State → Outcome → State → Prop := fun a st o t =>
  (Qc a st o t ∧ ∃ L, FrameEnd st o t L mc ms ∧ ∀ q ∈ L, free q.base) ∨ ∃ q, o = .threw q ∧ vx_T XC st q t mc ms free
/-- a callee that returns or throws -/
def vx_Met (l : Launch) (y : MethodName) (ws : List Cond) (rm : Room) (Pc : Array Value → State → Prop) (Qc : Array Value → State → Outcome → State → Prop) (XC : String → State → State → Prop) (mc ms : Nat) (free : Addr → Prop) : Prop :=
  MetFree l y (headSpec ws rm) Pc (fun _ _ _ _ _ => True) (vx_Q Qc XC mc ms free)
def vx_Post (XC : String → State → State → Prop) (mc ms : Nat) (free : Addr → Prop) : Pt → Array Value → Addr → Pt → Prop := fun A a q B =>
  ∃ (g : JFrame) (mk : MethodId) (t : State) (L : List Loc) (E : String) (ce : Cell), B.U.heap = t.heap ∧ B.U.vm = t.vm ∧ XC E (A.U.calling g mk a) t ∧ t.heap[q]? = some ce ∧ ce.vm = .none ∧ A.U.vm.findClass E = some ce.cls ∧ B.locs = A.locs ++ L ∧ (∀ z ∈ L, free z.base) ∧ B.cells = A.cells + mc ∧ B.slots = A.slots + ms
def vx_Back (l : Launch) (R : Room) (p : Program) (e : Env) (below : List Frame) (s : State) (sargs : Array Value) (y : MethodName) (len W9 : Nat)
    (Pre : Pt → Array Value → Prop) (Post : Pt → Array Value → Option Value → Pt → Prop) (PostX : Pt → Array Value → Addr → Pt → Prop) : Prop :=
  ∀ (m : MethodId) (meth : Method) (c : Code) (A : Pt) (g : JFrame) (ig : Instr) (mk : MethodId) (a : Array Value),
    Stand p l e R s m sargs below meth c A.U A.locs A.cells A.slots → g.method = m → g.locals.size = c.maxLocals → decode c.code g.pc = .ok (ig, len) →
    2 * g.monitorRoom + (g.stack.map fun v => v.category).sum ≤ W9 → A.U.methodNamed? y = some mk → Pre A a →
    (∃ (v : Option Value) (B : Pt), Stand p l e R s m sargs below meth c B.U B.locs B.cells B.slots ∧ Post A a v B ∧
      Steps p.tables e below (doInvoke e (A.U.setTop g) [] mk a).1 (B.U.setTop { g with pc := g.pc + len, stack := v.toList ++ g.stack })) ∨
    (∃ (q : Addr) (B : Pt), Stand p l e R s m sargs below meth c B.U B.locs B.cells B.slots ∧ PostX A a q B ∧
      Steps p.tables e below (doInvoke e (A.U.setTop g) [] mk a).1 ((B.U.setTop g).pushFrame (.throwing q)))
section Payer
variable {l : Launch} {R : Room} {p : Program} {e : Env} {below : List Frame} {s : State} {sargs : Array Value} {y : MethodName} {len W9 : Nat}
theorem vx_back {ws : List Cond} {rm : Room} {Pc : Array Value → State → Prop} {Qc : Array Value → State → Outcome → State → Prop} {XC : String → State → State → Prop} {mc ms : Nat} {free : Addr → Prop} {bytes : ByteArray} {maxL : Nat} {ret : Option FieldType}
    (hM : vx_Met l y ws rm Pc Qc XC mc ms free) (hblind : FrameBlind Pc) (hrc : rm.cells = mc) (hrs : rm.slots = ms)
    (hframes : rm.frames + 1 ≤ R.frames) (hlocals : W9 + (maxL + 11) + rm.locals ≤ R.locals)
    (hws : ∀ w ∈ ws, ∀ a' U, s.WarmedH U.vm → w.before a' U = true) (hcode : Cond.code y bytes maxL ret ∈ ws) (hinit : ∀ a' U, s.WarmedH U.vm → (Cond.initialized y.cls).before a' U = true) :
    vx_Back l R p e below s sargs y len W9 (PreOf R mc ms Pc) (PostOf Qc mc ms free) (vx_Post XC mc ms free) := by
  intro m meth c A g ig mk a X hg hsize hdg hW hn hp
  have h1 : (headSpec ws rm).pre.before a A.U = true := atoms_intro fun w hw => hws w hw _ _ X.warmed
  have h2 : (Cond.code y bytes maxL ret).before a A.U = true := hws _ hcode _ _ X.warmed
  have h3 : (Cond.initialized y.cls).before a A.U = true := hinit _ _ X.warmed
  have h4 : A.cells + (headSpec ws rm).room.cells ≤ R.cells := by rw [show (headSpec ws rm).room.cells = mc from hrc]; exact hp.1
  have h5 : A.slots + (headSpec ws rm).room.slots ≤ R.slots := by rw [show (headSpec ws rm).room.slots = ms from hrs]; exact hp.2.1
  have hPc : Pc a (A.U.calling g mk a) := hblind _ _ _ _ hp.2.2
  obtain ⟨U, Ls, c0, s0⟩ := A
  dsimp only [Pt.U, Pt.locs, Pt.cells, Pt.slots] at h1 h2 h3 h4 h5 X hn hPc ⊢
  obtain ⟨methY, cY, hmY, hcY, -, hlY, -, -, -, -⟩ := Cond.code_spec hn h2
  obtain ⟨kY, hkY, -⟩ := className_of_methodNamed hn
  have hinitY : kY.init = .initialized := Cond.initialized_spec (findClass_of_methodNamed hn) hkY h3
  have h : At U g.method c below := by rw [hg]; exact X.here
  have hlocals9 : W9 + (maxL + 11) + (headSpec ws rm).room.locals ≤ R.locals := hlocals
  have happ : (headSpec ws rm).appliesLoose y e.platform (U.calling g mk a) = true :=
    Spec.appliesLoose_calling (g := g) h hdg hn hkY hinitY
      (X.room_calling (g := g) (R' := (headSpec ws rm).room) hsize hmY hcY hframes (by rw [hlY]; omega) h4 h5) h1
  obtain ⟨mid, hmid⟩ := h.above
  have hfr : (U.setTop g).frames = (.java g :: mid) ++ below := by rw [State.frames_setTop' g h.top, hmid]; rfl
  obtain ⟨o, s₂, hsteps, -, hend, hq⟩ := Steps.callFree hM p X.admits X.cas X.clock (acts := []) hfr happ hPc trivial
  have hq' : vx_Q Qc XC mc ms free a (U.calling g mk a) o s₂ := hq
  rw [State.frames_setTop' g h.top] at hend
  obtain ⟨g₀, hg0⟩ := Option.isSome_iff_exists.mp h.top
  obtain ⟨r, hr⟩ := State.topJava?_eq_some.mp hg0
  have hr' : (({ U with heap := s₂.heap, slotsUsed := s₂.slotsUsed } : State).setVm s₂.vm).frames = .java g₀ :: r := hr
  rcases hq' with ⟨hqc, L, hfe, hL⟩ | ⟨q, rfl, E, ce, L, hx, hce, hcv, hcl, hW₂, hsm, hL⟩
  · obtain ⟨⟨v, rfl⟩, hW₂, e2, q2, q3, q4, q5, q6⟩ := id hfe
    have e3 : s₂ = ({ (U.calling g mk a).setFrames s₂.frames with heap := s₂.heap, slotsUsed := s₂.slotsUsed } : State).setVm s₂.vm := by
      have : s₂ = ({ s₂ with vm := (U.calling g mk a).vm } : State).setVm s₂.vm := rfl
      rw [e2] at this
      exact this
    obtain ⟨c₂, i₂, len₂, hc₂, hd₂, hf₂⟩ := hend
    have hW' : U.WarmedH s₂.vm := hW₂
    have hcc : c₂ = c := by
      have h1 : s₂.code? g.method = U.code? g.method := by
        rw [State.code?_eq, State.code?_eq, hW'.alike.method?]
      exact Option.some.inj (hc₂.symm.trans (h1.trans h.code))
    subst hcc
    have hlen : len₂ = len := by rw [hdg] at hd₂; cases hd₂; rfl
    subst hlen
    have hs₂ : s₂ = (({ U with heap := s₂.heap, slotsUsed := s₂.slotsUsed } : State).setVm s₂.vm).setTop { g with pc := g.pc + len₂, stack := v.toList ++ g.stack } := by
      refine e3.trans ?_
      rw [hf₂, State.calling_eq h.top, State.setFrames_setFrames, State.setTop_of_frames _ hr', hr]
      rfl
    have hsame : U.sameButNew ({ U with heap := s₂.heap, slotsUsed := s₂.slotsUsed } : State) L mc ms := by
      refine ⟨?_, q2, q3, q4, q5, q6⟩
      obtain ⟨t, ht, -⟩ := State.frames_cons hr
      show ({ U with heap := s₂.heap, slotsUsed := s₂.slotsUsed } : State) = { U.setFrames U.frames with heap := s₂.heap, slotsUsed := s₂.slotsUsed }
      rw [State.setFrames_self ht]
    subst hg
    refine Or.inl ⟨v, ⟨(({ U with heap := s₂.heap, slotsUsed := s₂.slotsUsed } : State).setVm s₂.vm), Ls ++ L, c0 + mc, s0 + ms⟩,
      ⟨X.admits, X.cas, X.clock, X.frames, X.room, X.hears, X.method, X.code, (X.here.setHeapUsed s₂.heap s₂.slotsUsed).setVm hW'.alike, X.tail, State.WarmedH.trans X.warmed hW', X.limits, X.bytes, X.same.trans (hsame.setVm s.vm)⟩,
      ⟨g, mk, s₂, L, rfl, rfl, hqc, rfl, hL, rfl, rfl⟩, ?_⟩
    show Steps p.tables e below _ ((({ U with heap := s₂.heap, slotsUsed := s₂.slotsUsed } : State).setVm s₂.vm).setTop { g with pc := g.pc + len₂, stack := v.toList ++ g.stack })
    rw [← hs₂]
    exact hsteps
  · obtain ⟨e2, q2, q3, q4, q5, q6⟩ := id hsm
    have e3 : s₂ = ({ (U.calling g mk a).setFrames s₂.frames with heap := s₂.heap, slotsUsed := s₂.slotsUsed } : State).setVm s₂.vm := by
      have : s₂ = ({ s₂ with vm := (U.calling g mk a).vm } : State).setVm s₂.vm := rfl
      rw [e2] at this
      exact this
    have hf₂ : s₂.frames = .throwing q :: .java g :: U.frames.tail := hend
    have hW' : U.WarmedH s₂.vm := hW₂
    have hs₂ : s₂ = ((({ U with heap := s₂.heap, slotsUsed := s₂.slotsUsed } : State).setVm s₂.vm).setTop g).pushFrame (.throwing q) := by
      refine e3.trans ?_
      rw [hf₂, State.calling_eq h.top, State.setFrames_setFrames, State.pushFrame, State.frames_setTop _ hr', State.setTop_of_frames _ hr', State.setFrames_setFrames, hr]
      rfl
    have hsame : U.sameButNew ({ U with heap := s₂.heap, slotsUsed := s₂.slotsUsed } : State) L mc ms := by
      refine ⟨?_, q2, q3, q4, q5, q6⟩
      obtain ⟨t, ht, -⟩ := State.frames_cons hr
      show ({ U with heap := s₂.heap, slotsUsed := s₂.slotsUsed } : State) = { U.setFrames U.frames with heap := s₂.heap, slotsUsed := s₂.slotsUsed }
      rw [State.setFrames_self ht]
    subst hg
    refine Or.inr ⟨q, ⟨(({ U with heap := s₂.heap, slotsUsed := s₂.slotsUsed } : State).setVm s₂.vm), Ls ++ L, c0 + mc, s0 + ms⟩,
      ⟨X.admits, X.cas, X.clock, X.frames, X.room, X.hears, X.method, X.code, (X.here.setHeapUsed s₂.heap s₂.slotsUsed).setVm hW'.alike, X.tail, State.WarmedH.trans X.warmed hW', X.limits, X.bytes, X.same.trans (hsame.setVm s.vm)⟩,
      ⟨g, mk, s₂, L, E, ce, rfl, rfl, hx, hce, hcv, hcl, rfl, hL, rfl, rfl⟩, ?_⟩
    show Steps p.tables e below _ (((({ U with heap := s₂.heap, slotsUsed := s₂.slotsUsed } : State).setVm s₂.vm).setTop g).pushFrame (.throwing q))
    rw [← hs₂]
    exact hsteps
end Payer
section Calls
variable {p : Program} {l : Launch} {e : Env} {R : Room} {s : State} {m : MethodId} {args : Array Value} {below : List Frame} {meth : Method} {c : Code} {T : State} {locs : List Loc} {cells slots : Nat}
theorem vx_callV (X : Stand p l e R s m args below meth c T locs cells slots) (hexec : p.tables.exec = Jvm.exec) {own C : String} {index : Nat} {y : MethodName} {bytes : ByteArray} {maxL : Nat} {ret : Option FieldType}
    (hown : s.vm.findClass own = some m.cls) (hlink : (Cond.methodLink own index y).before args s = true) (hinst : (Cond.instanceMethod y).before args s = true) (hsel : (Cond.selects C y y).before args s = true)
    (hcode : (Cond.code y bytes maxL ret).before args s = true) (hy : y.cls ≠ "java/lang/invoke/MethodHandle" ∧ y.cls ≠ "java/lang/invoke/VarHandle")
    {W9 : Nat} {Pre : Pt → Array Value → Prop} {Post : Pt → Array Value → Option Value → Pt → Prop} {PostX : Pt → Array Value → Addr → Pt → Prop} (hK : vx_Back l R p e below s args y 3 W9 Pre Post PostX)
    {b : Addr} {cellB : Cell} (hcell : T.heap[b]? = some cellB) (hobj : cellB.vm.isStatics = false) (hcls : s.vm.findClass C = some cellB.cls)
    {g : JFrame} (hg : g.method = m) (hsize : g.locals.size = c.maxLocals) {argsL rest : List Value} (hlen : ∀ sig, parseMethodDescriptor y.desc = some sig → argsL.length = sig.parameters.length)
    (hstack : g.stack = argsL.reverse ++ .ref b :: rest) (hW : 2 * g.monitorRoom + (rest.map fun v => v.category).sum ≤ W9) (hdg : decode c.code g.pc = .ok (.invokevirtual index, 3))
    (hpre : ∀ vm₁, s.WarmedH vm₁ → Pre ⟨T.setVm vm₁, locs, cells, slots⟩ (Value.ref b :: argsL).toArray) :
    (∃ (v : Option Value) (vm₁ : Vm) (B : Pt), s.WarmedH vm₁ ∧ Stand p l e R s m args below meth c B.U B.locs B.cells B.slots ∧ Post ⟨T.setVm vm₁, locs, cells, slots⟩ (Value.ref b :: argsL).toArray v B ∧
      ∀ target, Steps p.tables e below (B.U.setTop { g with pc := g.pc + 3, stack := v.toList ++ rest }) target → Steps p.tables e below (T.setTop g) target) ∨
    (∃ (q : Addr) (vm₁ : Vm) (B : Pt), s.WarmedH vm₁ ∧ Stand p l e R s m args below meth c B.U B.locs B.cells B.slots ∧ PostX ⟨T.setVm vm₁, locs, cells, slots⟩ (Value.ref b :: argsL).toArray q B ∧
      Steps p.tables e below (T.setTop g) ((B.U.setTop { g with stack := rest }).pushFrame (.throwing q))) := by
  obtain ⟨mk, methM, hnamed, hmethM, hstM, habM⟩ := Cond.instanceMethod_spec hinst
  obtain ⟨methM', cM, hmethM', -, -, -, -, -, -, hsigM⟩ := Cond.code_spec hnamed hcode
  cases hmethM.symm.trans hmethM'
  obtain ⟨c2, r2, m2, q1, q2, q3, q4, kP, hkP, hkPi⟩ := Cond.selects_spec hsel
  cases hcls.symm.trans q1
  cases (State.methodFound?_of_named hnamed hy).symm.trans q2
  cases hnamed.symm.trans q3
  have hselP : selectMethod e.platform s.vm cellB.cls mk = .method mk := by rw [Launch.admits_selectMethod X.admits]; exact q4
  obtain ⟨vm₁, X₁, hstep₁⟩ := X.invokevirtual hexec hown hlink hnamed hmethM hstM hkP hkPi hy (a := b) (cell := cellB) hcell
    (fun z h => by rw [h] at hobj; cases hobj) hselP hmethM habM hkP hkPi (g := g) hg (argsL := argsL) (rest := rest) (hlen _ hsigM) hstack hdg
  rcases hK m meth c ⟨T.setVm vm₁, locs, cells, slots⟩ { g with stack := rest } (.invokevirtual index) mk (Value.ref b :: argsL).toArray X₁ hg hsize hdg hW (X₁.named hnamed) (hpre vm₁ X₁.warmed) with ⟨v, B, X', hpost, hsteps⟩ | ⟨q, B, X', hpost, hsteps⟩
  · exact Or.inl ⟨v, vm₁, B, X₁.warmed, X', hpost, fun target h => hstep₁ _ fun acts => by rw [doInvoke_state]; exact hsteps.trans h⟩
  · exact Or.inr ⟨q, vm₁, B, X₁.warmed, X', hpost, hstep₁ _ fun acts => by rw [doInvoke_state]; exact hsteps⟩
theorem vx_callS (X : Stand p l e R s m args below meth c T locs cells slots) (hexec : p.tables.exec = Jvm.exec) {own : String} {index : Nat} {y : MethodName} {bytes : ByteArray} {maxL : Nat} {ret : Option FieldType}
    (hown : s.vm.findClass own = some m.cls) (hlink : (Cond.methodLink own index y).before args s = true) (hstat : (Cond.static y).before args s = true) (hinit : (Cond.initialized y.cls).before args s = true)
    (hcode : (Cond.code y bytes maxL ret).before args s = true) (hy : y.cls ≠ "java/lang/invoke/MethodHandle" ∧ y.cls ≠ "java/lang/invoke/VarHandle")
    {W9 : Nat} {Pre : Pt → Array Value → Prop} {Post : Pt → Array Value → Option Value → Pt → Prop} {PostX : Pt → Array Value → Addr → Pt → Prop} (hK : vx_Back l R p e below s args y 3 W9 Pre Post PostX)
    {g : JFrame} (hg : g.method = m) (hsize : g.locals.size = c.maxLocals) {argsL rest : List Value} (hlen : ∀ sig, parseMethodDescriptor y.desc = some sig → argsL.length = sig.parameters.length)
    (hstack : g.stack = argsL.reverse ++ rest) (hW : 2 * g.monitorRoom + (rest.map fun v => v.category).sum ≤ W9) (hdg : decode c.code g.pc = .ok (.invokestatic index, 3))
    (hpre : ∀ vm₁, s.WarmedH vm₁ → Pre ⟨T.setVm vm₁, locs, cells, slots⟩ argsL.toArray) :
    (∃ (v : Option Value) (vm₁ : Vm) (B : Pt), s.WarmedH vm₁ ∧ Stand p l e R s m args below meth c B.U B.locs B.cells B.slots ∧ Post ⟨T.setVm vm₁, locs, cells, slots⟩ argsL.toArray v B ∧
      ∀ target, Steps p.tables e below (B.U.setTop { g with pc := g.pc + 3, stack := v.toList ++ rest }) target → Steps p.tables e below (T.setTop g) target) ∨
    (∃ (q : Addr) (vm₁ : Vm) (B : Pt), s.WarmedH vm₁ ∧ Stand p l e R s m args below meth c B.U B.locs B.cells B.slots ∧ PostX ⟨T.setVm vm₁, locs, cells, slots⟩ argsL.toArray q B ∧
      Steps p.tables e below (T.setTop g) ((B.U.setTop { g with stack := rest }).pushFrame (.throwing q))) := by
  obtain ⟨mk, hnamed⟩ := Cond.code_named hcode
  obtain ⟨methM, cM, hmethM, -, -, -, -, -, -, hsigM⟩ := Cond.code_spec hnamed hcode
  have hstatic : methM.isStatic = true := Cond.static_spec hnamed hmethM hstat
  obtain ⟨kP, hkP, -⟩ := className_of_methodNamed hnamed
  have hinitP : kP.init = .initialized := Cond.initialized_spec (findClass_of_methodNamed hnamed) hkP hinit
  obtain ⟨vm₁, X₁, hstep₁⟩ := X.invokestatic hexec hown hlink hnamed hmethM hstatic hkP hinitP hy (g := g) hg (argsL := argsL) (rest := rest) (hlen _ hsigM) hstack hdg
  rcases hK m meth c ⟨T.setVm vm₁, locs, cells, slots⟩ { g with stack := rest } (.invokestatic index) mk argsL.toArray X₁ hg hsize hdg hW (X₁.named hnamed) (hpre vm₁ X₁.warmed) with ⟨v, B, X', hpost, hsteps⟩ | ⟨q, B, X', hpost, hsteps⟩
  · exact Or.inl ⟨v, vm₁, B, X₁.warmed, X', hpost, fun target h => hstep₁ _ fun acts => by rw [doInvoke_state]; exact hsteps.trans h⟩
  · exact Or.inr ⟨q, vm₁, B, X₁.warmed, X', hpost, hstep₁ _ fun acts => by rw [doInvoke_state]; exact hsteps⟩
end Calls
theorem vx_cls {s : State} {T : State} {vm₁ : Vm} {E : String} {k : ClassId} (hW : s.WarmedH vm₁) (h : (T.setVm vm₁).vm.findClass E = some k) : s.vm.findClass E = some k := by
  have h1 : vm₁.findClass E = some k := h
  rw [hW.alike.findClass] at h1
  exact h1
/-- the method's frame g, with q thrown over it -/
def vx_W (p : Program) (l : Launch) (e : Env) (R : Room) (s : State) (m : MethodId) (args : Array Value) (below : List Frame) (meth : Method) (c : Code) (H : Heap) (locs : List Loc) (cells slots : Nat) (Q : State → Prop) (g : JFrame) (q : Addr) : Prop :=
  ∀ T : State, T.heap = H → Stand p l e R s m args below meth c T locs cells slots → ∃ t, Steps p.tables e below ((T.setTop g).pushFrame (.throwing q)) t ∧ Q t
def vx_Run (p : Program) (l : Launch) (e : Env) (R : Room) (s : State) (m : MethodId) (args : Array Value) (below : List Frame) (meth : Method) (c : Code) (H : Heap) (locs : List Loc) (cells slots mc ms : Nat) (g : JFrame) (rest : List Value) (Qa : State → Outcome → State → Prop) (XC : String → State → State → Prop) (free : Addr → Prop) : Prop :=
  ∀ T : State, T.heap = H → Stand p l e R s m args below meth c T locs cells slots →
    (∃ (v : Option Value) (st₀ t T' : State) (L : List Loc), st₀.heap = H ∧ Stand p l e R s m args below meth c T' (locs ++ L) (cells + mc) (slots + ms) ∧ (∀ q ∈ L, free q.base) ∧ T'.heap = t.heap ∧ T'.vm = t.vm ∧ Qa st₀ (.returned v) t ∧
      Goes p e below T g T' { g with pc := g.pc + 3, stack := v.toList ++ rest }) ∨
    (∃ (q : Addr) (st₀ t T' : State) (L : List Loc) (E : String) (ce : Cell), st₀.heap = H ∧ Stand p l e R s m args below meth c T' (locs ++ L) (cells + mc) (slots + ms) ∧ (∀ z ∈ L, free z.base) ∧ T'.heap = t.heap ∧ T'.vm = t.vm ∧ XC E st₀ t ∧ t.heap[q]? = some ce ∧ ce.vm = .none ∧ s.vm.findClass E = some ce.cls ∧
      Steps p.tables e below (T.setTop g) ((T'.setTop { g with stack := rest }).pushFrame (.throwing q)))
def vx_X {S : Type} (px : S → Prop) (B : String → S → State → Prop) (A : Nat → Prop) : String → State → State → Prop := fun E st t => ∃ u : S, px u ∧ B E u t ∧ va_F A st t
section Runs
variable {p : Program} {l : Launch} {e : Env} {R : Room} {s : State} {m : MethodId} {args : Array Value} {below : List Frame} {meth : Method} {c : Code} {H : Heap} {locs : List Loc} {cells slots : Nat}
variable {y : MethodName} {bytes cc : ByteArray} {maxL nL mc ms n index : Nat} {ret : Option FieldType} {ws : List Cond} {rm : Room} {Pc : Array Value → State → Prop} {Qc : Array Value → State → Outcome → State → Prop} {XC : String → State → State → Prop} {free : Addr → Prop} {Ts : List Cond} {own C : String} {b : Addr} {As rest : List Value} {g : JFrame}
theorem vx_callBack (cb : CallB R s args own index y bytes maxL ret ws rm mc ms n) (hM : vx_Met l y ws rm Pc Qc XC mc ms free) (hbl : FrameBlind Pc) : vx_Back l R p e below s args y 3 8 (PreOf R mc ms Pc) (PostOf Qc mc ms free) (vx_Post XC mc ms free) := by
  obtain ⟨hrc, hrs, hfr, hlo, hws, hcw, -, hini, -⟩ := cb
  exact vx_back (bytes := bytes) (maxL := maxL) (ret := ret) hM hbl hrc hrs hfr hlo hws hcw (fun a' U hW => word_at hW (Or.inl (by first | rfl | simp [Cond.onTables, Cond.keeps, Cond.steady])) hini)
theorem vx_runV (S : CallFix p m c cc nL s args Ts own) (hM : vx_Met l y ws rm Pc Qc XC mc ms free) (cw : CallW R s args own C index y bytes maxL ret ws rm mc ms n) (hp : PreV s H C b Pc As)
    (hg : g.method = m) (hn : As.length = n) (hsize : g.locals.size = nL) (hstack : g.stack = As.reverse ++ .ref b :: rest) (hW : 2 * g.monitorRoom + (rest.map fun v => v.category).sum ≤ 8) (hdg : decode cc g.pc = .ok (.invokevirtual index, 3)) (hf : cells + mc ≤ R.cells ∧ slots + ms ≤ R.slots) :
    vx_Run p l e R s m args below meth c H locs cells slots mc ms g rest (Qc (Value.ref b :: As).toArray) XC free := by
  have hK : vx_Back l R p e below s args y 3 8 (PreOf R mc ms Pc) (PostOf Qc mc ms free) (vx_Post XC mc ms free) := vx_callBack cw.1 hM hp.1
  obtain ⟨⟨-, -, -, -, -, -, hcode, -, hy, hlen, hl⟩, hin, hse⟩ := cw
  obtain ⟨hx, hb, hml, ho, -⟩ := S
  obtain ⟨-, ⟨cellB, hcB, hoB, hclB⟩, hPc⟩ := hp
  intro T hT X
  rcases vx_callV X hx (C := C) (bytes := bytes) (maxL := maxL) (ret := ret) ho hl hin hse hcode hy hK (by rw [hT]; exact hcB) hoB hclB hg (hsize.trans hml.symm) (argsL := As) (rest := rest) (fun sig h => hn.trans (hlen sig h)) hstack hW (by rw [hb]; exact hdg)
    (fun vm₁ hW₁ => ⟨hf.1, hf.2, hPc (T.setVm vm₁) hT hW₁⟩) with ⟨v, vm₁, ⟨U', l2, c2, s2⟩, hW₁, X', ⟨g', mk, t, L, e1, e2, hq, h1, hL, h2, h3⟩, st⟩ | ⟨q, vm₁, ⟨U', l2, c2, s2⟩, hW₁, X', ⟨g', mk, t, L, E, ce, e1, e2, hq, hce, hcv, hcl, h1, hL, h2, h3⟩, st⟩
  · dsimp only [Pt.U, Pt.locs, Pt.cells, Pt.slots] at X' e1 e2 h1 h2 h3 st
    subst h1; subst h2; subst h3
    exact Or.inl ⟨v, (T.setVm vm₁).calling g' mk (Value.ref b :: As).toArray, t, U', L, hT, X', hL, e1, e2, hq, st⟩
  · dsimp only [Pt.U, Pt.locs, Pt.cells, Pt.slots] at X' e1 e2 h1 h2 h3 st hcl
    subst h1; subst h2; subst h3
    exact Or.inr ⟨q, (T.setVm vm₁).calling g' mk (Value.ref b :: As).toArray, t, U', L, E, ce, hT, X', hL, e1, e2, hq, hce, hcv, vx_cls hW₁ hcl, st⟩
theorem vx_runS (S : CallFix p m c cc nL s args Ts own) (hM : vx_Met l y ws rm Pc Qc XC mc ms free) (cw : CallB R s args own index y bytes maxL ret ws rm mc ms n ∧ (Cond.static y).before args s = true) (hp : PreS s H Pc As)
    (hg : g.method = m) (hn : As.length = n) (hsize : g.locals.size = nL) (hstack : g.stack = As.reverse ++ rest) (hW : 2 * g.monitorRoom + (rest.map fun v => v.category).sum ≤ 8) (hdg : decode cc g.pc = .ok (.invokestatic index, 3)) (hf : cells + mc ≤ R.cells ∧ slots + ms ≤ R.slots) :
    vx_Run p l e R s m args below meth c H locs cells slots mc ms g rest (Qc As.toArray) XC free := by
  have hK : vx_Back l R p e below s args y 3 8 (PreOf R mc ms Pc) (PostOf Qc mc ms free) (vx_Post XC mc ms free) := vx_callBack cw.1 hM hp.1
  obtain ⟨⟨-, -, -, -, -, -, hcode, hini, hy, hlen, hl⟩, hstt⟩ := cw
  obtain ⟨hx, hb, hml, ho, -⟩ := S
  intro T hT X
  rcases vx_callS X hx (bytes := bytes) (maxL := maxL) (ret := ret) ho hl hstt hini hcode hy hK hg (hsize.trans hml.symm) (argsL := As) (rest := rest) (fun sig h => hn.trans (hlen sig h)) hstack hW (by rw [hb]; exact hdg)
    (fun vm₁ hW₁ => ⟨hf.1, hf.2, hp.2 (T.setVm vm₁) hT hW₁⟩) with ⟨v, vm₁, ⟨U', l2, c2, s2⟩, hW₁, X', ⟨g', mk, t, L, e1, e2, hq, h1, hL, h2, h3⟩, st⟩ | ⟨q, vm₁, ⟨U', l2, c2, s2⟩, hW₁, X', ⟨g', mk, t, L, E, ce, e1, e2, hq, hce, hcv, hcl, h1, hL, h2, h3⟩, st⟩
  · dsimp only [Pt.U, Pt.locs, Pt.cells, Pt.slots] at X' e1 e2 h1 h2 h3 st
    subst h1; subst h2; subst h3
    exact Or.inl ⟨v, (T.setVm vm₁).calling g' mk As.toArray, t, U', L, hT, X', hL, e1, e2, hq, st⟩
  · dsimp only [Pt.U, Pt.locs, Pt.cells, Pt.slots] at X' e1 e2 h1 h2 h3 st hcl
    subst h1; subst h2; subst h3
    exact Or.inr ⟨q, (T.setVm vm₁).calling g' mk As.toArray, t, U', L, E, ce, hT, X', hL, e1, e2, hq, hce, hcv, vx_cls hW₁ hcl, st⟩
end Runs
section Rows
variable {p : Program} {l : Launch} {e : Env} {R : Room} {s : State} {m : MethodId} {args : Array Value} {below : List Frame} {meth : Method} {c : Code} {H : Heap} {locs : List Loc} {cells slots : Nat} {Q : State → Prop}
variable {mc ms : Nat} {free : Addr → Prop} {A0 A1 : Nat → Prop} {H0 : Heap} {a : Array Value} {pc : Nat} {ls : Array Slot} {st0 rest : List Value}
theorem vx_keep {st₀ t T' : State} {L : List Loc} (h0 : st₀.heap = H) (e1 : T'.heap = t.heap) (hS : va_S A0 H0 H locs) (hA : ∀ q, q < H.size → A1 q → A0 q) (hf : ∀ q, free q → A0 q) (hL : ∀ q ∈ L, free q.base) (hF : va_F A1 st₀ t) :
    H.size ≤ T'.heap.size ∧ (∀ q : Nat, q < H.size → ¬ A1 q → T'.heap[q]? = H[q]?) ∧ va_S A0 H0 T'.heap (locs ++ L) := by
  obtain ⟨hz, hk⟩ := hF
  rw [h0] at hz hk
  exact ⟨by rw [e1]; exact hz, fun q h1 h2 => by rw [e1]; exact hk q h1 h2,
    ⟨Nat.le_trans hS.1 (by rw [e1]; exact hz), fun q h1 h2 => by rw [e1, hk q (Nat.lt_of_lt_of_le h1 hS.1) (fun z => h2 (hA q (Nat.lt_of_lt_of_le h1 hS.1) z))]; exact hS.2.1 q h1 h2, fun q hq => by
      rcases List.mem_append.mp hq with h | h
      · exact hS.2.2 q h
      · exact hf _ (hL q h)⟩⟩
theorem vx_calli {S SX : Type} {post : Int32 → S → Prop} {px : SX → Prop} {B : S → State → Prop} {BX : String → SX → State → Prop} {AX : Nat → Prop} (hr : vx_Run p l e R s m args below meth c H locs cells slots mc ms (F0 m pc ls st0) rest (va_Qi post B A1 a) (vx_X px BX AX) free) (hS : va_S A0 H0 H locs) (hA : ∀ q, q < H.size → A1 q → A0 q) (hf : ∀ q, free q → A0 q) (hAX : ∀ q, q < H.size → AX q → A0 q)
    (kx : ∀ (E : String) (ce : Cell) (q9 : Addr) (u : SX) (t : State) (H1 : Heap) (locs1 : List Loc), t.heap = H1 → s.vm.Alike t.vm → px u → BX E u t → H.size ≤ H1.size → (∀ q : Nat, q < H.size → ¬ AX q → H1[q]? = H[q]?) → va_S A0 H0 H1 locs1 → H1[q9]? = some ce → ce.vm = .none → s.vm.findClass E = some ce.cls → vx_W p l e R s m args below meth c H1 locs1 (cells + mc) (slots + ms) Q (F0 m pc ls rest) q9)
    (kk : ∀ (r : Int32) (u : S) (t : State) (H1 : Heap) (locs1 : List Loc), t.heap = H1 → s.vm.Alike t.vm → post r u → B u t → H.size ≤ H1.size → (∀ q : Nat, q < H.size → ¬ A1 q → H1[q]? = H[q]?) → va_S A0 H0 H1 locs1 → W p l e R s m args below meth c H1 locs1 (cells + mc) (slots + ms) Q (F0 m (pc + 3) ls (.int r :: rest))) : W p l e R s m args below meth c H locs cells slots Q (F0 m pc ls st0) := by
  intro T hT X
  rcases hr T hT X with ⟨v, st₀, t, T', L, h0, X', hL, e1, e2, ⟨⟨r, u, hv, hp, hb⟩, hF⟩, st⟩ | ⟨q, st₀, t, T', L, E, ce, h0, X', hL, e1, e2, ⟨u, hp, hb, hF⟩, hce, hcv, hcl, st⟩
  · cases hv
    obtain ⟨k1, k2, k3⟩ := vx_keep h0 e1 hS hA hf hL hF
    obtain ⟨t2, a1, b1⟩ := kk r u t T'.heap (locs ++ L) e1.symm (by rw [← e2]; exact X'.warmed.alike) hp hb k1 k2 k3 T' rfl X'
    exact ⟨t2, st t2 a1, b1⟩
  · obtain ⟨k1, k2, k3⟩ := vx_keep h0 e1 hS hAX hf hL hF
    obtain ⟨t2, a1, b1⟩ := kx E ce q u t T'.heap (locs ++ L) e1.symm (by rw [← e2]; exact X'.warmed.alike) hp hb k1 k2 k3 (by rw [e1]; exact hce) hcv hcl T' rfl X'
    exact ⟨t2, st.trans a1, b1⟩
theorem vx_calll {S SX : Type} {post : Int64 → S → Prop} {px : SX → Prop} {B : S → State → Prop} {BX : String → SX → State → Prop} {AX : Nat → Prop} (hr : vx_Run p l e R s m args below meth c H locs cells slots mc ms (F0 m pc ls st0) rest (va_Ql post B A1 a) (vx_X px BX AX) free) (hS : va_S A0 H0 H locs) (hA : ∀ q, q < H.size → A1 q → A0 q) (hf : ∀ q, free q → A0 q) (hAX : ∀ q, q < H.size → AX q → A0 q)
    (kx : ∀ (E : String) (ce : Cell) (q9 : Addr) (u : SX) (t : State) (H1 : Heap) (locs1 : List Loc), t.heap = H1 → s.vm.Alike t.vm → px u → BX E u t → H.size ≤ H1.size → (∀ q : Nat, q < H.size → ¬ AX q → H1[q]? = H[q]?) → va_S A0 H0 H1 locs1 → H1[q9]? = some ce → ce.vm = .none → s.vm.findClass E = some ce.cls → vx_W p l e R s m args below meth c H1 locs1 (cells + mc) (slots + ms) Q (F0 m pc ls rest) q9)
    (kk : ∀ (r : Int64) (u : S) (t : State) (H1 : Heap) (locs1 : List Loc), t.heap = H1 → s.vm.Alike t.vm → post r u → B u t → H.size ≤ H1.size → (∀ q : Nat, q < H.size → ¬ A1 q → H1[q]? = H[q]?) → va_S A0 H0 H1 locs1 → W p l e R s m args below meth c H1 locs1 (cells + mc) (slots + ms) Q (F0 m (pc + 3) ls (.long r :: rest))) : W p l e R s m args below meth c H locs cells slots Q (F0 m pc ls st0) := by
  intro T hT X
  rcases hr T hT X with ⟨v, st₀, t, T', L, h0, X', hL, e1, e2, ⟨⟨r, u, hv, hp, hb⟩, hF⟩, st⟩ | ⟨q, st₀, t, T', L, E, ce, h0, X', hL, e1, e2, ⟨u, hp, hb, hF⟩, hce, hcv, hcl, st⟩
  · cases hv
    obtain ⟨k1, k2, k3⟩ := vx_keep h0 e1 hS hA hf hL hF
    obtain ⟨t2, a1, b1⟩ := kk r u t T'.heap (locs ++ L) e1.symm (by rw [← e2]; exact X'.warmed.alike) hp hb k1 k2 k3 T' rfl X'
    exact ⟨t2, st t2 a1, b1⟩
  · obtain ⟨k1, k2, k3⟩ := vx_keep h0 e1 hS hAX hf hL hF
    obtain ⟨t2, a1, b1⟩ := kx E ce q u t T'.heap (locs ++ L) e1.symm (by rw [← e2]; exact X'.warmed.alike) hp hb k1 k2 k3 (by rw [e1]; exact hce) hcv hcl T' rfl X'
    exact ⟨t2, st.trans a1, b1⟩
theorem vx_callf {S SX : Type} {post : UInt32 → S → Prop} {px : SX → Prop} {B : S → State → Prop} {BX : String → SX → State → Prop} {AX : Nat → Prop} (hr : vx_Run p l e R s m args below meth c H locs cells slots mc ms (F0 m pc ls st0) rest (va_Qf post B A1 a) (vx_X px BX AX) free) (hS : va_S A0 H0 H locs) (hA : ∀ q, q < H.size → A1 q → A0 q) (hf : ∀ q, free q → A0 q) (hAX : ∀ q, q < H.size → AX q → A0 q)
    (kx : ∀ (E : String) (ce : Cell) (q9 : Addr) (u : SX) (t : State) (H1 : Heap) (locs1 : List Loc), t.heap = H1 → s.vm.Alike t.vm → px u → BX E u t → H.size ≤ H1.size → (∀ q : Nat, q < H.size → ¬ AX q → H1[q]? = H[q]?) → va_S A0 H0 H1 locs1 → H1[q9]? = some ce → ce.vm = .none → s.vm.findClass E = some ce.cls → vx_W p l e R s m args below meth c H1 locs1 (cells + mc) (slots + ms) Q (F0 m pc ls rest) q9)
    (kk : ∀ (r : UInt32) (u : S) (t : State) (H1 : Heap) (locs1 : List Loc), t.heap = H1 → s.vm.Alike t.vm → post r u → B u t → H.size ≤ H1.size → (∀ q : Nat, q < H.size → ¬ A1 q → H1[q]? = H[q]?) → va_S A0 H0 H1 locs1 → W p l e R s m args below meth c H1 locs1 (cells + mc) (slots + ms) Q (F0 m (pc + 3) ls (.float r :: rest))) : W p l e R s m args below meth c H locs cells slots Q (F0 m pc ls st0) := by
  intro T hT X
  rcases hr T hT X with ⟨v, st₀, t, T', L, h0, X', hL, e1, e2, ⟨⟨r, u, hv, hp, hb⟩, hF⟩, st⟩ | ⟨q, st₀, t, T', L, E, ce, h0, X', hL, e1, e2, ⟨u, hp, hb, hF⟩, hce, hcv, hcl, st⟩
  · cases hv
    obtain ⟨k1, k2, k3⟩ := vx_keep h0 e1 hS hA hf hL hF
    obtain ⟨t2, a1, b1⟩ := kk r u t T'.heap (locs ++ L) e1.symm (by rw [← e2]; exact X'.warmed.alike) hp hb k1 k2 k3 T' rfl X'
    exact ⟨t2, st t2 a1, b1⟩
  · obtain ⟨k1, k2, k3⟩ := vx_keep h0 e1 hS hAX hf hL hF
    obtain ⟨t2, a1, b1⟩ := kx E ce q u t T'.heap (locs ++ L) e1.symm (by rw [← e2]; exact X'.warmed.alike) hp hb k1 k2 k3 (by rw [e1]; exact hce) hcv hcl T' rfl X'
    exact ⟨t2, st.trans a1, b1⟩
theorem vx_calld {S SX : Type} {post : UInt64 → S → Prop} {px : SX → Prop} {B : S → State → Prop} {BX : String → SX → State → Prop} {AX : Nat → Prop} (hr : vx_Run p l e R s m args below meth c H locs cells slots mc ms (F0 m pc ls st0) rest (va_Qd post B A1 a) (vx_X px BX AX) free) (hS : va_S A0 H0 H locs) (hA : ∀ q, q < H.size → A1 q → A0 q) (hf : ∀ q, free q → A0 q) (hAX : ∀ q, q < H.size → AX q → A0 q)
    (kx : ∀ (E : String) (ce : Cell) (q9 : Addr) (u : SX) (t : State) (H1 : Heap) (locs1 : List Loc), t.heap = H1 → s.vm.Alike t.vm → px u → BX E u t → H.size ≤ H1.size → (∀ q : Nat, q < H.size → ¬ AX q → H1[q]? = H[q]?) → va_S A0 H0 H1 locs1 → H1[q9]? = some ce → ce.vm = .none → s.vm.findClass E = some ce.cls → vx_W p l e R s m args below meth c H1 locs1 (cells + mc) (slots + ms) Q (F0 m pc ls rest) q9)
    (kk : ∀ (r : UInt64) (u : S) (t : State) (H1 : Heap) (locs1 : List Loc), t.heap = H1 → s.vm.Alike t.vm → post r u → B u t → H.size ≤ H1.size → (∀ q : Nat, q < H.size → ¬ A1 q → H1[q]? = H[q]?) → va_S A0 H0 H1 locs1 → W p l e R s m args below meth c H1 locs1 (cells + mc) (slots + ms) Q (F0 m (pc + 3) ls (.double r :: rest))) : W p l e R s m args below meth c H locs cells slots Q (F0 m pc ls st0) := by
  intro T hT X
  rcases hr T hT X with ⟨v, st₀, t, T', L, h0, X', hL, e1, e2, ⟨⟨r, u, hv, hp, hb⟩, hF⟩, st⟩ | ⟨q, st₀, t, T', L, E, ce, h0, X', hL, e1, e2, ⟨u, hp, hb, hF⟩, hce, hcv, hcl, st⟩
  · cases hv
    obtain ⟨k1, k2, k3⟩ := vx_keep h0 e1 hS hA hf hL hF
    obtain ⟨t2, a1, b1⟩ := kk r u t T'.heap (locs ++ L) e1.symm (by rw [← e2]; exact X'.warmed.alike) hp hb k1 k2 k3 T' rfl X'
    exact ⟨t2, st t2 a1, b1⟩
  · obtain ⟨k1, k2, k3⟩ := vx_keep h0 e1 hS hAX hf hL hF
    obtain ⟨t2, a1, b1⟩ := kx E ce q u t T'.heap (locs ++ L) e1.symm (by rw [← e2]; exact X'.warmed.alike) hp hb k1 k2 k3 (by rw [e1]; exact hce) hcv hcl T' rfl X'
    exact ⟨t2, st.trans a1, b1⟩
theorem vx_callv {S SX : Type} {post : S → Prop} {px : SX → Prop} {B : S → State → Prop} {BX : String → SX → State → Prop} {AX : Nat → Prop} (hr : vx_Run p l e R s m args below meth c H locs cells slots mc ms (F0 m pc ls st0) rest (va_Qv post B A1 a) (vx_X px BX AX) free) (hS : va_S A0 H0 H locs) (hA : ∀ q, q < H.size → A1 q → A0 q) (hf : ∀ q, free q → A0 q) (hAX : ∀ q, q < H.size → AX q → A0 q)
    (kx : ∀ (E : String) (ce : Cell) (q9 : Addr) (u : SX) (t : State) (H1 : Heap) (locs1 : List Loc), t.heap = H1 → s.vm.Alike t.vm → px u → BX E u t → H.size ≤ H1.size → (∀ q : Nat, q < H.size → ¬ AX q → H1[q]? = H[q]?) → va_S A0 H0 H1 locs1 → H1[q9]? = some ce → ce.vm = .none → s.vm.findClass E = some ce.cls → vx_W p l e R s m args below meth c H1 locs1 (cells + mc) (slots + ms) Q (F0 m pc ls rest) q9)
    (kk : ∀ (u : S) (t : State) (H1 : Heap) (locs1 : List Loc), t.heap = H1 → s.vm.Alike t.vm → post u → B u t → H.size ≤ H1.size → (∀ q : Nat, q < H.size → ¬ A1 q → H1[q]? = H[q]?) → va_S A0 H0 H1 locs1 → W p l e R s m args below meth c H1 locs1 (cells + mc) (slots + ms) Q (F0 m (pc + 3) ls (rest))) : W p l e R s m args below meth c H locs cells slots Q (F0 m pc ls st0) := by
  intro T hT X
  rcases hr T hT X with ⟨v, st₀, t, T', L, h0, X', hL, e1, e2, ⟨⟨u, hv, hp, hb⟩, hF⟩, st⟩ | ⟨q, st₀, t, T', L, E, ce, h0, X', hL, e1, e2, ⟨u, hp, hb, hF⟩, hce, hcv, hcl, st⟩
  · cases hv
    obtain ⟨k1, k2, k3⟩ := vx_keep h0 e1 hS hA hf hL hF
    obtain ⟨t2, a1, b1⟩ := kk u t T'.heap (locs ++ L) e1.symm (by rw [← e2]; exact X'.warmed.alike) hp hb k1 k2 k3 T' rfl X'
    exact ⟨t2, st t2 a1, b1⟩
  · obtain ⟨k1, k2, k3⟩ := vx_keep h0 e1 hS hAX hf hL hF
    obtain ⟨t2, a1, b1⟩ := kx E ce q u t T'.heap (locs ++ L) e1.symm (by rw [← e2]; exact X'.warmed.alike) hp hb k1 k2 k3 (by rw [e1]; exact hce) hcv hcl T' rfl X'
    exact ⟨t2, st.trans a1, b1⟩
/-- caught by the row x of this method's table; the rows ahead don't take it -/
theorem vx_catch {own name : String} {E : String} {ce : Cell} {q : Addr} (hown : s.vm.findClass own = some m.cls) (pre : List ExceptionTableEntry) (x : ExceptionTableEntry) (suf : List ExceptionTableEntry) (hsplit : c.exceptionTable.toList = pre ++ x :: suf)
    (hpass : ∀ z ∈ pre, covers z pc = false ∨ (z.catchType ≠ 0 ∧ ∃ nm : String, (Cond.classLink own z.catchType nm).before args s = true ∧ va_Nc E nm s)) (hx : covers x pc = true) (h0 : x.catchType ≠ 0)
    (hlink : (Cond.classLink own x.catchType name).before args s = true) (hcast : (Cond.castable E name).before args s = true) (hcell : H[q]? = some ce) (hv : ce.vm = .none) (hcl : s.vm.findClass E = some ce.cls)
    (kk : W p l e R s m args below meth c H locs cells slots Q (F0 m x.handlerPc ls [.ref q])) : vx_W p l e R s m args below meth c H locs cells slots Q (F0 m pc ls rest) q := by
  intro T hT X
  have hpl : e.platform.magicAccessors = ({} : Platform).magicAccessors := by rw [X.admits.platform]
  obtain ⟨c3, c4, hc3, hc4, hasg⟩ := Cond.castable_spec hcast
  cases Option.some.inj (hc3.symm.trans hcl)
  obtain ⟨c5, hc5, hcl5⟩ := Cond.classLink_spec hown hlink e.platform hpl
  cases Option.some.inj (hc4.symm.trans hc5)
  obtain ⟨vm', X', st⟩ := X.thenCaughtThrough q (g := F0 m pc ls rest) rfl (Steps.refl _) (by rw [hT]; exact hcell) (by rw [hv]; rfl) (by obtain ⟨k9, h9, -⟩ := Vm.findClass_spec hcl; exact ⟨k9, h9⟩) pre x suf hsplit
    (fun z hz => by
      rcases hpass z hz with h | ⟨hz0, nm, hl1, hn1⟩
      · exact Or.inl h
      · obtain ⟨c6, hc6, hcl6⟩ := Cond.classLink_spec hown hl1 e.platform hpl
        obtain ⟨a8, b8, h1, h2, h3⟩ := hn1
        cases Option.some.inj (h1.symm.trans hcl)
        cases Option.some.inj (h2.symm.trans hc6)
        exact Or.inr ⟨hz0, _, hcl6, h3⟩) hx (Or.inr ⟨h0, c4, hcl5, hasg⟩)
  obtain ⟨t, a1, b1⟩ := kk (T.setVm vm') hT X'
  exact ⟨t, st.trans a1, b1⟩
end Rows
section Ends
variable {p : Program} {l : Launch} {e : Env} {R : Room} {s : State} {m : MethodId} {args : Array Value} {below : List Frame} {meth : Method} {c : Code} {H : Heap} {locs : List Loc} {cells slots : Nat} {Q : State → Prop}
variable {mc ms : Nat} {free : Addr → Prop} {A0 A1 : Nat → Prop} {H0 : Heap} {a : Array Value} {ls : Array Slot} {st0 rest : List Value}
variable {Qc : Array Value → State → Outcome → State → Prop} {XC : String → State → State → Prop}
/-- what a body that may throw owes at its end -/
def vx_MQ (below : List Frame) (Qc : Array Value → State → Outcome → State → Prop) (XC : String → State → State → Prop) (a : Array Value) (s : State) (mc ms : Nat) (free : Addr → Prop) : State → Prop := fun t =>
  ∃ o, t.status = .running ∧ Ended t below o ∧ vx_Q Qc XC mc ms free a s o t
theorem vx_ret {g : JFrame} {mc ms : Nat} (k : W p l e R s m args below meth c H locs cells slots (MQ below Qc args s mc ms free) g) : W p l e R s m args below meth c H locs cells slots (vx_MQ below Qc XC args s mc ms free) g := by
  intro T hT X
  obtain ⟨t, a1, o, b1, b2, b3, b4⟩ := k T hT X
  exact ⟨t, a1, o, b1, b2, Or.inl ⟨b3, b4⟩⟩
/-- not caught here: it goes on to the caller -/
theorem vx_widen {g : JFrame} {q : Addr} {k n : Nat} (h1 : cells ≤ k) (h2 : slots ≤ n) (kk : vx_W p l e R s m args below meth c H locs k n Q g q) : vx_W p l e R s m args below meth c H locs cells slots Q g q := fun T hT X => kk T hT (stand_widen X h1 h2)
theorem vx_out {pc : Nat} {E : String} {ce : Cell} {q : Addr} {mc ms : Nat} (hout : ∀ x ∈ c.exceptionTable.toList, covers x pc = false) (hlocks : meth.locks = false) (hcell : H[q]? = some ce) (hv : ce.vm = .none) (hcl : s.vm.findClass E = some ce.cls)
    (hx : ∀ t : State, t.heap = H → s.vm.Alike t.vm → XC E s t) (hf : ∀ z ∈ locs, free z.base) (hc : cells ≤ mc) (hs : slots ≤ ms) :
    vx_W p l e R s m args below meth c H locs cells slots (vx_MQ below Qc XC args s mc ms free) (F0 m pc ls rest) q := by
  intro T hT X
  obtain ⟨st1, hrun, hend, hW, hsm⟩ := X.leaveThrown q (g := F0 m pc ls rest) rfl rfl rfl hout hlocks
  have hcell9 : (T.setFrames (.throwing q :: below)).heap[q]? = some ce := by
    show T.heap[q]? = some ce
    rw [hT]; exact hcell
  exact ⟨_, st1, .threw q, hrun, hend, Or.inr ⟨q, rfl, E, ce, locs, hx _ hT hW.alike, hcell9, hv, hcl, hW, hsm.mono hc hs, hf⟩⟩
theorem vx_frame {U : State} {k n : Nat} (h : s.sameButNew ({ U with vm := s.vm } : State) locs k n) : s.heap.size ≤ U.heap.size ∧ ∀ q : Nat, q < s.heap.size → (∀ z ∈ locs, z.base ≠ q) → U.heap[q]? = s.heap[q]? := by
  obtain ⟨-, h2, -, -, -, h6⟩ := h
  refine ⟨h2, fun q hq hz => ?_⟩
  obtain ⟨c9, e1, e2, e3, e4⟩ := h6 q _ (Array.getElem?_eq_getElem hq)
  have hs : c9.slots = (s.heap[q]).slots := Array.ext_getElem? fun i => e4 i fun hm => hz _ hm rfl
  have h9 : c9 = s.heap[q] := by
    rw [hs] at e2
    exact e2
  have e5 : U.heap[q]? = some c9 := e1
  rw [e5, h9, Array.getElem?_eq_getElem hq]
/-- the words of a throw but the four that speak of the heap -/
def vx_no (w : Cond) : Bool := decide (w ≠ .isRef (.static Bundle.tN "UNASSIGNED_STACK" Bundle.steD)) && decide (w ≠ .isRef (.static Bundle.tN "SUPPRESSED_SENTINEL" Bundle.listD)) && decide (w ≠ .laysStatic Bundle.tN "UNASSIGNED_STACK" Bundle.steD) && decide (w ≠ .laysStatic Bundle.tN "SUPPRESSED_SENTINEL" Bundle.listD)
def vx_at0 (own : String) (ic : Nat) (X : String) (names : List String) : List Cond := (Bundle.ownAtoms0 own ic X names).filter vx_no
def vx_atS (own : String) (ic : Nat) (X : String) (names : List String) : List Cond := (Bundle.ownAtoms own ic X names).filter vx_no
/-- a word that the tables alone decide, or a good one -/
def vx_ot (w : Cond) : Bool := w.onTables || goodWord w
theorem vx_ot_at {args a' : Array Value} {s U : State} {w : Cond} (hW : s.WarmedH U.vm) (hvm : s.vm = U.vm) (hg : vx_ot w = true) (h : w.before args s = true) : w.before a' U = true := by
  simp only [vx_ot, Bool.or_eq_true] at hg
  rcases hg with hg | hg
  · exact va_tabs hg hvm h
  · exact word_at hW (good_of_word hg) h
/-- a list's words: the good ones out of the method's own list, the others by premises of their own -/
theorem vx_hat {args : Array Value} {s : State} {L B : List Cond} (h1 : ∀ w ∈ L.filter goodWord, w.before args s = true) (h2 : ∀ w ∈ L.filter (fun w => !goodWord w), w ∈ B) (h3 : ∀ w ∈ B, w.before args s = true) : ∀ w ∈ L, w.before args s = true := by
  intro w hw
  by_cases g : goodWord w = true
  · exact h1 w (List.mem_filter.mpr ⟨hw, g⟩)
  · refine h3 w (h2 w (List.mem_filter.mpr ⟨hw, ?_⟩))
    show (!goodWord w) = true
    cases hgw : goodWord w
    · rfl
    · exact absurd hgw g
theorem vx_c {args : Array Value} {s : State} {w : Cond} {B : List Cond} (h : w.before args s = true) (t : ∀ w ∈ B, w.before args s = true) : ∀ w' ∈ w :: B, w'.before args s = true := fun w' h' => (List.mem_cons.mp h').elim (fun e => by rw [e]; exact h) (t w')
theorem vx_n {args : Array Value} {s : State} : ∀ w ∈ ([] : List Cond), w.before args s = true := fun _ h => nomatch h
theorem vx_own {args : Array Value} {s : State} {L : List Cond} (h1 : ∀ w ∈ L.filter vx_no, w.before args s = true)
    (hU : (Cond.isRef (.static Bundle.tN "UNASSIGNED_STACK" Bundle.steD)).before args s = true) (hN : (Cond.isRef (.static Bundle.tN "SUPPRESSED_SENTINEL" Bundle.listD)).before args s = true)
    (lU : (Cond.laysStatic Bundle.tN "UNASSIGNED_STACK" Bundle.steD).before args s = true) (lN : (Cond.laysStatic Bundle.tN "SUPPRESSED_SENTINEL" Bundle.listD).before args s = true) : ∀ w ∈ L, w.before args s = true := by
  intro w hw
  by_cases e1 : w = .isRef (.static Bundle.tN "UNASSIGNED_STACK" Bundle.steD)
  · rw [e1]; exact hU
  · by_cases e2 : w = .isRef (.static Bundle.tN "SUPPRESSED_SENTINEL" Bundle.listD)
    · rw [e2]; exact hN
    · by_cases e3 : w = .laysStatic Bundle.tN "UNASSIGNED_STACK" Bundle.steD
      · rw [e3]; exact lU
      · by_cases e4 : w = .laysStatic Bundle.tN "SUPPRESSED_SENTINEL" Bundle.listD
        · rw [e4]; exact lN
        · exact h1 w (List.mem_filter.mpr ⟨hw, by unfold vx_no; rw [decide_eq_true e1, decide_eq_true e2, decide_eq_true e3, decide_eq_true e4]; rfl⟩)
/-- where a static field lies, its class's statics cell in H -/
def vx_L (C n d : String) (A : Nat → Prop) (U : State) (H : Heap) : Prop := ∃ (c : ClassId) (k : Class) (i : Nat) (f : Field) (a : Nat) (cell : Cell), U.vm.findClass C = some c ∧ U.fieldFound? C n d = some (c, k, i, f) ∧ f.isStatic = true ∧ k.statics = some a ∧ H[a]? = some cell ∧ cell.vm.isStatics = true ∧ cell.cls = c ∧ f.slot < cell.slots.size ∧ k.staticTypes[f.slot]? = some f.type ∧ ¬ A a
theorem vx_L.moved {C n d : String} {A : Nat → Prop} {u U : State} {H : Heap} (hvm : u.vm.Alike U.vm) (h : vx_L C n d A u H) : vx_L C n d A U H := by
  obtain ⟨c, k, i, f, a, cell, h1, h2, h3, h4, h5, h6, h7, h8, h9, h10⟩ := h
  obtain ⟨k', hi', he⟩ := State.fieldFound?_setVm hvm h2
  exact ⟨c, k', i, f, a, cell, by rw [hvm.findClass]; exact h1, hi', h3, by rw [he]; exact h4, h5, h6, h7, h8, by rw [he]; exact h9, h10⟩
theorem vx_L.kept {C n d : String} {A : Nat → Prop} {U : State} {H H1 : Heap} (h : vx_L C n d A U H) (hq : ∀ a : Nat, a < H.size → ¬ A a → H1[a]? = H[a]?) : vx_L C n d A U H1 := by
  obtain ⟨c, k, i, f, a, cell, h1, h2, h3, h4, h5, h6, h7, h8, h9, h10⟩ := h
  exact ⟨c, k, i, f, a, cell, h1, h2, h3, h4, by rw [hq a (Array.getElem?_eq_some_iff.mp h5).1 h10]; exact h5, h6, h7, h8, h9, h10⟩
theorem vx_L.narrow {C n d : String} {A B : Nat → Prop} {U : State} {H : Heap} (h : vx_L C n d A U H) (hAB : ∀ q, B q → A q) : vx_L C n d B U H := by
  obtain ⟨c, k, i, f, a, cell, h1, h2, h3, h4, h5, h6, h7, h8, h9, h10⟩ := h
  exact ⟨c, k, i, f, a, cell, h1, h2, h3, h4, h5, h6, h7, h8, h9, fun z => h10 (hAB _ z)⟩
theorem vx_L.word {C n d : String} {A : Nat → Prop} {s : State} {args : Array Value} (h : vx_L C n d A s s.heap) : (Cond.laysStatic C n d).before args s = true := by
  obtain ⟨c, k, i, f, a, cell, h1, h2, h3, h4, h5, h6, h7, h8, h9, -⟩ := h
  show (Cond.laysStatic C n d).holds args s none s [] = true
  exact Cond.laysStatic_of h1 h2 h3 h4 h5 h6 h7 h8 h9
/-- .. and what it holds: null or some reference -/
def vx_Zq (C n d : String) (A : Nat → Prop) (U : State) (H : Heap) : Prop := va_Zq C n d A U H ∧ vx_L C n d A U H
theorem vx_Zq.moved {C n d : String} {A : Nat → Prop} {u U : State} {H : Heap} (hvm : u.vm.Alike U.vm) (h : vx_Zq C n d A u H) : vx_Zq C n d A U H := ⟨va_Zq.moved hvm h.1, vx_L.moved hvm h.2⟩
theorem vx_Zq.kept {C n d : String} {A : Nat → Prop} {U : State} {H H1 : Heap} (h : vx_Zq C n d A U H) (hq : ∀ a : Nat, a < H.size → ¬ A a → H1[a]? = H[a]?) : vx_Zq C n d A U H1 := ⟨va_Zq.kept h.1 hq, vx_L.kept h.2 hq⟩
theorem vx_Zq.narrow {C n d : String} {A B : Nat → Prop} {U : State} {H : Heap} (h : vx_Zq C n d A U H) (hAB : ∀ q, B q → A q) : vx_Zq C n d B U H := ⟨va_Zq.narrow h.1 hAB, vx_L.narrow h.2 hAB⟩
theorem vx_Zqof {args : Array Value} {s : State} {C n d : String} {A : Nat → Prop} (hl : (Cond.laysStatic C n d).before args s = true) (hini : (Cond.initialized C).before args s = true) (h : (Cond.isRef (.static C n d)).before args s = true) (hA : ∀ a : Nat, a < s.heap.size → ¬ A a) : vx_Zq C n d A s s.heap := by
  refine ⟨va_Zqof hl hini h hA, ?_⟩
  obtain ⟨c, k, i, f, a, cell, h1, h2, h3, h4, h5, h6, h7, h8, h9⟩ := Cond.laysStatic_spec hl
  exact ⟨c, k, i, f, a, cell, h1, h2, h3, h4, h5, h6, h7, h8, h9, hA a (Array.getElem?_eq_some_iff.mp h5).1⟩
theorem vx_isRef {C n d : String} {v : Value} {A : Nat → Prop} {s : State} {args : Array Value} (h : va_Z C n d v A s s.heap) (hv : v.isRef = true) : (Cond.isRef (.static C n d)).before args s = true := by
  obtain ⟨cf, kf, fi, f, a, cell, h1, h2, h3, h4, h5, h6, h7, -⟩ := h
  have he : (Term.static C n d).eval args s none [] s = some v := by
    simp [Term.eval, State.fieldNamed?, h1, h2, h4, h5, h6, h7]
  simp only [Cond.before, Cond.holds, Cond.value, he]
  cases v <;> simp_all [Value.isRef]
theorem vx_isRefq {C n d : String} {A : Nat → Prop} {s : State} {args : Array Value} (h : va_Zq C n d A s s.heap) : (Cond.isRef (.static C n d)).before args s = true := by
  rcases h with h | ⟨t, h⟩
  · exact vx_isRef h rfl
  · exact vx_isRef h rfl
/-- the same frame, seen from here: as if the method were called anew in this heap -/
theorem vx_rebase {T : State} (X : Stand p l e R s m args below meth c T locs cells slots) {R' : Room} (hf : R'.frames ≤ R.frames) (hl : R'.locals ≤ R.locals) (hc : cells + R'.cells ≤ R.cells) (hs : slots + R'.slots ≤ R.slots) :
    Stand p l e R' ((T.setVm s.vm).setFrames (.invoking m args :: below)) m args below meth c T [] 0 0 := by
  have htop : (T.setVm s.vm).topJava?.isSome := X.here.top
  have hF : ((T.setVm s.vm).setFrames (.invoking m args :: below)).frames = .invoking m args :: below := State.frames_setFrames _ (State.cur_lt_of_top htop)
  obtain ⟨g₀, hg0⟩ := Option.isSome_iff_exists.mp htop
  obtain ⟨r, hr⟩ := State.topJava?_eq_some.mp hg0
  have hl9 : e.platform.stackLimits (T.setVm s.vm).me = e.platform.stackLimits s.me := X.limits
  have hb9 : (T.setVm s.vm).me.stackBytes = s.me.stackBytes := X.bytes
  refine ⟨X.admits, X.cas, X.clock, hF, ?_, X.hears, X.method, X.code, X.here, X.tail, X.warmed, ?_, ?_, ?_⟩
  · have h := X.room
    have hU : ((T.setVm s.vm).setFrames (.invoking m args :: below)).localsInUse = s.localsInUse := by
      rw [State.localsInUse_invoking hF (meth := meth) (c := c) X.method X.code, State.localsInUse_invoking X.frames X.method X.code]
    simp only [State.hasRoom, Bool.and_eq_true, decide_eq_true_eq] at h ⊢
    obtain ⟨⟨⟨⟨h1, h2, h3, h4, h5, h6⟩, h7⟩, h8⟩, h9⟩ := h
    rw [X.frames, List.length_cons] at h2 h3
    have q1 := X.heapSize
    have q2 := X.used
    simp only [hF, hU, List.length_cons, State.stackLimits_setFrames, State.stackBytes_setFrames, hl9, hb9]
    refine ⟨⟨⟨⟨by omega, by omega, by omega, by omega, by omega, h6⟩, ?_⟩, ?_⟩, X.book⟩
    · show T.heap.size + R'.cells ≤ e.platform.maxCells
      omega
    · show T.slotsUsed + R'.slots ≤ e.platform.maxSlots
      omega
  · rw [State.stackLimits_setFrames]; rfl
  · rw [State.stackBytes_setFrames]; rfl
  · refine ⟨?_, Nat.le_refl _, Nat.le_refl _, ?_, ?_, fun a c9 h9 => ⟨c9, h9, rfl, rfl, fun _ _ => rfl⟩⟩
    · obtain ⟨t, ht, -⟩ := State.frames_cons hr
      show T.setVm s.vm = { ((T.setVm s.vm).setFrames (.invoking m args :: below)).setFrames (T.setVm s.vm).frames with heap := T.heap, slotsUsed := T.slotsUsed }
      rw [State.setFrames_setFrames, State.setFrames_self ht]
      rfl
    · show T.slotsUsed = T.slotsUsed + ((T.heap.toList.drop T.heap.size).map (·.slots.size)).sum
      rw [List.drop_eq_nil_of_le (Nat.le_of_eq Array.length_toList)]
      rfl
    · show ((T.heap.toList.drop T.heap.size).map (·.slots.size)).sum ≤ 0
      rw [List.drop_eq_nil_of_le (Nat.le_of_eq Array.length_toList)]
      exact Nat.le_refl _
/-- 'throw new E()': new; dup; invokespecial; athrow -/
theorem vx_throw0 {cc : ByteArray} {pc : Nat} (hexec : p.tables.exec = Jvm.exec) (hb : c.code = cc) (hl : l.stackTraces = false) {own cls : String} {names : List String} {ik ic mc ms : Nat} {A : Nat → Prop}
    (hown : s.vm.findClass own = some m.cls) (hcls : Bundle.fit cls = true) (hnames : ∀ n ∈ names, Bundle.fit n = true)
    (hk : (Cond.classLink own ik cls).before args s = true) (hini : (Cond.initialized cls).before args s = true) (hat : ∀ w ∈ vx_at0 own ic cls names, w.before args s = true)
    (hgood : ∀ w ∈ Cond.classLink own ik cls :: Cond.initialized cls :: vx_at0 own ic cls names, vx_ot w = true)
    (hU : vx_Zq Bundle.tN "UNASSIGNED_STACK" Bundle.steD A s s.heap) (hN : vx_Zq Bundle.tN "SUPPRESSED_SENTINEL" Bundle.listD A s s.heap) (hS : va_S A s.heap H locs) (hsize : ls.size = c.maxLocals)
    (d0 : decode cc pc = .ok (.new ik, 3)) (d3 : decode cc (pc + 3) = .ok (.dup, 1)) (d4 : decode cc (pc + 4) = .ok (.invokespecial ic, 3)) (d7 : decode cc (pc + 7) = .ok (.athrow, 1))
    (hout : ∀ x ∈ c.exceptionTable.toList, covers x (pc + 7) = false)
    (hRframes : names.length + 3 < R.frames) (hRlocals : (rest.map fun v => v.category).sum + (13 * (names.length + 1) + 42) ≤ R.locals) (hRcells : cells + 1 ≤ R.cells) (hRslots : slots + 6 ≤ R.slots) (hlocks : meth.locks = false)
    (hx : ∀ t : State, s.vm.Alike t.vm → H.size ≤ t.heap.size → (∀ q : Nat, q < H.size → t.heap[q]? = H[q]?) → XC cls s t)
    (hf : ∀ z ∈ locs, free z.base) (hc : cells + 1 ≤ mc) (hs : slots + 6 ≤ ms) :
    W p l e R s m args below meth c H locs cells slots (vx_MQ below Qc XC args s mc ms free) (F0 m pc ls rest) := by
  intro T hT X
  have htr : e.platform.stackTraces = false := (show e.platform.stackTraces = l.stackTraces by rw [X.admits.platform]).trans hl
  have Y := vx_rebase X (R' := { frames := R.frames, locals := R.locals, cells := 1, slots := 6 }) (Nat.le_refl _) (Nat.le_refl _) hRcells hRslots
  obtain ⟨s', hA⟩ : ∃ z, z = (T.setVm s.vm).setFrames (.invoking m args :: below) := ⟨_, rfl⟩
  rw [← hA] at Y
  have hvm : s'.vm = s.vm := by rw [hA]; rfl
  have hhp : s'.heap = H := by rw [hA]; exact hT
  have hW0 : s.WarmedH s'.vm := by rw [hvm]; exact State.WarmedH.refl s
  have hat' : ∀ w ∈ vx_at0 own ic cls names, w.before args s' = true := fun w hw => vx_ot_at hW0 hvm.symm (hgood w (List.mem_cons_of_mem _ (List.mem_cons_of_mem _ hw))) (hat w hw)
  have hk' : (Cond.classLink own ik cls).before args s' = true := vx_ot_at hW0 hvm.symm (hgood _ List.mem_cons_self) hk
  have hini' : (Cond.initialized cls).before args s' = true := vx_ot_at hW0 hvm.symm (hgood _ (List.mem_cons_of_mem _ List.mem_cons_self)) hini
  have hU' : vx_Zq Bundle.tN "UNASSIGNED_STACK" Bundle.steD A s' s'.heap := by rw [hhp]; exact vx_Zq.moved hW0.alike (hU.kept hS.2.1)
  have hN' : vx_Zq Bundle.tN "SUPPRESSED_SENTINEL" Bundle.listD A s' s'.heap := by rw [hhp]; exact vx_Zq.moved hW0.alike (hN.kept hS.2.1)
  have h : ∀ w ∈ Bundle.ownAtoms0 own ic cls names, w.before args s' = true := vx_own hat' (vx_isRefq hU'.1) (vx_isRefq hN'.1) hU'.2.word hN'.2.word
  have hown' : s'.vm.findClass own = some m.cls := by rw [hvm]; exact hown
  have hins : (Cond.instantiable cls 6).before args s' = true := h _ (by simp [Bundle.ownAtoms0])
  obtain ⟨vm₁, cX, kX, hfX, hkX, -, -, X₁, st1⟩ := Y.newCold hexec (own := own) (C := cls) (index := ik) (n := 6) hown' hk' hins hini'
    (g := F0 m pc ls rest) rfl (by rw [hb]; exact d0) (Nat.le_refl _) (Nat.le_refl _)
  generalize hT1 : (T.setVm vm₁).pushCell { cls := cX, slots := kX.instanceTypes.map defaultValue, vm := .none } = T1 at X₁ st1
  have hcat : (Value.ref T.heap.size).category = 1 := rfl
  have hcellA : T1.heap[T.heap.size]? = some (freshCell cX kX) := by rw [← hT1]; exact State.heap_pushCell_size _ _
  have d3' : decode c.code (pc + 3) = .ok (.dup, 1) := by rw [hb]; exact d3
  obtain ⟨U, hsteps, hrun, hend, hW, hsame, ce, hce, hO⟩ := X₁.ctorThrow0 hexec htr (own := own) (cls := cls) (names := names) (ic := ic) hown' hcls hnames h (fun x hx => nomatch hx) hfX hkX hcellA (by rw [hhp, hT]; exact Nat.le_refl _)
    (g := { method := m, pc := pc + 4, locals := ls, stack := .ref T.heap.size :: .ref T.heap.size :: rest, locked := none }) rfl hsize rfl rfl (rest := rest) rfl
    (by rw [hb]; exact d4) (by rw [hb]; exact d7) hout hRframes (by simp only [List.map_cons, List.sum_cons, hcat]; omega) hlocks
  obtain ⟨f1, f2⟩ := vx_frame hsame
  rw [hhp] at f1 f2
  have hWs : s.WarmedH U.vm := State.WarmedH.trans hW0 hW
  have hcl : s.vm.findClass cls = some ce.cls := by
    have h9 := hO.cls
    rw [hvm] at h9
    exact h9
  have hall : s.sameButNew ({ U with vm := s.vm } : State) locs mc ms := by
    subst hA
    obtain ⟨e1, e2⟩ := hsame
    rw [State.setFrames_setFrames] at e1
    have h2 : (T.setVm s.vm).sameButNew ({ U with vm := s.vm } : State) [] (0 + 1) (0 + 6) := ⟨e1, e2⟩
    have h3 := X.same.trans h2
    rw [List.append_nil] at h3
    exact h3.mono hc hs
  refine ⟨U, ?_, .threw T.heap.size, hrun, hend, Or.inr ⟨T.heap.size, rfl, cls, ce, locs, hx U hWs.alike f1 (fun q hq => f2 q hq (fun z hz => nomatch hz)), hce, hO.vm, hcl, hWs, hall, hf⟩⟩
  refine st1 _ ?_
  show Steps p.tables e below (T1.setTop { method := m, pc := pc + 3, locals := ls, stack := .ref T.heap.size :: rest, locked := none }) _
  jvm_step X₁.here [X₁.here.top, hexec, d3', Value.category]
  exact hsteps
/-- 'throw new E("text")': new; dup; ldc; invokespecial; athrow -/
theorem vx_throwS {cc : ByteArray} {pc : Nat} (hexec : p.tables.exec = Jvm.exec) (hb : c.code = cc) (hl : l.stackTraces = false) {own cls text : String} {names : List String} {ik is ic mc ms sa : Nat} {A : Nat → Prop}
    (hown : s.vm.findClass own = some m.cls) (hcls : Bundle.fit cls = true) (hnames : ∀ n ∈ names, Bundle.fit n = true)
    (hk : (Cond.classLink own ik cls).before args s = true) (hini : (Cond.initialized cls).before args s = true) (hstr : vk_R own is text sa s) (hat : ∀ w ∈ vx_atS own ic cls names, w.before args s = true)
    (hgood : ∀ w ∈ Cond.classLink own ik cls :: Cond.initialized cls :: vx_atS own ic cls names, vx_ot w = true)
    (hU : vx_Zq Bundle.tN "UNASSIGNED_STACK" Bundle.steD A s s.heap) (hN : vx_Zq Bundle.tN "SUPPRESSED_SENTINEL" Bundle.listD A s s.heap) (hS : va_S A s.heap H locs) (hsize : ls.size = c.maxLocals)
    (d0 : decode cc pc = .ok (.new ik, 3)) (d3 : decode cc (pc + 3) = .ok (.dup, 1)) (d4 : decode cc (pc + 4) = .ok (.ldc is, 2)) (d6 : decode cc (pc + 6) = .ok (.invokespecial ic, 3)) (d9 : decode cc (pc + 9) = .ok (.athrow, 1))
    (hout : ∀ x ∈ c.exceptionTable.toList, covers x (pc + 9) = false)
    (hRframes : names.length + 3 < R.frames) (hRlocals : (rest.map fun v => v.category).sum + (13 * (names.length + 1) + 43) ≤ R.locals) (hRcells : cells + 1 ≤ R.cells) (hRslots : slots + 6 ≤ R.slots) (hlocks : meth.locks = false)
    (hx : ∀ t : State, s.vm.Alike t.vm → H.size ≤ t.heap.size → (∀ q : Nat, q < H.size → t.heap[q]? = H[q]?) → XC cls s t)
    (hf : ∀ z ∈ locs, free z.base) (hc : cells + 1 ≤ mc) (hs : slots + 6 ≤ ms) :
    W p l e R s m args below meth c H locs cells slots (vx_MQ below Qc XC args s mc ms free) (F0 m pc ls rest) := by
  intro T hT X
  have htr : e.platform.stackTraces = false := (show e.platform.stackTraces = l.stackTraces by rw [X.admits.platform]).trans hl
  have Y := vx_rebase X (R' := { frames := R.frames, locals := R.locals, cells := 1, slots := 6 }) (Nat.le_refl _) (Nat.le_refl _) hRcells hRslots
  obtain ⟨s', hA⟩ : ∃ z, z = (T.setVm s.vm).setFrames (.invoking m args :: below) := ⟨_, rfl⟩
  rw [← hA] at Y
  have hvm : s'.vm = s.vm := by rw [hA]; rfl
  have hhp : s'.heap = H := by rw [hA]; exact hT
  have hW0 : s.WarmedH s'.vm := by rw [hvm]; exact State.WarmedH.refl s
  have hat' : ∀ w ∈ vx_atS own ic cls names, w.before args s' = true := fun w hw => vx_ot_at hW0 hvm.symm (hgood w (List.mem_cons_of_mem _ (List.mem_cons_of_mem _ hw))) (hat w hw)
  have hk' : (Cond.classLink own ik cls).before args s' = true := vx_ot_at hW0 hvm.symm (hgood _ List.mem_cons_self) hk
  have hini' : (Cond.initialized cls).before args s' = true := vx_ot_at hW0 hvm.symm (hgood _ (List.mem_cons_of_mem _ List.mem_cons_self)) hini
  have hU' : vx_Zq Bundle.tN "UNASSIGNED_STACK" Bundle.steD A s' s'.heap := by rw [hhp]; exact vx_Zq.moved hW0.alike (hU.kept hS.2.1)
  have hN' : vx_Zq Bundle.tN "SUPPRESSED_SENTINEL" Bundle.listD A s' s'.heap := by rw [hhp]; exact vx_Zq.moved hW0.alike (hN.kept hS.2.1)
  have h : ∀ w ∈ Bundle.ownAtoms own ic cls names, w.before args s' = true := vx_own hat' (vx_isRefq hU'.1) (vx_isRefq hN'.1) hU'.2.word hN'.2.word
  have hown' : s'.vm.findClass own = some m.cls := by rw [hvm]; exact hown
  have hins : (Cond.instantiable cls 6).before args s' = true := h _ (by simp [Bundle.ownAtoms])
  obtain ⟨vm₁, cX, kX, hfX, hkX, -, -, X₁, st1⟩ := Y.newCold hexec (own := own) (C := cls) (index := ik) (n := 6) hown' hk' hins hini'
    (g := F0 m pc ls rest) rfl (by rw [hb]; exact d0) (Nat.le_refl _) (Nat.le_refl _)
  generalize hT1 : (T.setVm vm₁).pushCell { cls := cX, slots := kX.instanceTypes.map defaultValue, vm := .none } = T1 at X₁ st1
  have hcat : (Value.ref T.heap.size).category = 1 := rfl
  have hcellA : T1.heap[T.heap.size]? = some (freshCell cX kX) := by rw [← hT1]; exact State.heap_pushCell_size _ _
  have d3' : decode c.code (pc + 3) = .ok (.dup, 1) := by rw [hb]; exact d3
  have d4' : decode c.code (pc + 4) = .ok (.ldc is, 2) := by rw [hb]; exact d4
  have hstr' : vk_R own is text sa s' := vk_R.warm hW0 hstr
  obtain ⟨U, hsteps, hrun, hend, hW, hsame, ce, hce, hO⟩ := X₁.ctorThrowS hexec htr (own := own) (cls := cls) (names := names) (ic := ic) hown' hcls hnames h (fun x hx => nomatch hx) hfX hkX hcellA (by rw [hhp, hT]; exact Nat.le_refl _) (msg := .ref sa) rfl
    (g := { method := m, pc := pc + 6, locals := ls, stack := .ref sa :: .ref T.heap.size :: .ref T.heap.size :: rest, locked := none }) rfl hsize rfl rfl (rest := rest) rfl
    (by rw [hb]; exact d6) (by rw [hb]; exact d9) hout hRframes (by simp only [List.map_cons, List.sum_cons, hcat]; omega) hlocks
  obtain ⟨f1, f2⟩ := vx_frame hsame
  rw [hhp] at f1 f2
  have hWs : s.WarmedH U.vm := State.WarmedH.trans hW0 hW
  have hcl : s.vm.findClass cls = some ce.cls := by
    have h9 := hO.cls
    rw [hvm] at h9
    exact h9
  have hall : s.sameButNew ({ U with vm := s.vm } : State) locs mc ms := by
    subst hA
    obtain ⟨e1, e2⟩ := hsame
    rw [State.setFrames_setFrames] at e1
    have h2 : (T.setVm s.vm).sameButNew ({ U with vm := s.vm } : State) [] (0 + 1) (0 + 6) := ⟨e1, e2⟩
    have h3 := X.same.trans h2
    rw [List.append_nil] at h3
    exact h3.mono hc hs
  refine ⟨U, ?_, .threw T.heap.size, hrun, hend, Or.inr ⟨T.heap.size, rfl, cls, ce, locs, hx U hWs.alike f1 (fun q hq => f2 q hq (fun z hz => nomatch hz)), hce, hO.vm, hcl, hWs, hall, hf⟩⟩
  refine st1 _ ?_
  show Steps p.tables e below (T1.setTop { method := m, pc := pc + 3, locals := ls, stack := .ref T.heap.size :: rest, locked := none }) _
  jvm_step X₁.here [X₁.here.top, hexec, d3', Value.category]
  exact X₁.ldcString hexec (own := own) (text := text) (index := is) (a := sa) hown' hstr'.1 hstr'.2
    (g := { method := m, pc := pc + 4, locals := ls, stack := .ref T.heap.size :: .ref T.heap.size :: rest, locked := none }) rfl d4' _ hsteps
/-- 'throw new E("text")', the text by a wide index -/
theorem vx_throwSW {cc : ByteArray} {pc : Nat} (hexec : p.tables.exec = Jvm.exec) (hb : c.code = cc) (hl : l.stackTraces = false) {own cls text : String} {names : List String} {ik is ic mc ms sa : Nat} {A : Nat → Prop}
    (hown : s.vm.findClass own = some m.cls) (hcls : Bundle.fit cls = true) (hnames : ∀ n ∈ names, Bundle.fit n = true)
    (hk : (Cond.classLink own ik cls).before args s = true) (hini : (Cond.initialized cls).before args s = true) (hstr : vk_R own is text sa s) (hat : ∀ w ∈ vx_atS own ic cls names, w.before args s = true)
    (hgood : ∀ w ∈ Cond.classLink own ik cls :: Cond.initialized cls :: vx_atS own ic cls names, vx_ot w = true)
    (hU : vx_Zq Bundle.tN "UNASSIGNED_STACK" Bundle.steD A s s.heap) (hN : vx_Zq Bundle.tN "SUPPRESSED_SENTINEL" Bundle.listD A s s.heap) (hS : va_S A s.heap H locs) (hsize : ls.size = c.maxLocals)
    (d0 : decode cc pc = .ok (.new ik, 3)) (d3 : decode cc (pc + 3) = .ok (.dup, 1)) (d4 : decode cc (pc + 4) = .ok (.ldc_w is, 3)) (d7 : decode cc (pc + 7) = .ok (.invokespecial ic, 3)) (d10 : decode cc (pc + 10) = .ok (.athrow, 1))
    (hout : ∀ x ∈ c.exceptionTable.toList, covers x (pc + 10) = false)
    (hRframes : names.length + 3 < R.frames) (hRlocals : (rest.map fun v => v.category).sum + (13 * (names.length + 1) + 43) ≤ R.locals) (hRcells : cells + 1 ≤ R.cells) (hRslots : slots + 6 ≤ R.slots) (hlocks : meth.locks = false)
    (hx : ∀ t : State, s.vm.Alike t.vm → H.size ≤ t.heap.size → (∀ q : Nat, q < H.size → t.heap[q]? = H[q]?) → XC cls s t)
    (hf : ∀ z ∈ locs, free z.base) (hc : cells + 1 ≤ mc) (hs : slots + 6 ≤ ms) :
    W p l e R s m args below meth c H locs cells slots (vx_MQ below Qc XC args s mc ms free) (F0 m pc ls rest) := by
  intro T hT X
  have htr : e.platform.stackTraces = false := (show e.platform.stackTraces = l.stackTraces by rw [X.admits.platform]).trans hl
  have Y := vx_rebase X (R' := { frames := R.frames, locals := R.locals, cells := 1, slots := 6 }) (Nat.le_refl _) (Nat.le_refl _) hRcells hRslots
  obtain ⟨s', hA⟩ : ∃ z, z = (T.setVm s.vm).setFrames (.invoking m args :: below) := ⟨_, rfl⟩
  rw [← hA] at Y
  have hvm : s'.vm = s.vm := by rw [hA]; rfl
  have hhp : s'.heap = H := by rw [hA]; exact hT
  have hW0 : s.WarmedH s'.vm := by rw [hvm]; exact State.WarmedH.refl s
  have hat' : ∀ w ∈ vx_atS own ic cls names, w.before args s' = true := fun w hw => vx_ot_at hW0 hvm.symm (hgood w (List.mem_cons_of_mem _ (List.mem_cons_of_mem _ hw))) (hat w hw)
  have hk' : (Cond.classLink own ik cls).before args s' = true := vx_ot_at hW0 hvm.symm (hgood _ List.mem_cons_self) hk
  have hini' : (Cond.initialized cls).before args s' = true := vx_ot_at hW0 hvm.symm (hgood _ (List.mem_cons_of_mem _ List.mem_cons_self)) hini
  have hU' : vx_Zq Bundle.tN "UNASSIGNED_STACK" Bundle.steD A s' s'.heap := by rw [hhp]; exact vx_Zq.moved hW0.alike (hU.kept hS.2.1)
  have hN' : vx_Zq Bundle.tN "SUPPRESSED_SENTINEL" Bundle.listD A s' s'.heap := by rw [hhp]; exact vx_Zq.moved hW0.alike (hN.kept hS.2.1)
  have h : ∀ w ∈ Bundle.ownAtoms own ic cls names, w.before args s' = true := vx_own hat' (vx_isRefq hU'.1) (vx_isRefq hN'.1) hU'.2.word hN'.2.word
  have hown' : s'.vm.findClass own = some m.cls := by rw [hvm]; exact hown
  have hins : (Cond.instantiable cls 6).before args s' = true := h _ (by simp [Bundle.ownAtoms])
  obtain ⟨vm₁, cX, kX, hfX, hkX, -, -, X₁, st1⟩ := Y.newCold hexec (own := own) (C := cls) (index := ik) (n := 6) hown' hk' hins hini'
    (g := F0 m pc ls rest) rfl (by rw [hb]; exact d0) (Nat.le_refl _) (Nat.le_refl _)
  generalize hT1 : (T.setVm vm₁).pushCell { cls := cX, slots := kX.instanceTypes.map defaultValue, vm := .none } = T1 at X₁ st1
  have hcat : (Value.ref T.heap.size).category = 1 := rfl
  have hcellA : T1.heap[T.heap.size]? = some (freshCell cX kX) := by rw [← hT1]; exact State.heap_pushCell_size _ _
  have d3' : decode c.code (pc + 3) = .ok (.dup, 1) := by rw [hb]; exact d3
  have d4' : decode c.code (pc + 4) = .ok (.ldc_w is, 3) := by rw [hb]; exact d4
  have hstr' : vk_R own is text sa s' := vk_R.warm hW0 hstr
  obtain ⟨U, hsteps, hrun, hend, hW, hsame, ce, hce, hO⟩ := X₁.ctorThrowS hexec htr (own := own) (cls := cls) (names := names) (ic := ic) hown' hcls hnames h (fun x hx => nomatch hx) hfX hkX hcellA (by rw [hhp, hT]; exact Nat.le_refl _) (msg := .ref sa) rfl
    (g := { method := m, pc := pc + 7, locals := ls, stack := .ref sa :: .ref T.heap.size :: .ref T.heap.size :: rest, locked := none }) rfl hsize rfl rfl (rest := rest) rfl
    (by rw [hb]; exact d7) (by rw [hb]; exact d10) hout hRframes (by simp only [List.map_cons, List.sum_cons, hcat]; omega) hlocks
  obtain ⟨f1, f2⟩ := vx_frame hsame
  rw [hhp] at f1 f2
  have hWs : s.WarmedH U.vm := State.WarmedH.trans hW0 hW
  have hcl : s.vm.findClass cls = some ce.cls := by
    have h9 := hO.cls
    rw [hvm] at h9
    exact h9
  have hall : s.sameButNew ({ U with vm := s.vm } : State) locs mc ms := by
    subst hA
    obtain ⟨e1, e2⟩ := hsame
    rw [State.setFrames_setFrames] at e1
    have h2 : (T.setVm s.vm).sameButNew ({ U with vm := s.vm } : State) [] (0 + 1) (0 + 6) := ⟨e1, e2⟩
    have h3 := X.same.trans h2
    rw [List.append_nil] at h3
    exact h3.mono hc hs
  refine ⟨U, ?_, .threw T.heap.size, hrun, hend, Or.inr ⟨T.heap.size, rfl, cls, ce, locs, hx U hWs.alike f1 (fun q hq => f2 q hq (fun z hz => nomatch hz)), hce, hO.vm, hcl, hWs, hall, hf⟩⟩
  refine st1 _ ?_
  show Steps p.tables e below (T1.setTop { method := m, pc := pc + 3, locals := ls, stack := .ref T.heap.size :: rest, locked := none }) _
  jvm_step X₁.here [X₁.here.top, hexec, d3', Value.category]
  exact X₁.ldcStringW hexec (own := own) (text := text) (index := is) (a := sa) hown' hstr'.1 hstr'.2
    (g := { method := m, pc := pc + 4, locals := ls, stack := .ref T.heap.size :: .ref T.heap.size :: rest, locked := none }) rfl d4' _ hsteps
end Ends
section Bodies
variable {l : Launch}
theorem vx_ofW {y : MethodName} {ws ws' : List Cond} {rm : Room} {Pc : Array Value → State → Prop} {Qc : Array Value → State → Outcome → State → Prop} {XC : String → State → State → Prop} {mc ms : Nat} {free : Addr → Prop} {cc : ByteArray} {maxL : Nat} {ret : Option FieldType}
    (hy : plainName y.cls = true) (hw : ws = Cond.code y cc maxL ret :: ws')
    (body : ∀ p e s m args below meth c s₁, BodyLoose p l y (headSpec ws rm) cc maxL ret e s m args below meth c s₁ → c.maxLocals = maxL → (∀ x ∈ c.exceptionTable.toList, False) → Pc args s →
      W p l e (headSpec ws rm).room s m args below meth c s.heap [] 0 0 (vx_MQ below Qc XC args s mc ms free) (entryFrame m args maxL)) : vx_Met l y ws rm Pc Qc XC mc ms free := by
  refine MetFree.of_bodyS (code := cc) (maxLocals := maxL) (ret := ret) hy ?_ ?_
  · intro args s m h hn
    obtain ⟨meth, c, h1, h2, h3, h4, h5, h6, -, -⟩ := Cond.code_spec hn (atoms_spec (ws := ws) h _ (by rw [hw]; exact List.mem_cons_self))
    exact ⟨meth, c, h1, h2, h3, h4, h5, h6⟩
  · intro p e s m args below meth c s₁ B hml hP _
    have hh0 : s₁.heap = s.heap := by rw [B.state]; rfl
    have ht : ∀ x ∈ c.exceptionTable.toList, False := by
      obtain ⟨meth9, c9, h1, h2, -, -, -, -, h7, -⟩ := Cond.code_spec B.named (atoms_spec (ws := ws) B.pre _ (by rw [hw]; exact List.mem_cons_self))
      cases Option.some.inj (h1.symm.trans B.method)
      cases Option.some.inj (h2.symm.trans (Stand.of_body B).code)
      intro x hx
      rw [Array.isEmpty_iff.mp h7] at hx
      cases hx
    obtain ⟨t, a1, o, b1, b2, b3⟩ := body p e s m args below meth c s₁ B hml ht hP s₁ hh0 (Stand.of_body B)
    exact ⟨t, o, a1, b1, b2, b3⟩
/-- the table of a body with handlers -/
theorem vx_table {p : Program} {x y : MethodName} {S : Spec} {cc bytes : ByteArray} {maxL maxL' : Nat} {ret ret' : Option FieldType} {e : Env} {s s₁ : State} {m : MethodId} {args : Array Value} {below : List Frame} {meth : Method} {c : Code} {hh : List (Nat × Nat × Nat × Nat)}
    (B : BodyLoose p l y S cc maxL ret e s m args below meth c s₁) (h : (Cond.codeWith y bytes maxL' ret' hh).before args s = true) : c.exceptionTable.toList = tableOf hh := by
  obtain ⟨m9, meth9, c9, hn9, h1, h2, -, -, h6, -⟩ := Cond.codeWith_spec h
  cases Option.some.inj (hn9.symm.trans B.named)
  cases Option.some.inj (h1.symm.trans B.method)
  cases Option.some.inj (h2.symm.trans (Stand.of_body B).code)
  rw [← h6, table_eq]
end Bodies
end VXA
/-! ===== END ===== -/
/-! ===== BEGIN a static call of a method with an exception table ===== -/
section VXS
variable {p : Program} {l : Launch} {e : Env} {R : Room} {s : State} {m : MethodId} {args : Array Value} {below : List Frame} {meth : Method} {c : Code} {T : State} {H : Heap} {locs : List Loc} {cells slots : Nat}
abbrev vx_CSW (R : Room) (s : State) (args : Array Value) (own : String) (index : Nat) (y : MethodName) (bytes : ByteArray) (maxL : Nat) (ret : Option FieldType) (hh : List (Nat × Nat × Nat × Nat)) (ws : List Cond) (rm : Room) (mc ms n : Nat) : Prop :=
  (rm.cells = mc ∧ rm.slots = ms ∧ rm.frames + 1 ≤ R.frames ∧ 8 + (maxL + 11) + rm.locals ≤ R.locals ∧ (∀ w ∈ ws, ∀ (a' : Array Value) (U : State), s.WarmedH U.vm → w.before a' U = true) ∧ Cond.codeWith y bytes maxL ret hh ∈ ws) ∧
  (Cond.codeWith y bytes maxL ret hh).before args s = true ∧ (Cond.initialized y.cls).before args s = true ∧ (y.cls ≠ "java/lang/invoke/MethodHandle" ∧ y.cls ≠ "java/lang/invoke/VarHandle") ∧
  (∀ sig, parseMethodDescriptor y.desc = some sig → n = sig.parameters.length) ∧ (Cond.methodLink own index y).before args s = true ∧ (Cond.static y).before args s = true
theorem vx_cwSW {own : String} {index maxL mc ms : Nat} {y : MethodName} {bytes : ByteArray} {ret : Option FieldType} {hh : List (Nat × Nat × Nat × Nat)} {Ts ws ws' : List Cond} {rm : Room} (n : Nat) (ht : ∀ w ∈ Ts, w.before args s = true) (hT : GoodIn Ts (va_wsS own index y ws)) (hw : ws = Cond.codeWith y bytes maxL ret hh :: ws') (hrc : rm.cells = mc) (hrs : rm.slots = ms)
    (hd : y.cls ≠ "java/lang/invoke/MethodHandle" ∧ y.cls ≠ "java/lang/invoke/VarHandle" ∧ (parseMethodDescriptor y.desc).map (fun d => d.parameters.length) = some n) (hR : rm.frames + 1 ≤ R.frames ∧ 8 + (maxL + 11) + rm.locals ≤ R.locals) :
    vx_CSW R s args own index y bytes maxL ret hh ws rm mc ms n := by
  have ok : ∀ w ∈ va_wsS own index y ws, w.before args s = true := fun w h => ht w (hT w h).1
  have hG : GoodIn Ts ws := fun w h => hT w (by unfold va_wsS; exact List.mem_append_right _ h)
  have hc : Cond.codeWith y bytes maxL ret hh ∈ ws := by rw [hw]; exact List.mem_cons_self
  refine ⟨⟨hrc, hrs, hR.1, hR.2, pay_in ht hG, hc⟩, ht _ (hG _ hc).1, ok _ (by simp [va_wsS]), ⟨hd.1, hd.2.1⟩, fun sig h => ?_, ok _ (by simp [va_wsS]), ok _ (by simp [va_wsS])⟩
  have h2 := hd.2.2
  rw [h] at h2
  exact (Option.some.inj h2).symm
theorem vx_callSW (X : Stand p l e R s m args below meth c T locs cells slots) (hexec : p.tables.exec = Jvm.exec) {own : String} {index : Nat} {y : MethodName} {bytes : ByteArray} {maxL : Nat} {ret : Option FieldType} {hh : List (Nat × Nat × Nat × Nat)}
    (hown : s.vm.findClass own = some m.cls) (hlink : (Cond.methodLink own index y).before args s = true) (hstat : (Cond.static y).before args s = true) (hinit : (Cond.initialized y.cls).before args s = true)
    (hcode : (Cond.codeWith y bytes maxL ret hh).before args s = true) (hy : y.cls ≠ "java/lang/invoke/MethodHandle" ∧ y.cls ≠ "java/lang/invoke/VarHandle")
    {W9 : Nat} {Pre : Pt → Array Value → Prop} {Post : Pt → Array Value → Option Value → Pt → Prop} (hK : Back l R p e below s args y 3 W9 Pre Post)
    {g : JFrame} (hg : g.method = m) (hsize : g.locals.size = c.maxLocals) {argsL rest : List Value} (hlen : ∀ sig, parseMethodDescriptor y.desc = some sig → argsL.length = sig.parameters.length)
    (hstack : g.stack = argsL.reverse ++ rest) (hW : 2 * g.monitorRoom + (rest.map fun v => v.category).sum ≤ W9) (hdg : decode c.code g.pc = .ok (.invokestatic index, 3))
    (hpre : ∀ vm₁, s.WarmedH vm₁ → Pre ⟨T.setVm vm₁, locs, cells, slots⟩ argsL.toArray) :
    ∃ (v : Option Value) (vm₁ : Vm) (B : Pt), s.WarmedH vm₁ ∧ Stand p l e R s m args below meth c B.U B.locs B.cells B.slots ∧ Post ⟨T.setVm vm₁, locs, cells, slots⟩ argsL.toArray v B ∧
      ∀ target, Steps p.tables e below (B.U.setTop { g with pc := g.pc + 3, stack := v.toList ++ rest }) target → Steps p.tables e below (T.setTop g) target := by
  obtain ⟨mk, methM, cM, hnamed, hmethM, -, -, -, -, -, -, hsigM⟩ := Cond.codeWith_spec hcode
  have hstatic : methM.isStatic = true := Cond.static_spec hnamed hmethM hstat
  obtain ⟨kP, hkP, -⟩ := className_of_methodNamed hnamed
  have hinitP : kP.init = .initialized := Cond.initialized_spec (findClass_of_methodNamed hnamed) hkP hinit
  obtain ⟨vm₁, X₁, hstep₁⟩ := X.invokestatic hexec hown hlink hnamed hmethM hstatic hkP hinitP hy (g := g) hg (argsL := argsL) (rest := rest) (hlen _ hsigM) hstack hdg
  obtain ⟨v, B, X', hpost, hsteps⟩ := hK m meth c ⟨T.setVm vm₁, locs, cells, slots⟩ { g with stack := rest } (.invokestatic index) mk argsL.toArray X₁ hg hsize hdg hW (X₁.named hnamed) (hpre vm₁ X₁.warmed)
  exact ⟨v, vm₁, B, X₁.warmed, X', hpost, fun target h => hstep₁ _ fun acts => by rw [doInvoke_state]; exact hsteps.trans h⟩
theorem vx_runSW {y : MethodName} {bytes cc : ByteArray} {maxL nL mc ms n index : Nat} {ret : Option FieldType} {hh : List (Nat × Nat × Nat × Nat)} {ws : List Cond} {rm : Room} {Pc : Array Value → State → Prop} {Qc : Array Value → State → Outcome → State → Prop} {free : Addr → Prop} {Ts : List Cond} {own : String} {As rest : List Value} {g : JFrame}
    (S : CallFix p m c cc nL s args Ts own) (hM : Met l y ws rm Pc Qc mc ms free) (cw : vx_CSW R s args own index y bytes maxL ret hh ws rm mc ms n) (hp : PreS s H Pc As)
    (hg : g.method = m) (hn : As.length = n) (hsize : g.locals.size = nL) (hstack : g.stack = As.reverse ++ rest) (hW : 2 * g.monitorRoom + (rest.map fun v => v.category).sum ≤ 8) (hdg : decode cc g.pc = .ok (.invokestatic index, 3)) (hf : cells + mc ≤ R.cells ∧ slots + ms ≤ R.slots) :
    va_Run p l e R s m args below meth c H locs cells slots mc ms g rest (Qc As.toArray) (free) := by
  obtain ⟨⟨hrc, hrs, hfr, hlo, hws, hcw⟩, hcode, hini, hy, hlen, hl, hstt⟩ := cw
  have hK : Back l R p e below s args y 3 8 (PreOf R mc ms Pc) (PostOf Qc mc ms free) := va_backW (hh := hh) (bytes := bytes) (maxL := maxL) (ret := ret) hM hp.1 hrc hrs hfr hlo hws hcw (fun a' U hW => word_at hW (Or.inl (by first | rfl | simp [Cond.onTables, Cond.keeps, Cond.steady])) hini)
  obtain ⟨hx, hb, hml, ho, -⟩ := S
  intro T hT X
  obtain ⟨v, vm₁, ⟨U', l2, c2, s2⟩, hW₁, X', ⟨g', mk, t, L, e1, e2, hq, h1, hL, h2, h3⟩, st⟩ := vx_callSW X hx (hh := hh) (bytes := bytes) (maxL := maxL) (ret := ret) ho hl hstt hini hcode hy hK hg (hsize.trans hml.symm) (argsL := As) (rest := rest) (fun sig h => hn.trans (hlen sig h)) hstack hW (by rw [hb]; exact hdg)
    (fun vm₁ hW₁ => ⟨hf.1, hf.2, hp.2 (T.setVm vm₁) hT hW₁⟩)
  dsimp only [Pt.U, Pt.locs, Pt.cells, Pt.slots] at X' e1 e2 h1 h2 h3 st
  subst h1; subst h2; subst h3
  exact ⟨v, (T.setVm vm₁).calling g' mk As.toArray, t, U', L, hT, X', hL, e1, e2, hq, st⟩
/-- not caught here, past rows that name other classes: it goes on to the caller -/
theorem vx_outP {p : Program} {l : Launch} {e : Env} {R : Room} {s : State} {m : MethodId} {args : Array Value} {below : List Frame} {meth : Method} {c : Code} {H : Heap} {locs : List Loc} {cells slots : Nat} {free : Addr → Prop} {ls : Array Slot} {rest : List Value} {Qc : Array Value → State → Outcome → State → Prop} {XC : String → State → State → Prop}
    {pc : Nat} {own E : String} {ce : Cell} {q : Addr} {mc ms : Nat} (hown : s.vm.findClass own = some m.cls) (hlocks : meth.locks = false)
    (hpass : ∀ z ∈ c.exceptionTable.toList, covers z pc = false ∨ (z.catchType ≠ 0 ∧ ∃ nm : String, (Cond.classLink own z.catchType nm).before args s = true ∧ va_Nc E nm s)) (hcell : H[q]? = some ce) (hv : ce.vm = .none) (hcl : s.vm.findClass E = some ce.cls)
    (hx : ∀ t : State, t.heap = H → s.vm.Alike t.vm → XC E s t) (hf : ∀ z ∈ locs, free z.base) (hc : cells ≤ mc) (hs : slots ≤ ms) :
    vx_W p l e R s m args below meth c H locs cells slots (vx_MQ below Qc XC args s mc ms free) (F0 m pc ls rest) q := by
  intro T hT X
  have hpl : e.platform.magicAccessors = ({} : Platform).magicAccessors := by rw [X.admits.platform]
  obtain ⟨vm', hW', X', st⟩ := X.outThrough hlocks q (g := F0 m pc ls rest) rfl rfl rfl (cell := ce) (by rw [hT]; exact hcell) (by rw [hv]; rfl)
    (by obtain ⟨k9, h9, -⟩ := Vm.findClass_spec hcl; exact ⟨k9, h9⟩) (fun z hz => by
      rcases hpass z hz with h | ⟨hz0, nm, hl1, hn1⟩
      · exact Or.inl h
      · obtain ⟨c6, hc6, hcl6⟩ := Cond.classLink_spec hown hl1 e.platform hpl
        obtain ⟨a8, b8, h1, h2, h3⟩ := hn1
        cases Option.some.inj (h1.symm.trans hcl)
        cases Option.some.inj (h2.symm.trans hc6)
        exact Or.inr ⟨hz0, _, hcl6, h3⟩)
  obtain ⟨g₀, hfr⟩ := X'.frames_eq
  have hcell9 : ((T.setVm vm').setFrames (.throwing q :: below)).heap[q]? = some ce := by
    show T.heap[q]? = some ce
    rw [hT]; exact hcell
  have hend : Ended ((T.setVm vm').setFrames (.throwing q :: below)) below (.threw q) := State.frames_setFrames _ (State.cur_lt_of_frames hfr)
  refine ⟨(T.setVm vm').setFrames (.throwing q :: below), ?_, .threw q, X'.here.running, hend, Or.inr ⟨q, rfl, E, ce, locs, hx _ hT (X'.ends _).1.alike, hcell9, hv, hcl, (X'.ends _).1, (X'.ends _).2.mono hc hs, hf⟩⟩
  rw [X.pushThrowing_eq]
  exact st
/-- a thing of a world lies in the heap -/
theorem vx_lt {D : va_G} {cl : List vw_C} {ws : va_W} {H1 : Heap} (h : va_P D cl ws H1) {k : Nat} {q : Nat × va_E} (hk : ws[k]? = some q) : q.1 < H1.size := (h k q hk).lt
end VXS
/-! ===== END ===== -/
/-! ===== BEGIN methods with a table of their own: called by a name, returning or throwing ===== -/
section VXH
/-! vx_backW, vx_callVX, vx_callSX, vx_callVW, vx_runVW, vx_runVX, vx_runSX, vx_ofWH follow the same proofs as their sisters above (Free/Laws.lean, Shelf42/LK1.lean); vx_outP calls Shelf42/NT130.lean (outThrough). -/
section
variable {l : Launch} {R : Room} {p : Program} {e : Env} {below : List Frame} {s : State} {sargs : Array Value} {y : MethodName} {len W9 : Nat}
theorem vx_backW {ws : List Cond} {rm : Room} {Pc : Array Value → State → Prop} {Qc : Array Value → State → Outcome → State → Prop} {XC : String → State → State → Prop} {mc ms : Nat} {free : Addr → Prop} {bytes : ByteArray} {maxL : Nat} {ret : Option FieldType} {hh : List (Nat × Nat × Nat × Nat)}
    (hM : vx_Met l y ws rm Pc Qc XC mc ms free) (hblind : FrameBlind Pc) (hrc : rm.cells = mc) (hrs : rm.slots = ms)
    (hframes : rm.frames + 1 ≤ R.frames) (hlocals : W9 + (maxL + 11) + rm.locals ≤ R.locals)
    (hws : ∀ w ∈ ws, ∀ a' U, s.WarmedH U.vm → w.before a' U = true) (hcode : Cond.codeWith y bytes maxL ret hh ∈ ws) (hinit : ∀ a' U, s.WarmedH U.vm → (Cond.initialized y.cls).before a' U = true) :
    vx_Back l R p e below s sargs y len W9 (PreOf R mc ms Pc) (PostOf Qc mc ms free) (vx_Post XC mc ms free) := by
  intro m meth c A g ig mk a X hg hsize hdg hW hn hp
  have h1 : (headSpec ws rm).pre.before a A.U = true := atoms_intro fun w hw => hws w hw _ _ X.warmed
  have h2 : (Cond.codeWith y bytes maxL ret hh).before a A.U = true := hws _ hcode _ _ X.warmed
  have h3 : (Cond.initialized y.cls).before a A.U = true := hinit _ _ X.warmed
  have h4 : A.cells + (headSpec ws rm).room.cells ≤ R.cells := by rw [show (headSpec ws rm).room.cells = mc from hrc]; exact hp.1
  have h5 : A.slots + (headSpec ws rm).room.slots ≤ R.slots := by rw [show (headSpec ws rm).room.slots = ms from hrs]; exact hp.2.1
  have hPc : Pc a (A.U.calling g mk a) := hblind _ _ _ _ hp.2.2
  obtain ⟨U, Ls, c0, s0⟩ := A
  dsimp only [Pt.U, Pt.locs, Pt.cells, Pt.slots] at h1 h2 h3 h4 h5 X hn hPc ⊢
  obtain ⟨m9, methY, cY, hn9, hmY, hcY, -, hlY, -⟩ := Cond.codeWith_spec h2
  cases Option.some.inj (hn9.symm.trans hn)
  obtain ⟨kY, hkY, -⟩ := className_of_methodNamed hn
  have hinitY : kY.init = .initialized := Cond.initialized_spec (findClass_of_methodNamed hn) hkY h3
  have h : At U g.method c below := by rw [hg]; exact X.here
  have hlocals9 : W9 + (maxL + 11) + (headSpec ws rm).room.locals ≤ R.locals := hlocals
  have happ : (headSpec ws rm).appliesLoose y e.platform (U.calling g mk a) = true :=
    Spec.appliesLoose_calling (g := g) h hdg hn hkY hinitY
      (X.room_calling (g := g) (R' := (headSpec ws rm).room) hsize hmY hcY hframes (by rw [hlY]; omega) h4 h5) h1
  obtain ⟨mid, hmid⟩ := h.above
  have hfr : (U.setTop g).frames = (.java g :: mid) ++ below := by rw [State.frames_setTop' g h.top, hmid]; rfl
  obtain ⟨o, s₂, hsteps, -, hend, hq⟩ := Steps.callFree hM p X.admits X.cas X.clock (acts := []) hfr happ hPc trivial
  have hq' : vx_Q Qc XC mc ms free a (U.calling g mk a) o s₂ := hq
  rw [State.frames_setTop' g h.top] at hend
  obtain ⟨g₀, hg0⟩ := Option.isSome_iff_exists.mp h.top
  obtain ⟨r, hr⟩ := State.topJava?_eq_some.mp hg0
  have hr' : (({ U with heap := s₂.heap, slotsUsed := s₂.slotsUsed } : State).setVm s₂.vm).frames = .java g₀ :: r := hr
  rcases hq' with ⟨hqc, L, hfe, hL⟩ | ⟨q, rfl, E, ce, L, hx, hce, hcv, hcl, hW₂, hsm, hL⟩
  · obtain ⟨⟨v, rfl⟩, hW₂, e2, q2, q3, q4, q5, q6⟩ := id hfe
    have e3 : s₂ = ({ (U.calling g mk a).setFrames s₂.frames with heap := s₂.heap, slotsUsed := s₂.slotsUsed } : State).setVm s₂.vm := by
      have : s₂ = ({ s₂ with vm := (U.calling g mk a).vm } : State).setVm s₂.vm := rfl
      rw [e2] at this
      exact this
    obtain ⟨c₂, i₂, len₂, hc₂, hd₂, hf₂⟩ := hend
    have hW' : U.WarmedH s₂.vm := hW₂
    have hcc : c₂ = c := by
      have h1 : s₂.code? g.method = U.code? g.method := by
        rw [State.code?_eq, State.code?_eq, hW'.alike.method?]
      exact Option.some.inj (hc₂.symm.trans (h1.trans h.code))
    subst hcc
    have hlen : len₂ = len := by rw [hdg] at hd₂; cases hd₂; rfl
    subst hlen
    have hs₂ : s₂ = (({ U with heap := s₂.heap, slotsUsed := s₂.slotsUsed } : State).setVm s₂.vm).setTop { g with pc := g.pc + len₂, stack := v.toList ++ g.stack } := by
      refine e3.trans ?_
      rw [hf₂, State.calling_eq h.top, State.setFrames_setFrames, State.setTop_of_frames _ hr', hr]
      rfl
    have hsame : U.sameButNew ({ U with heap := s₂.heap, slotsUsed := s₂.slotsUsed } : State) L mc ms := by
      refine ⟨?_, q2, q3, q4, q5, q6⟩
      obtain ⟨t, ht, -⟩ := State.frames_cons hr
      show ({ U with heap := s₂.heap, slotsUsed := s₂.slotsUsed } : State) = { U.setFrames U.frames with heap := s₂.heap, slotsUsed := s₂.slotsUsed }
      rw [State.setFrames_self ht]
    subst hg
    refine Or.inl ⟨v, ⟨(({ U with heap := s₂.heap, slotsUsed := s₂.slotsUsed } : State).setVm s₂.vm), Ls ++ L, c0 + mc, s0 + ms⟩,
      ⟨X.admits, X.cas, X.clock, X.frames, X.room, X.hears, X.method, X.code, (X.here.setHeapUsed s₂.heap s₂.slotsUsed).setVm hW'.alike, X.tail, State.WarmedH.trans X.warmed hW', X.limits, X.bytes, X.same.trans (hsame.setVm s.vm)⟩,
      ⟨g, mk, s₂, L, rfl, rfl, hqc, rfl, hL, rfl, rfl⟩, ?_⟩
    show Steps p.tables e below _ ((({ U with heap := s₂.heap, slotsUsed := s₂.slotsUsed } : State).setVm s₂.vm).setTop { g with pc := g.pc + len₂, stack := v.toList ++ g.stack })
    rw [← hs₂]
    exact hsteps
  · obtain ⟨e2, q2, q3, q4, q5, q6⟩ := id hsm
    have e3 : s₂ = ({ (U.calling g mk a).setFrames s₂.frames with heap := s₂.heap, slotsUsed := s₂.slotsUsed } : State).setVm s₂.vm := by
      have : s₂ = ({ s₂ with vm := (U.calling g mk a).vm } : State).setVm s₂.vm := rfl
      rw [e2] at this
      exact this
    have hf₂ : s₂.frames = .throwing q :: .java g :: U.frames.tail := hend
    have hW' : U.WarmedH s₂.vm := hW₂
    have hs₂ : s₂ = ((({ U with heap := s₂.heap, slotsUsed := s₂.slotsUsed } : State).setVm s₂.vm).setTop g).pushFrame (.throwing q) := by
      refine e3.trans ?_
      rw [hf₂, State.calling_eq h.top, State.setFrames_setFrames, State.pushFrame, State.frames_setTop _ hr', State.setTop_of_frames _ hr', State.setFrames_setFrames, hr]
      rfl
    have hsame : U.sameButNew ({ U with heap := s₂.heap, slotsUsed := s₂.slotsUsed } : State) L mc ms := by
      refine ⟨?_, q2, q3, q4, q5, q6⟩
      obtain ⟨t, ht, -⟩ := State.frames_cons hr
      show ({ U with heap := s₂.heap, slotsUsed := s₂.slotsUsed } : State) = { U.setFrames U.frames with heap := s₂.heap, slotsUsed := s₂.slotsUsed }
      rw [State.setFrames_self ht]
    subst hg
    refine Or.inr ⟨q, ⟨(({ U with heap := s₂.heap, slotsUsed := s₂.slotsUsed } : State).setVm s₂.vm), Ls ++ L, c0 + mc, s0 + ms⟩,
      ⟨X.admits, X.cas, X.clock, X.frames, X.room, X.hears, X.method, X.code, (X.here.setHeapUsed s₂.heap s₂.slotsUsed).setVm hW'.alike, X.tail, State.WarmedH.trans X.warmed hW', X.limits, X.bytes, X.same.trans (hsame.setVm s.vm)⟩,
      ⟨g, mk, s₂, L, E, ce, rfl, rfl, hx, hce, hcv, hcl, rfl, hL, rfl, rfl⟩, ?_⟩
    show Steps p.tables e below _ (((({ U with heap := s₂.heap, slotsUsed := s₂.slotsUsed } : State).setVm s₂.vm).setTop g).pushFrame (.throwing q))
    rw [← hs₂]
    exact hsteps
end
variable {p : Program} {l : Launch} {e : Env} {R : Room} {s : State} {m : MethodId} {args : Array Value} {below : List Frame} {meth : Method} {c : Code} {T : State} {H : Heap} {locs : List Loc} {cells slots : Nat}
theorem vx_callVX (X : Stand p l e R s m args below meth c T locs cells slots) (hexec : p.tables.exec = Jvm.exec) {own C : String} {index : Nat} {y : MethodName} {bytes : ByteArray} {maxL : Nat} {ret : Option FieldType} {hh : List (Nat × Nat × Nat × Nat)}
    (hown : s.vm.findClass own = some m.cls) (hlink : (Cond.methodLink own index y).before args s = true) (hinst : (Cond.instanceMethod y).before args s = true) (hsel : (Cond.selects C y y).before args s = true)
    (hcode : (Cond.codeWith y bytes maxL ret hh).before args s = true) (hy : y.cls ≠ "java/lang/invoke/MethodHandle" ∧ y.cls ≠ "java/lang/invoke/VarHandle")
    {W9 : Nat} {Pre : Pt → Array Value → Prop} {Post : Pt → Array Value → Option Value → Pt → Prop} {PostX : Pt → Array Value → Addr → Pt → Prop} (hK : vx_Back l R p e below s args y 3 W9 Pre Post PostX)
    {b : Addr} {cellB : Cell} (hcell : T.heap[b]? = some cellB) (hobj : cellB.vm.isStatics = false) (hcls : s.vm.findClass C = some cellB.cls)
    {g : JFrame} (hg : g.method = m) (hsize : g.locals.size = c.maxLocals) {argsL rest : List Value} (hlen : ∀ sig, parseMethodDescriptor y.desc = some sig → argsL.length = sig.parameters.length)
    (hstack : g.stack = argsL.reverse ++ .ref b :: rest) (hW : 2 * g.monitorRoom + (rest.map fun v => v.category).sum ≤ W9) (hdg : decode c.code g.pc = .ok (.invokevirtual index, 3))
    (hpre : ∀ vm₁, s.WarmedH vm₁ → Pre ⟨T.setVm vm₁, locs, cells, slots⟩ (Value.ref b :: argsL).toArray) :
    (∃ (v : Option Value) (vm₁ : Vm) (B : Pt), s.WarmedH vm₁ ∧ Stand p l e R s m args below meth c B.U B.locs B.cells B.slots ∧ Post ⟨T.setVm vm₁, locs, cells, slots⟩ (Value.ref b :: argsL).toArray v B ∧
      ∀ target, Steps p.tables e below (B.U.setTop { g with pc := g.pc + 3, stack := v.toList ++ rest }) target → Steps p.tables e below (T.setTop g) target) ∨
    (∃ (q : Addr) (vm₁ : Vm) (B : Pt), s.WarmedH vm₁ ∧ Stand p l e R s m args below meth c B.U B.locs B.cells B.slots ∧ PostX ⟨T.setVm vm₁, locs, cells, slots⟩ (Value.ref b :: argsL).toArray q B ∧
      Steps p.tables e below (T.setTop g) ((B.U.setTop { g with stack := rest }).pushFrame (.throwing q))) := by
  obtain ⟨mk, methM, hnamed, hmethM, hstM, habM⟩ := Cond.instanceMethod_spec hinst
  obtain ⟨m8, methM', cM, hn8, hmethM', -, -, -, -, -, -, hsigM⟩ := Cond.codeWith_spec hcode
  cases Option.some.inj (hn8.symm.trans hnamed)
  cases hmethM.symm.trans hmethM'
  obtain ⟨c2, r2, m2, q1, q2, q3, q4, kP, hkP, hkPi⟩ := Cond.selects_spec hsel
  cases hcls.symm.trans q1
  cases (State.methodFound?_of_named hnamed hy).symm.trans q2
  cases hnamed.symm.trans q3
  have hselP : selectMethod e.platform s.vm cellB.cls mk = .method mk := by rw [Launch.admits_selectMethod X.admits]; exact q4
  obtain ⟨vm₁, X₁, hstep₁⟩ := X.invokevirtual hexec hown hlink hnamed hmethM hstM hkP hkPi hy (a := b) (cell := cellB) hcell
    (fun z h => by rw [h] at hobj; cases hobj) hselP hmethM habM hkP hkPi (g := g) hg (argsL := argsL) (rest := rest) (hlen _ hsigM) hstack hdg
  rcases hK m meth c ⟨T.setVm vm₁, locs, cells, slots⟩ { g with stack := rest } (.invokevirtual index) mk (Value.ref b :: argsL).toArray X₁ hg hsize hdg hW (X₁.named hnamed) (hpre vm₁ X₁.warmed) with ⟨v, B, X', hpost, hsteps⟩ | ⟨q, B, X', hpost, hsteps⟩
  · exact Or.inl ⟨v, vm₁, B, X₁.warmed, X', hpost, fun target h => hstep₁ _ fun acts => by rw [doInvoke_state]; exact hsteps.trans h⟩
  · exact Or.inr ⟨q, vm₁, B, X₁.warmed, X', hpost, hstep₁ _ fun acts => by rw [doInvoke_state]; exact hsteps⟩
theorem vx_callSX (X : Stand p l e R s m args below meth c T locs cells slots) (hexec : p.tables.exec = Jvm.exec) {own : String} {index : Nat} {y : MethodName} {bytes : ByteArray} {maxL : Nat} {ret : Option FieldType} {hh : List (Nat × Nat × Nat × Nat)}
    (hown : s.vm.findClass own = some m.cls) (hlink : (Cond.methodLink own index y).before args s = true) (hstat : (Cond.static y).before args s = true) (hinit : (Cond.initialized y.cls).before args s = true)
    (hcode : (Cond.codeWith y bytes maxL ret hh).before args s = true) (hy : y.cls ≠ "java/lang/invoke/MethodHandle" ∧ y.cls ≠ "java/lang/invoke/VarHandle")
    {W9 : Nat} {Pre : Pt → Array Value → Prop} {Post : Pt → Array Value → Option Value → Pt → Prop} {PostX : Pt → Array Value → Addr → Pt → Prop} (hK : vx_Back l R p e below s args y 3 W9 Pre Post PostX)
    {g : JFrame} (hg : g.method = m) (hsize : g.locals.size = c.maxLocals) {argsL rest : List Value} (hlen : ∀ sig, parseMethodDescriptor y.desc = some sig → argsL.length = sig.parameters.length)
    (hstack : g.stack = argsL.reverse ++ rest) (hW : 2 * g.monitorRoom + (rest.map fun v => v.category).sum ≤ W9) (hdg : decode c.code g.pc = .ok (.invokestatic index, 3))
    (hpre : ∀ vm₁, s.WarmedH vm₁ → Pre ⟨T.setVm vm₁, locs, cells, slots⟩ argsL.toArray) :
    (∃ (v : Option Value) (vm₁ : Vm) (B : Pt), s.WarmedH vm₁ ∧ Stand p l e R s m args below meth c B.U B.locs B.cells B.slots ∧ Post ⟨T.setVm vm₁, locs, cells, slots⟩ argsL.toArray v B ∧
      ∀ target, Steps p.tables e below (B.U.setTop { g with pc := g.pc + 3, stack := v.toList ++ rest }) target → Steps p.tables e below (T.setTop g) target) ∨
    (∃ (q : Addr) (vm₁ : Vm) (B : Pt), s.WarmedH vm₁ ∧ Stand p l e R s m args below meth c B.U B.locs B.cells B.slots ∧ PostX ⟨T.setVm vm₁, locs, cells, slots⟩ argsL.toArray q B ∧
      Steps p.tables e below (T.setTop g) ((B.U.setTop { g with stack := rest }).pushFrame (.throwing q))) := by
  obtain ⟨mk, methM, cM, hnamed, hmethM, -, -, -, -, -, -, hsigM⟩ := Cond.codeWith_spec hcode
  have hstatic : methM.isStatic = true := Cond.static_spec hnamed hmethM hstat
  obtain ⟨kP, hkP, -⟩ := className_of_methodNamed hnamed
  have hinitP : kP.init = .initialized := Cond.initialized_spec (findClass_of_methodNamed hnamed) hkP hinit
  obtain ⟨vm₁, X₁, hstep₁⟩ := X.invokestatic hexec hown hlink hnamed hmethM hstatic hkP hinitP hy (g := g) hg (argsL := argsL) (rest := rest) (hlen _ hsigM) hstack hdg
  rcases hK m meth c ⟨T.setVm vm₁, locs, cells, slots⟩ { g with stack := rest } (.invokestatic index) mk argsL.toArray X₁ hg hsize hdg hW (X₁.named hnamed) (hpre vm₁ X₁.warmed) with ⟨v, B, X', hpost, hsteps⟩ | ⟨q, B, X', hpost, hsteps⟩
  · exact Or.inl ⟨v, vm₁, B, X₁.warmed, X', hpost, fun target h => hstep₁ _ fun acts => by rw [doInvoke_state]; exact hsteps.trans h⟩
  · exact Or.inr ⟨q, vm₁, B, X₁.warmed, X', hpost, hstep₁ _ fun acts => by rw [doInvoke_state]; exact hsteps⟩
theorem vx_callVW (X : Stand p l e R s m args below meth c T locs cells slots) (hexec : p.tables.exec = Jvm.exec) {own C : String} {index : Nat} {y : MethodName} {bytes : ByteArray} {maxL : Nat} {ret : Option FieldType} {hh : List (Nat × Nat × Nat × Nat)}
    (hown : s.vm.findClass own = some m.cls) (hlink : (Cond.methodLink own index y).before args s = true) (hinst : (Cond.instanceMethod y).before args s = true) (hsel : (Cond.selects C y y).before args s = true)
    (hcode : (Cond.codeWith y bytes maxL ret hh).before args s = true) (hy : y.cls ≠ "java/lang/invoke/MethodHandle" ∧ y.cls ≠ "java/lang/invoke/VarHandle")
    {W9 : Nat} {Pre : Pt → Array Value → Prop} {Post : Pt → Array Value → Option Value → Pt → Prop} (hK : Back l R p e below s args y 3 W9 Pre Post)
    {b : Addr} {cellB : Cell} (hcell : T.heap[b]? = some cellB) (hobj : cellB.vm.isStatics = false) (hcls : s.vm.findClass C = some cellB.cls)
    {g : JFrame} (hg : g.method = m) (hsize : g.locals.size = c.maxLocals) {argsL rest : List Value} (hlen : ∀ sig, parseMethodDescriptor y.desc = some sig → argsL.length = sig.parameters.length)
    (hstack : g.stack = argsL.reverse ++ .ref b :: rest) (hW : 2 * g.monitorRoom + (rest.map fun v => v.category).sum ≤ W9) (hdg : decode c.code g.pc = .ok (.invokevirtual index, 3))
    (hpre : ∀ vm₁, s.WarmedH vm₁ → Pre ⟨T.setVm vm₁, locs, cells, slots⟩ (Value.ref b :: argsL).toArray) :
    ∃ (v : Option Value) (vm₁ : Vm) (B : Pt), s.WarmedH vm₁ ∧ Stand p l e R s m args below meth c B.U B.locs B.cells B.slots ∧ Post ⟨T.setVm vm₁, locs, cells, slots⟩ (Value.ref b :: argsL).toArray v B ∧
      ∀ target, Steps p.tables e below (B.U.setTop { g with pc := g.pc + 3, stack := v.toList ++ rest }) target → Steps p.tables e below (T.setTop g) target := by
  obtain ⟨mk, methM, hnamed, hmethM, hstM, habM⟩ := Cond.instanceMethod_spec hinst
  obtain ⟨m8, methM', cM, hn8, hmethM', -, -, -, -, -, -, hsigM⟩ := Cond.codeWith_spec hcode
  cases Option.some.inj (hn8.symm.trans hnamed)
  cases hmethM.symm.trans hmethM'
  obtain ⟨c2, r2, m2, q1, q2, q3, q4, kP, hkP, hkPi⟩ := Cond.selects_spec hsel
  cases hcls.symm.trans q1
  cases (State.methodFound?_of_named hnamed hy).symm.trans q2
  cases hnamed.symm.trans q3
  have hselP : selectMethod e.platform s.vm cellB.cls mk = .method mk := by rw [Launch.admits_selectMethod X.admits]; exact q4
  obtain ⟨vm₁, X₁, hstep₁⟩ := X.invokevirtual hexec hown hlink hnamed hmethM hstM hkP hkPi hy (a := b) (cell := cellB) hcell
    (fun z h => by rw [h] at hobj; cases hobj) hselP hmethM habM hkP hkPi (g := g) hg (argsL := argsL) (rest := rest) (hlen _ hsigM) hstack hdg
  obtain ⟨v, B, X', hpost, hsteps⟩ := hK m meth c ⟨T.setVm vm₁, locs, cells, slots⟩ { g with stack := rest } (.invokevirtual index) mk (Value.ref b :: argsL).toArray X₁ hg hsize hdg hW (X₁.named hnamed) (hpre vm₁ X₁.warmed)
  exact ⟨v, vm₁, B, X₁.warmed, X', hpost, fun target h => hstep₁ _ fun acts => by rw [doInvoke_state]; exact hsteps.trans h⟩
abbrev vx_CVW (R : Room) (s : State) (args : Array Value) (own C : String) (index : Nat) (y : MethodName) (bytes : ByteArray) (maxL : Nat) (ret : Option FieldType) (hh : List (Nat × Nat × Nat × Nat)) (ws : List Cond) (rm : Room) (mc ms n : Nat) : Prop :=
  (rm.cells = mc ∧ rm.slots = ms ∧ rm.frames + 1 ≤ R.frames ∧ 8 + (maxL + 11) + rm.locals ≤ R.locals ∧ (∀ w ∈ ws, ∀ (a' : Array Value) (U : State), s.WarmedH U.vm → w.before a' U = true) ∧ Cond.codeWith y bytes maxL ret hh ∈ ws) ∧
  (Cond.codeWith y bytes maxL ret hh).before args s = true ∧ (Cond.initialized y.cls).before args s = true ∧ (y.cls ≠ "java/lang/invoke/MethodHandle" ∧ y.cls ≠ "java/lang/invoke/VarHandle") ∧
  (∀ sig, parseMethodDescriptor y.desc = some sig → n = sig.parameters.length) ∧ (Cond.methodLink own index y).before args s = true ∧ (Cond.instanceMethod y).before args s = true ∧ (Cond.selects C y y).before args s = true
theorem vx_cwVW {own C : String} {index maxL mc ms : Nat} {y : MethodName} {bytes : ByteArray} {ret : Option FieldType} {hh : List (Nat × Nat × Nat × Nat)} {Ts ws ws' : List Cond} {rm : Room} (n : Nat) (ht : ∀ w ∈ Ts, w.before args s = true) (hT : GoodIn Ts (wsV own index C y ws)) (hw : ws = Cond.codeWith y bytes maxL ret hh :: ws') (hrc : rm.cells = mc) (hrs : rm.slots = ms)
    (hd : y.cls = C ∧ y.cls ≠ "java/lang/invoke/MethodHandle" ∧ y.cls ≠ "java/lang/invoke/VarHandle" ∧ (parseMethodDescriptor y.desc).map (fun d => d.parameters.length) = some n) (hR : rm.frames + 1 ≤ R.frames ∧ 8 + (maxL + 11) + rm.locals ≤ R.locals) :
    vx_CVW R s args own C index y bytes maxL ret hh ws rm mc ms n := by
  obtain ⟨hC, hd⟩ := hd
  subst hC
  have ok : ∀ w ∈ wsV own index y.cls y ws, w.before args s = true := fun w h => ht w (hT w h).1
  have hG : GoodIn Ts ws := fun w h => hT w (by unfold wsV; exact List.mem_append_right _ h)
  have hc : Cond.codeWith y bytes maxL ret hh ∈ ws := by rw [hw]; exact List.mem_cons_self
  refine ⟨⟨hrc, hrs, hR.1, hR.2, pay_in ht hG, hc⟩, ht _ (hG _ hc).1, ok _ (by simp [wsV]), ⟨hd.1, hd.2.1⟩, fun sig h => ?_, ok _ (by simp [wsV]), ok _ (by simp [wsV]), ok _ (by simp [wsV])⟩
  have h2 := hd.2.2
  rw [h] at h2
  exact (Option.some.inj h2).symm
theorem vx_runVW {y : MethodName} {bytes cc : ByteArray} {maxL nL mc ms n index : Nat} {ret : Option FieldType} {hh : List (Nat × Nat × Nat × Nat)} {ws : List Cond} {rm : Room} {Pc : Array Value → State → Prop} {Qc : Array Value → State → Outcome → State → Prop} {free : Addr → Prop} {Ts : List Cond} {own C : String} {b : Addr} {As rest : List Value} {g : JFrame}
    (S : CallFix p m c cc nL s args Ts own) (hM : Met l y ws rm Pc Qc mc ms free) (cw : vx_CVW R s args own C index y bytes maxL ret hh ws rm mc ms n) (hp : PreV s H C b Pc As)
    (hg : g.method = m) (hn : As.length = n) (hsize : g.locals.size = nL) (hstack : g.stack = As.reverse ++ .ref b :: rest) (hW : 2 * g.monitorRoom + (rest.map fun v => v.category).sum ≤ 8) (hdg : decode cc g.pc = .ok (.invokevirtual index, 3)) (hf : cells + mc ≤ R.cells ∧ slots + ms ≤ R.slots) :
    va_Run p l e R s m args below meth c H locs cells slots mc ms g rest (Qc (Value.ref b :: As).toArray) free := by
  obtain ⟨⟨hrc, hrs, hfr, hlo, hws, hcw⟩, hcode, hini, hy, hlen, hl, hin, hse⟩ := cw
  have hK : Back l R p e below s args y 3 8 (PreOf R mc ms Pc) (PostOf Qc mc ms free) := va_backW (hh := hh) (bytes := bytes) (maxL := maxL) (ret := ret) hM hp.1 hrc hrs hfr hlo hws hcw (fun a' U hW => word_at hW (Or.inl (by first | rfl | simp [Cond.onTables, Cond.keeps, Cond.steady])) hini)
  obtain ⟨hx, hb, hml, ho, -⟩ := S
  obtain ⟨-, ⟨cellB, hcB, hoB, hclB⟩, hPc⟩ := hp
  intro T hT X
  obtain ⟨v, vm₁, ⟨U', l2, c2, s2⟩, hW₁, X', ⟨g', mk, t, L, e1, e2, hq, h1, hL, h2, h3⟩, st⟩ := vx_callVW X hx (C := C) (hh := hh) (bytes := bytes) (maxL := maxL) (ret := ret) ho hl hin hse hcode hy hK (by rw [hT]; exact hcB) hoB hclB hg (hsize.trans hml.symm) (argsL := As) (rest := rest) (fun sig h => hn.trans (hlen sig h)) hstack hW (by rw [hb]; exact hdg)
    (fun vm₁ hW₁ => ⟨hf.1, hf.2, hPc (T.setVm vm₁) hT hW₁⟩)
  dsimp only [Pt.U, Pt.locs, Pt.cells, Pt.slots] at X' e1 e2 h1 h2 h3 st
  subst h1; subst h2; subst h3
  exact ⟨v, (T.setVm vm₁).calling g' mk (Value.ref b :: As).toArray, t, U', L, hT, X', hL, e1, e2, hq, st⟩
section
variable {y : MethodName} {bytes cc : ByteArray} {maxL nL mc ms n index : Nat} {ret : Option FieldType} {ws : List Cond} {rm : Room} {Pc : Array Value → State → Prop} {Qc : Array Value → State → Outcome → State → Prop} {XC : String → State → State → Prop} {free : Addr → Prop} {Ts : List Cond} {own C : String} {b : Addr} {As rest : List Value} {g : JFrame}
theorem vx_runVX {hh : List (Nat × Nat × Nat × Nat)} (S : CallFix p m c cc nL s args Ts own) (hM : vx_Met l y ws rm Pc Qc XC mc ms free) (cw : vx_CVW R s args own C index y bytes maxL ret hh ws rm mc ms n) (hp : PreV s H C b Pc As)
    (hg : g.method = m) (hn : As.length = n) (hsize : g.locals.size = nL) (hstack : g.stack = As.reverse ++ .ref b :: rest) (hW : 2 * g.monitorRoom + (rest.map fun v => v.category).sum ≤ 8) (hdg : decode cc g.pc = .ok (.invokevirtual index, 3)) (hf : cells + mc ≤ R.cells ∧ slots + ms ≤ R.slots) :
    vx_Run p l e R s m args below meth c H locs cells slots mc ms g rest (Qc (Value.ref b :: As).toArray) XC free := by
  obtain ⟨⟨hrc, hrs, hfr, hlo, hws, hcw⟩, hcode, hini, hy, hlen, hl, hin, hse⟩ := cw
  have hK : vx_Back l R p e below s args y 3 8 (PreOf R mc ms Pc) (PostOf Qc mc ms free) (vx_Post XC mc ms free) := vx_backW (hh := hh) (bytes := bytes) (maxL := maxL) (ret := ret) hM hp.1 hrc hrs hfr hlo hws hcw (fun a' U hW => word_at hW (Or.inl (by first | rfl | simp [Cond.onTables, Cond.keeps, Cond.steady])) hini)
  obtain ⟨hx, hb, hml, ho, -⟩ := S
  obtain ⟨-, ⟨cellB, hcB, hoB, hclB⟩, hPc⟩ := hp
  intro T hT X
  rcases vx_callVX X hx (C := C) (hh := hh) (bytes := bytes) (maxL := maxL) (ret := ret) ho hl hin hse hcode hy hK (by rw [hT]; exact hcB) hoB hclB hg (hsize.trans hml.symm) (argsL := As) (rest := rest) (fun sig h => hn.trans (hlen sig h)) hstack hW (by rw [hb]; exact hdg)
    (fun vm₁ hW₁ => ⟨hf.1, hf.2, hPc (T.setVm vm₁) hT hW₁⟩) with ⟨v, vm₁, ⟨U', l2, c2, s2⟩, hW₁, X', ⟨g', mk, t, L, e1, e2, hq, h1, hL, h2, h3⟩, st⟩ | ⟨q, vm₁, ⟨U', l2, c2, s2⟩, hW₁, X', ⟨g', mk, t, L, E, ce, e1, e2, hq, hce, hcv, hcl, h1, hL, h2, h3⟩, st⟩
  · dsimp only [Pt.U, Pt.locs, Pt.cells, Pt.slots] at X' e1 e2 h1 h2 h3 st
    subst h1; subst h2; subst h3
    exact Or.inl ⟨v, (T.setVm vm₁).calling g' mk (Value.ref b :: As).toArray, t, U', L, hT, X', hL, e1, e2, hq, st⟩
  · dsimp only [Pt.U, Pt.locs, Pt.cells, Pt.slots] at X' e1 e2 h1 h2 h3 st hcl
    subst h1; subst h2; subst h3
    exact Or.inr ⟨q, (T.setVm vm₁).calling g' mk (Value.ref b :: As).toArray, t, U', L, E, ce, hT, X', hL, e1, e2, hq, hce, hcv, vx_cls hW₁ hcl, st⟩
theorem vx_runSX {hh : List (Nat × Nat × Nat × Nat)} (S : CallFix p m c cc nL s args Ts own) (hM : vx_Met l y ws rm Pc Qc XC mc ms free) (cw : vx_CSW R s args own index y bytes maxL ret hh ws rm mc ms n) (hp : PreS s H Pc As)
    (hg : g.method = m) (hn : As.length = n) (hsize : g.locals.size = nL) (hstack : g.stack = As.reverse ++ rest) (hW : 2 * g.monitorRoom + (rest.map fun v => v.category).sum ≤ 8) (hdg : decode cc g.pc = .ok (.invokestatic index, 3)) (hf : cells + mc ≤ R.cells ∧ slots + ms ≤ R.slots) :
    vx_Run p l e R s m args below meth c H locs cells slots mc ms g rest (Qc As.toArray) XC free := by
  obtain ⟨⟨hrc, hrs, hfr, hlo, hws, hcw⟩, hcode, hini, hy, hlen, hl, hstt⟩ := cw
  have hK : vx_Back l R p e below s args y 3 8 (PreOf R mc ms Pc) (PostOf Qc mc ms free) (vx_Post XC mc ms free) := vx_backW (hh := hh) (bytes := bytes) (maxL := maxL) (ret := ret) hM hp.1 hrc hrs hfr hlo hws hcw (fun a' U hW => word_at hW (Or.inl (by first | rfl | simp [Cond.onTables, Cond.keeps, Cond.steady])) hini)
  obtain ⟨hx, hb, hml, ho, -⟩ := S
  intro T hT X
  rcases vx_callSX X hx (hh := hh) (bytes := bytes) (maxL := maxL) (ret := ret) ho hl hstt hini hcode hy hK hg (hsize.trans hml.symm) (argsL := As) (rest := rest) (fun sig h => hn.trans (hlen sig h)) hstack hW (by rw [hb]; exact hdg)
    (fun vm₁ hW₁ => ⟨hf.1, hf.2, hp.2 (T.setVm vm₁) hT hW₁⟩) with ⟨v, vm₁, ⟨U', l2, c2, s2⟩, hW₁, X', ⟨g', mk, t, L, e1, e2, hq, h1, hL, h2, h3⟩, st⟩ | ⟨q, vm₁, ⟨U', l2, c2, s2⟩, hW₁, X', ⟨g', mk, t, L, E, ce, e1, e2, hq, hce, hcv, hcl, h1, hL, h2, h3⟩, st⟩
  · dsimp only [Pt.U, Pt.locs, Pt.cells, Pt.slots] at X' e1 e2 h1 h2 h3 st
    subst h1; subst h2; subst h3
    exact Or.inl ⟨v, (T.setVm vm₁).calling g' mk As.toArray, t, U', L, hT, X', hL, e1, e2, hq, st⟩
  · dsimp only [Pt.U, Pt.locs, Pt.cells, Pt.slots] at X' e1 e2 h1 h2 h3 st hcl
    subst h1; subst h2; subst h3
    exact Or.inr ⟨q, (T.setVm vm₁).calling g' mk As.toArray, t, U', L, E, ce, hT, X', hL, e1, e2, hq, hce, hcv, vx_cls hW₁ hcl, st⟩
end
end VXH
theorem vx_ofWH {l : Launch} {y : MethodName} {ws ws' : List Cond} {rm : Room} {Pc : Array Value → State → Prop} {Qc : Array Value → State → Outcome → State → Prop} {XC : String → State → State → Prop} {mc ms : Nat} {free : Addr → Prop} {cc : ByteArray} {maxL : Nat} {ret : Option FieldType} {hh : List (Nat × Nat × Nat × Nat)}
    (hy : plainName y.cls = true) (hw : ws = Cond.codeWith y cc maxL ret hh :: ws')
    (body : ∀ p e s m args below meth c s₁, BodyLoose p l y (headSpec ws rm) cc maxL ret e s m args below meth c s₁ → c.maxLocals = maxL → Pc args s →
      W p l e (headSpec ws rm).room s m args below meth c s.heap [] 0 0 (vx_MQ below Qc XC args s mc ms free) (entryFrame m args maxL)) : vx_Met l y ws rm Pc Qc XC mc ms free := by
  refine MetFree.of_bodyS (code := cc) (maxLocals := maxL) (ret := ret) hy ?_ ?_
  · intro args s m h hn
    obtain ⟨m9, meth, c, hn9, h1, h2, h3, h4, -, h5, h6, -⟩ := Cond.codeWith_spec (atoms_spec (ws := ws) h _ (by rw [hw]; exact List.mem_cons_self))
    cases hn.symm.trans hn9
    exact ⟨meth, c, h1, h2, h3, h4, h5, h6⟩
  · intro p e s m args below meth c s₁ B hml hP _
    have hh0 : s₁.heap = s.heap := by rw [B.state]; rfl
    obtain ⟨t, a1, o, b1, b2, b3⟩ := body p e s m args below meth c s₁ B hml hP s₁ hh0 (Stand.of_body B)
    exact ⟨t, o, a1, b1, b2, b3⟩
/-! ===== END ===== -/
end
section
def RX0 : String := "SeamarkNet$Frame"
def TX0 : u_T := fun k => match k with
  | 0 => ("SeamarkNet$Frame", "cable", "I", false)
  | 1 => ("SeamarkNet$Frame", "from", "I", false)
  | 2 => ("SeamarkNet$Frame", "to", "I", false)
  | 3 => ("SeamarkNet$Frame", "sort", "I", false)
  | 4 => ("SeamarkNet$Frame", "address", "I", false)
  | 5 => ("SeamarkNet$Frame", "packet", "LSeamarkNet$Packet;", false)
  | _ => ("SeamarkNet$Frame", "next", "LSeamarkNet$Frame;", false)
def tyX0 : Nat → FieldType := fun k => match k with
  | 0 => .int
  | 1 => .int
  | 2 => .int
  | 3 => .int
  | 4 => .int
  | 5 => .object "SeamarkNet$Packet"
  | _ => .object "SeamarkNet$Frame"
abbrev wsX00 : List Cond := u_ws RX0 TX0 7
theorem nmX0 : ∀ a, a < 7 → ∀ b, b < 7 → a ≠ b → (TX0 a).2.1 ≠ (TX0 b).2.1 := by decide +kernel
theorem tyX0_ok : ∀ k, k < 7 → parseFieldDescriptor (TX0 k).2.2.1 = some (tyX0 k) := by decide +kernel
abbrev cX0_init : ByteArray := prog_2_method_1_code
def yX0_init : MethodName := ⟨RX0, "<init>", "()V"⟩
abbrev cX0_part : ByteArray := prog_2_method_2_code
def yX0_part : MethodName := ⟨RX0, "part", "(I)I"⟩
abbrev cX0_partWithout : ByteArray := prog_2_method_3_code
def yX0_partWithout : MethodName := ⟨RX0, "partWithout", "(I)I"⟩
abbrev cX0_partOf : ByteArray := prog_2_method_4_code
def yX0_partOf : MethodName := ⟨RX0, "partOf", "(LSeamarkNet$Packet;I)I"⟩
def RX1 : String := "SeamarkNet$Heap"
def TX1 : u_T := fun k => match k with
  | 0 => ("SeamarkNet$Heap", "from", "I", false)
  | 1 => ("SeamarkNet$Heap", "number", "I", false)
  | _ => ("SeamarkNet$Heap", "first", "LSeamarkNet$Packet;", false)
def tyX1 : Nat → FieldType := fun k => match k with
  | 0 => .int
  | 1 => .int
  | _ => .object "SeamarkNet$Packet"
abbrev wsX10 : List Cond := u_ws RX1 TX1 3
theorem nmX1 : ∀ a, a < 3 → ∀ b, b < 3 → a ≠ b → (TX1 a).2.1 ≠ (TX1 b).2.1 := by decide +kernel
theorem tyX1_ok : ∀ k, k < 3 → parseFieldDescriptor (TX1 k).2.2.1 = some (tyX1 k) := by decide +kernel
abbrev cX1_init : ByteArray := prog_3_method_1_code
def yX1_init : MethodName := ⟨RX1, "<init>", "()V"⟩
abbrev cX1_begin : ByteArray := prog_3_method_2_code
def yX1_begin : MethodName := ⟨RX1, "begin", "(LSeamarkNet$Packet;)V"⟩
abbrev cX1_put : ByteArray := prog_3_method_3_code
def yX1_put : MethodName := ⟨RX1, "put", "(LSeamarkNet$Packet;)Z"⟩
abbrev cX1_wholeSize : ByteArray := prog_3_method_4_code
def yX1_wholeSize : MethodName := ⟨RX1, "wholeSize", "()I"⟩
def RX2 : String := "SeamarkNet$Host"
def TX2 : u_T := fun k => match k with
  | 0 => ("SeamarkNet$Host", "machine", "LSeamarkNet$Machine;", true)
  | 1 => ("SeamarkNet$Host", "waitingCount", "I", false)
  | 2 => ("SeamarkNet$Host", "heapCount", "I", false)
  | 3 => ("SeamarkNet$Host", "noteCount", "I", false)
  | 4 => ("SeamarkNet$Host", "goneCount", "I", false)
  | 5 => ("SeamarkNet$Host", "marks", "[I", true)
  | 6 => ("SeamarkNet$Host", "firstWaiting", "LSeamarkNet$Packet;", false)
  | 7 => ("SeamarkNet$Host", "lastWaiting", "LSeamarkNet$Packet;", false)
  | 8 => ("SeamarkNet$Host", "kept", "[LSeamarkNet$Heap;", true)
  | _ => ("SeamarkNet$Host", "notes", "[I", true)
def tyX2 : Nat → FieldType := fun k => match k with
  | 0 => .object "SeamarkNet$Machine"
  | 1 => .int
  | 2 => .int
  | 3 => .int
  | 4 => .int
  | 5 => .array .int
  | 6 => .object "SeamarkNet$Packet"
  | 7 => .object "SeamarkNet$Packet"
  | 8 => .array (.object "SeamarkNet$Heap")
  | _ => .array .int
abbrev wsX20 : List Cond := u_ws RX2 TX2 10
theorem nmX2 : ∀ a, a < 10 → ∀ b, b < 10 → a ≠ b → (TX2 a).2.1 ≠ (TX2 b).2.1 := by decide +kernel
theorem tyX2_ok : ∀ k, k < 10 → parseFieldDescriptor (TX2 k).2.2.1 = some (tyX2 k) := by decide +kernel
abbrev cX2_init : ByteArray := prog_4_method_1_code
def yX2_init : MethodName := ⟨RX2, "<init>", "(LSeamarkNet$Machine;)V"⟩
abbrev cX2_knownMark : ByteArray := prog_4_method_2_code
def yX2_knownMark : MethodName := ⟨RX2, "knownMark", "(I)I"⟩
abbrev cX2_learn : ByteArray := prog_4_method_3_code
def yX2_learn : MethodName := ⟨RX2, "learn", "(II)V"⟩
abbrev cX2_clearKnown : ByteArray := prog_4_method_4_code
def yX2_clearKnown : MethodName := ⟨RX2, "clearKnown", "()I"⟩
abbrev cX2_putToWait : ByteArray := prog_4_method_5_code
def yX2_putToWait : MethodName := ⟨RX2, "putToWait", "(LSeamarkNet$Packet;)V"⟩
abbrev cX2_dropFirstWaiting : ByteArray := prog_4_method_6_code
def yX2_dropFirstWaiting : MethodName := ⟨RX2, "dropFirstWaiting", "()V"⟩
abbrev cX2_countWaitingFor : ByteArray := prog_4_method_7_code
def yX2_countWaitingFor : MethodName := ⟨RX2, "countWaitingFor", "(I)I"⟩
abbrev cX2_takeWaiting : ByteArray := prog_4_method_8_code
def yX2_takeWaiting : MethodName := ⟨RX2, "takeWaiting", "()LSeamarkNet$Packet;"⟩
abbrev cX2_gather : ByteArray := prog_4_method_9_code
def yX2_gather : MethodName := ⟨RX2, "gather", "(LSeamarkNet$Packet;)LSeamarkNet$Packet;"⟩
abbrev cX2_findHeap : ByteArray := prog_4_method_10_code
def yX2_findHeap : MethodName := ⟨RX2, "findHeap", "(LSeamarkNet$Packet;)I"⟩
abbrev cX2_beginHeap : ByteArray := prog_4_method_11_code
def yX2_beginHeap : MethodName := ⟨RX2, "beginHeap", "(LSeamarkNet$Packet;)I"⟩
abbrev cX2_dropHeap : ByteArray := prog_4_method_12_code
def yX2_dropHeap : MethodName := ⟨RX2, "dropHeap", "(I)V"⟩
abbrev cX2_unwrap : ByteArray := prog_4_method_13_code
def yX2_unwrap : MethodName := ⟨RX2, "unwrap", "(LSeamarkNet$Packet;)LSeamarkNet$Packet;"⟩
abbrev cX2_writeNote : ByteArray := prog_4_method_14_code
def yX2_writeNote : MethodName := ⟨RX2, "writeNote", "(LSeamarkNet$Packet;)V"⟩
abbrev cX2_isTold : ByteArray := prog_4_method_15_code
def yX2_isTold : MethodName := ⟨RX2, "isTold", "(I)Z"⟩
abbrev cX2_notePart : ByteArray := prog_4_method_16_code
def yX2_notePart : MethodName := ⟨RX2, "notePart", "(II)I"⟩
abbrev cX2_dropWaitingAndKept : ByteArray := prog_4_method_17_code
def yX2_dropWaitingAndKept : MethodName := ⟨RX2, "dropWaitingAndKept", "()V"⟩
abbrev cX2_learnAllOf : ByteArray := prog_4_method_18_code
def yX2_learnAllOf : MethodName := ⟨RX2, "learnAllOf", "(LSeamarkNet$Host;)V"⟩
def RX3 : String := "SeamarkNet$Machine"
def TX3 : u_T := fun k => match k with
  | 0 => ("SeamarkNet$Machine", "number", "I", true)
  | 1 => ("SeamarkNet$Machine", "isForwarding", "Z", false)
  | 2 => ("SeamarkNet$Machine", "ports", "[LSeamarkNet$Port;", true)
  | 3 => ("SeamarkNet$Machine", "portCount", "I", false)
  | 4 => ("SeamarkNet$Machine", "routeAddress", "[I", true)
  | 5 => ("SeamarkNet$Machine", "routeLength", "[I", true)
  | 6 => ("SeamarkNet$Machine", "routeVia", "[I", true)
  | 7 => ("SeamarkNet$Machine", "routeCount", "I", false)
  | 8 => ("SeamarkNet$Machine", "tunnelFar", "[I", true)
  | 9 => ("SeamarkNet$Machine", "tunnelCount", "I", false)
  | 10 => ("SeamarkNet$Machine", "wayPort", "[I", true)
  | 11 => ("SeamarkNet$Machine", "wayHop", "[I", true)
  | _ => ("SeamarkNet$Machine", "wayLength", "[I", true)
def tyX3 : Nat → FieldType := fun k => match k with
  | 0 => .int
  | 1 => .boolean
  | 2 => .array (.object "SeamarkNet$Port")
  | 3 => .int
  | 4 => .array .int
  | 5 => .array .int
  | 6 => .array .int
  | 7 => .int
  | 8 => .array .int
  | 9 => .int
  | 10 => .array .int
  | 11 => .array .int
  | _ => .array .int
abbrev wsX30 : List Cond := u_ws RX3 TX3 13
theorem nmX3 : ∀ a, a < 13 → ∀ b, b < 13 → a ≠ b → (TX3 a).2.1 ≠ (TX3 b).2.1 := by decide +kernel
theorem tyX3_ok : ∀ k, k < 13 → parseFieldDescriptor (TX3 k).2.2.1 = some (tyX3 k) := by decide +kernel
abbrev cX3_init : ByteArray := prog_5_method_1_code
def yX3_init : MethodName := ⟨RX3, "<init>", "(I)V"⟩
abbrev cX3_addNextPort : ByteArray := prog_5_method_2_code
def yX3_addNextPort : MethodName := ⟨RX3, "addNextPort", "(III)LSeamarkNet$Port;"⟩
abbrev cX3_putTunnel : ByteArray := prog_5_method_3_code
def yX3_putTunnel : MethodName := ⟨RX3, "putTunnel", "(I)I"⟩
abbrev cX3_putRoute : ByteArray := prog_5_method_4_code
def yX3_putRoute : MethodName := ⟨RX3, "putRoute", "(III)I"⟩
abbrev cX3_mayLeadVia : ByteArray := prog_5_method_6_code
def yX3_mayLeadVia : MethodName := ⟨RX3, "mayLeadVia", "(I)Z"⟩
abbrev cX3_port : ByteArray := prog_5_method_7_code
def yX3_port : MethodName := ⟨RX3, "port", "(I)LSeamarkNet$Port;"⟩
abbrev cX3_owns : ByteArray := prog_5_method_8_code
def yX3_owns : MethodName := ⟨RX3, "owns", "(I)Z"⟩
abbrev cX3_hasTunnelTo : ByteArray := prog_5_method_9_code
def yX3_hasTunnelTo : MethodName := ⟨RX3, "hasTunnelTo", "(I)Z"⟩
abbrev cX3_farOf : ByteArray := prog_5_method_10_code
def yX3_farOf : MethodName := ⟨RX3, "farOf", "(I)I"⟩
abbrev cX3_portTo : ByteArray := prog_5_method_11_code
def yX3_portTo : MethodName := ⟨RX3, "portTo", "(I)I"⟩
abbrev cX3_hopTo : ByteArray := prog_5_method_12_code
def yX3_hopTo : MethodName := ⟨RX3, "hopTo", "(I)I"⟩
abbrev cX3_lengthTo : ByteArray := prog_5_method_13_code
def yX3_lengthTo : MethodName := ⟨RX3, "lengthTo", "(I)I"⟩
abbrev cX3_layWays : ByteArray := prog_5_method_14_code
def yX3_layWays : MethodName := ⟨RX3, "layWays", "()V"⟩
abbrev cX3_layByRoute : ByteArray := prog_5_method_15_code
def yX3_layByRoute : MethodName := ⟨RX3, "layByRoute", "(II)V"⟩
abbrev cX3_layWay : ByteArray := prog_5_method_16_code
def yX3_layWay : MethodName := ⟨RX3, "layWay", "(IIII)V"⟩
abbrev cX3_portWithNetOf : ByteArray := prog_5_method_17_code
def yX3_portWithNetOf : MethodName := ⟨RX3, "portWithNetOf", "(I)I"⟩
abbrev cX3_routeFor : ByteArray := prog_5_method_18_code
def yX3_routeFor : MethodName := ⟨RX3, "routeFor", "(I)I"⟩
abbrev cX3_netHas : ByteArray := prog_5_method_19_code
def yX3_netHas : MethodName := ⟨RX3, "netHas", "(III)Z"⟩
def RX4 : String := "SeamarkNet$Packet"
def TX4 : u_T := fun k => match k with
  | 0 => ("SeamarkNet$Packet", "kind", "I", false)
  | 1 => ("SeamarkNet$Packet", "from", "I", false)
  | 2 => ("SeamarkNet$Packet", "to", "I", false)
  | 3 => ("SeamarkNet$Packet", "size", "I", false)
  | 4 => ("SeamarkNet$Packet", "ttl", "I", false)
  | 5 => ("SeamarkNet$Packet", "number", "I", false)
  | 6 => ("SeamarkNet$Packet", "about", "I", false)
  | 7 => ("SeamarkNet$Packet", "place", "I", false)
  | 8 => ("SeamarkNet$Packet", "isWhole", "Z", false)
  | 9 => ("SeamarkNet$Packet", "hasMore", "Z", false)
  | 10 => ("SeamarkNet$Packet", "inside", "LSeamarkNet$Packet;", false)
  | 11 => ("SeamarkNet$Packet", "hop", "I", false)
  | 12 => ("SeamarkNet$Packet", "by", "LSeamarkNet$Port;", false)
  | 13 => ("SeamarkNet$Packet", "next", "LSeamarkNet$Packet;", false)
  | _ => ("SeamarkNet$Packet", "made", "LSeamarkNet$Packet;", false)
def tyX4 : Nat → FieldType := fun k => match k with
  | 0 => .int
  | 1 => .int
  | 2 => .int
  | 3 => .int
  | 4 => .int
  | 5 => .int
  | 6 => .int
  | 7 => .int
  | 8 => .boolean
  | 9 => .boolean
  | 10 => .object "SeamarkNet$Packet"
  | 11 => .int
  | 12 => .object "SeamarkNet$Port"
  | 13 => .object "SeamarkNet$Packet"
  | _ => .object "SeamarkNet$Packet"
abbrev wsX40 : List Cond := u_ws RX4 TX4 15
theorem nmX4 : ∀ a, a < 15 → ∀ b, b < 15 → a ≠ b → (TX4 a).2.1 ≠ (TX4 b).2.1 := by decide +kernel
theorem tyX4_ok : ∀ k, k < 15 → parseFieldDescriptor (TX4 k).2.2.1 = some (tyX4 k) := by decide +kernel
abbrev cX4_init : ByteArray := prog_6_method_1_code
def yX4_init : MethodName := ⟨RX4, "<init>", "()V"⟩
abbrev cX4_isPiece : ByteArray := prog_6_method_2_code
def yX4_isPiece : MethodName := ⟨RX4, "isPiece", "()Z"⟩
abbrev cX4_isComplaint : ByteArray := prog_6_method_3_code
def yX4_isComplaint : MethodName := ⟨RX4, "isComplaint", "()Z"⟩
abbrev cX4_cutFrom : ByteArray := prog_6_method_4_code
def yX4_cutFrom : MethodName := ⟨RX4, "cutFrom", "(LSeamarkNet$Packet;II)V"⟩
def RX5 : String := "SeamarkNet$Plan"
def TX5 : u_T := fun k => match k with
  | 0 => ("SeamarkNet$Plan", "widths", "[I", true)
  | 1 => ("SeamarkNet$Plan", "cableCount", "I", false)
  | 2 => ("SeamarkNet$Plan", "machines", "[LSeamarkNet$Machine;", true)
  | 3 => ("SeamarkNet$Plan", "machineCount", "I", false)
  | _ => ("SeamarkNet$Plan", "owners", "[LSeamarkNet$Port;", true)
def tyX5 : Nat → FieldType := fun k => match k with
  | 0 => .array .int
  | 1 => .int
  | 2 => .array (.object "SeamarkNet$Machine")
  | 3 => .int
  | _ => .array (.object "SeamarkNet$Port")
abbrev wsX50 : List Cond := u_ws RX5 TX5 5
theorem nmX5 : ∀ a, a < 5 → ∀ b, b < 5 → a ≠ b → (TX5 a).2.1 ≠ (TX5 b).2.1 := by decide +kernel
theorem tyX5_ok : ∀ k, k < 5 → parseFieldDescriptor (TX5 k).2.2.1 = some (tyX5 k) := by decide +kernel
abbrev cX5_init : ByteArray := prog_7_method_1_code
def yX5_init : MethodName := ⟨RX5, "<init>", "()V"⟩
abbrev cX5_putCable : ByteArray := prog_7_method_2_code
def yX5_putCable : MethodName := ⟨RX5, "putCable", "(I)I"⟩
abbrev cX5_widthOf : ByteArray := prog_7_method_3_code
def yX5_widthOf : MethodName := ⟨RX5, "widthOf", "(I)I"⟩
abbrev cX5_changeWidth : ByteArray := prog_7_method_4_code
def yX5_changeWidth : MethodName := ⟨RX5, "changeWidth", "(II)I"⟩
abbrev cX5_putMachine : ByteArray := prog_7_method_5_code
def yX5_putMachine : MethodName := ⟨RX5, "putMachine", "(Z)I"⟩
abbrev cX5_putPort : ByteArray := prog_7_method_6_code
def yX5_putPort : MethodName := ⟨RX5, "putPort", "(LSeamarkNet$Machine;III)LSeamarkNet$Port;"⟩
abbrev cX5_portWithAddress : ByteArray := prog_7_method_7_code
def yX5_portWithAddress : MethodName := ⟨RX5, "portWithAddress", "(I)LSeamarkNet$Port;"⟩
abbrev cX5_portWithMark : ByteArray := prog_7_method_8_code
def yX5_portWithMark : MethodName := ⟨RX5, "portWithMark", "(I)LSeamarkNet$Port;"⟩
def RX6 : String := "SeamarkNet$Pool"
def TX6 : u_T := fun k => match k with
  | 0 => ("SeamarkNet$Pool", "first", "LSeamarkNet$Packet;", false)
  | _ => ("SeamarkNet$Pool", "last", "LSeamarkNet$Packet;", false)
def tyX6 : Nat → FieldType := fun k => match k with
  | 0 => .object "SeamarkNet$Packet"
  | _ => .object "SeamarkNet$Packet"
abbrev wsX60 : List Cond := u_ws RX6 TX6 2
theorem nmX6 : ∀ a, a < 2 → ∀ b, b < 2 → a ≠ b → (TX6 a).2.1 ≠ (TX6 b).2.1 := by decide +kernel
theorem tyX6_ok : ∀ k, k < 2 → parseFieldDescriptor (TX6 k).2.2.1 = some (tyX6 k) := by decide +kernel
abbrev cX6_init : ByteArray := prog_8_method_1_code
def yX6_init : MethodName := ⟨RX6, "<init>", "()V"⟩
abbrev cX6_take : ByteArray := prog_8_method_2_code
def yX6_take : MethodName := ⟨RX6, "take", "()LSeamarkNet$Packet;"⟩
abbrev cX6_takeBackAll : ByteArray := prog_8_method_3_code
def yX6_takeBackAll : MethodName := ⟨RX6, "takeBackAll", "()V"⟩
def RX7 : String := "SeamarkNet$Port"
def TX7 : u_T := fun k => match k with
  | 0 => ("SeamarkNet$Port", "mark", "I", true)
  | 1 => ("SeamarkNet$Port", "cable", "I", true)
  | 2 => ("SeamarkNet$Port", "address", "I", true)
  | _ => ("SeamarkNet$Port", "length", "I", true)
def tyX7 : Nat → FieldType := fun k => match k with
  | 0 => .int
  | 1 => .int
  | 2 => .int
  | _ => .int
abbrev wsX70 : List Cond := u_ws RX7 TX7 4
theorem nmX7 : ∀ a, a < 4 → ∀ b, b < 4 → a ≠ b → (TX7 a).2.1 ≠ (TX7 b).2.1 := by decide +kernel
theorem tyX7_ok : ∀ k, k < 4 → parseFieldDescriptor (TX7 k).2.2.1 = some (tyX7 k) := by decide +kernel
abbrev cX7_init : ByteArray := prog_9_method_1_code
def yX7_init : MethodName := ⟨RX7, "<init>", "(IIII)V"⟩
def RX8 : String := "SeamarkNet$Row"
def TX8 : u_T := fun k => match k with
  | 0 => ("SeamarkNet$Row", "first", "LSeamarkNet$Frame;", false)
  | 1 => ("SeamarkNet$Row", "length", "I", false)
  | 2 => ("SeamarkNet$Row", "last", "LSeamarkNet$Frame;", false)
  | _ => ("SeamarkNet$Row", "spare", "LSeamarkNet$Frame;", false)
def tyX8 : Nat → FieldType := fun k => match k with
  | 0 => .object "SeamarkNet$Frame"
  | 1 => .int
  | 2 => .object "SeamarkNet$Frame"
  | _ => .object "SeamarkNet$Frame"
abbrev wsX80 : List Cond := u_ws RX8 TX8 4
theorem nmX8 : ∀ a, a < 4 → ∀ b, b < 4 → a ≠ b → (TX8 a).2.1 ≠ (TX8 b).2.1 := by decide +kernel
theorem tyX8_ok : ∀ k, k < 4 → parseFieldDescriptor (TX8 k).2.2.1 = some (tyX8 k) := by decide +kernel
abbrev cX8_init : ByteArray := prog_10_method_1_code
def yX8_init : MethodName := ⟨RX8, "<init>", "()V"⟩
abbrev cX8_add : ByteArray := prog_10_method_2_code
def yX8_add : MethodName := ⟨RX8, "add", "(ILSeamarkNet$Port;IILSeamarkNet$Packet;)V"⟩
abbrev cX8_takeFirst : ByteArray := prog_10_method_3_code
def yX8_takeFirst : MethodName := ⟨RX8, "takeFirst", "()LSeamarkNet$Frame;"⟩
abbrev cX8_reuse : ByteArray := prog_10_method_4_code
def yX8_reuse : MethodName := ⟨RX8, "reuse", "(LSeamarkNet$Frame;)V"⟩
abbrev cX8_find : ByteArray := prog_10_method_5_code
def yX8_find : MethodName := ⟨RX8, "find", "(I)LSeamarkNet$Frame;"⟩
abbrev cX8_clear : ByteArray := prog_10_method_6_code
def yX8_clear : MethodName := ⟨RX8, "clear", "()V"⟩
def RX9 : String := "SeamarkNet$Traffic"
def TX9 : u_T := fun k => match k with
  | 0 => ("SeamarkNet$Traffic", "row", "LSeamarkNet$Row;", true)
  | 1 => ("SeamarkNet$Traffic", "packetCount", "I", false)
  | 2 => ("SeamarkNet$Traffic", "stepCount", "I", false)
  | 3 => ("SeamarkNet$Traffic", "packetSteps", "I", false)
  | 4 => ("SeamarkNet$Traffic", "plan", "LSeamarkNet$Plan;", true)
  | 5 => ("SeamarkNet$Traffic", "pool", "LSeamarkNet$Pool;", true)
  | 6 => ("SeamarkNet$Traffic", "hosts", "[LSeamarkNet$Host;", true)
  | _ => ("SeamarkNet$Traffic", "deliveredOn", "[I", true)
def tyX9 : Nat → FieldType := fun k => match k with
  | 0 => .object "SeamarkNet$Row"
  | 1 => .int
  | 2 => .int
  | 3 => .int
  | 4 => .object "SeamarkNet$Plan"
  | 5 => .object "SeamarkNet$Pool"
  | 6 => .array (.object "SeamarkNet$Host")
  | _ => .array .int
abbrev wsX90 : List Cond := u_ws RX9 TX9 8
theorem nmX9 : ∀ a, a < 8 → ∀ b, b < 8 → a ≠ b → (TX9 a).2.1 ≠ (TX9 b).2.1 := by decide +kernel
theorem tyX9_ok : ∀ k, k < 8 → parseFieldDescriptor (TX9 k).2.2.1 = some (tyX9 k) := by decide +kernel
abbrev cX9_init : ByteArray := prog_11_method_1_code
def yX9_init : MethodName := ⟨RX9, "<init>", "(LSeamarkNet$Plan;)V"⟩
abbrev cX9_host : ByteArray := prog_11_method_2_code
def yX9_host : MethodName := ⟨RX9, "host", "(I)LSeamarkNet$Host;"⟩
abbrev cX9_hostWithMark : ByteArray := prog_11_method_3_code
def yX9_hostWithMark : MethodName := ⟨RX9, "hostWithMark", "(I)LSeamarkNet$Host;"⟩
abbrev cX9_carriedOn : ByteArray := prog_11_method_4_code
def yX9_carriedOn : MethodName := ⟨RX9, "carriedOn", "(I)I"⟩
abbrev cX9_goneInAll : ByteArray := prog_11_method_5_code
def yX9_goneInAll : MethodName := ⟨RX9, "goneInAll", "()I"⟩
abbrev cX9_takeOver : ByteArray := prog_11_method_6_code
def yX9_takeOver : MethodName := ⟨RX9, "takeOver", "(LSeamarkNet$Traffic;)V"⟩
abbrev cX9_dropAllUnderWay : ByteArray := prog_11_method_7_code
def yX9_dropAllUnderWay : MethodName := ⟨RX9, "dropAllUnderWay", "()V"⟩
abbrev cX9_launch : ByteArray := prog_11_method_8_code
def yX9_launch : MethodName := ⟨RX9, "launch", "(LSeamarkNet$Host;IIIIZ)I"⟩
abbrev cX9_bear : ByteArray := prog_11_method_9_code
def yX9_bear : MethodName := ⟨RX9, "bear", "(IIII)LSeamarkNet$Packet;"⟩
abbrev cX9_sourceFor : ByteArray := prog_11_method_10_code
def yX9_sourceFor : MethodName := ⟨RX9, "sourceFor", "(LSeamarkNet$Machine;I)I"⟩
abbrev cX9_goOut : ByteArray := prog_11_method_11_code
def yX9_goOut : MethodName := ⟨RX9, "goOut", "(LSeamarkNet$Host;LSeamarkNet$Packet;)V"⟩
abbrev cX9_canWrap : ByteArray := prog_11_method_12_code
def yX9_canWrap : MethodName := ⟨RX9, "canWrap", "(LSeamarkNet$Machine;LSeamarkNet$Packet;)Z"⟩
abbrev cX9_wrap : ByteArray := prog_11_method_13_code
def yX9_wrap : MethodName := ⟨RX9, "wrap", "(LSeamarkNet$Machine;LSeamarkNet$Packet;)LSeamarkNet$Packet;"⟩
abbrev cX9_goByPort : ByteArray := prog_11_method_14_code
def yX9_goByPort : MethodName := ⟨RX9, "goByPort", "(LSeamarkNet$Host;LSeamarkNet$Port;LSeamarkNet$Packet;)V"⟩
abbrev cX9_goToHop : ByteArray := prog_11_method_15_code
def yX9_goToHop : MethodName := ⟨RX9, "goToHop", "(LSeamarkNet$Host;LSeamarkNet$Port;LSeamarkNet$Packet;)V"⟩
abbrev cX9_complain : ByteArray := prog_11_method_16_code
def yX9_complain : MethodName := ⟨RX9, "complain", "(LSeamarkNet$Host;LSeamarkNet$Packet;II)LSeamarkNet$Packet;"⟩
abbrev cX9_deliverNext : ByteArray := prog_11_method_17_code
def yX9_deliverNext : MethodName := ⟨RX9, "deliverNext", "()Z"⟩
abbrev cX9_hearQuestion : ByteArray := prog_11_method_18_code
def yX9_hearQuestion : MethodName := ⟨RX9, "hearQuestion", "(LSeamarkNet$Frame;)V"⟩
abbrev cX9_hearReply : ByteArray := prog_11_method_19_code
def yX9_hearReply : MethodName := ⟨RX9, "hearReply", "(LSeamarkNet$Frame;)V"⟩
abbrev cX9_come : ByteArray := prog_11_method_20_code
def yX9_come : MethodName := ⟨RX9, "come", "(LSeamarkNet$Host;LSeamarkNet$Packet;)LSeamarkNet$Packet;"⟩
abbrev cX9_accept : ByteArray := prog_11_method_21_code
def yX9_accept : MethodName := ⟨RX9, "accept", "(LSeamarkNet$Host;LSeamarkNet$Packet;)LSeamarkNet$Packet;"⟩
abbrev cX9_complainOfWaiting : ByteArray := prog_11_method_22_code
def yX9_complainOfWaiting : MethodName := ⟨RX9, "complainOfWaiting", "(LSeamarkNet$Host;)I"⟩
def RX10 : String := "SeamarkNet$Trial"
def TX10 : u_T := fun k => match k with
  | 0 => ("SeamarkNet$Trial", "isAnswered", "Z", false)
  | 1 => ("SeamarkNet$Trial", "toldKind", "I", false)
  | 2 => ("SeamarkNet$Trial", "toldFrom", "I", false)
  | 3 => ("SeamarkNet$Trial", "toldAbout", "I", false)
  | 4 => ("SeamarkNet$Trial", "traffic", "LSeamarkNet$Traffic;", true)
  | 5 => ("SeamarkNet$Trial", "number", "I", false)
  | _ => ("SeamarkNet$Trial", "seen", "I", false)
def tyX10 : Nat → FieldType := fun k => match k with
  | 0 => .boolean
  | 1 => .int
  | 2 => .int
  | 3 => .int
  | 4 => .object "SeamarkNet$Traffic"
  | 5 => .int
  | _ => .int
abbrev wsX100 : List Cond := u_ws RX10 TX10 7
theorem nmX10 : ∀ a, a < 7 → ∀ b, b < 7 → a ≠ b → (TX10 a).2.1 ≠ (TX10 b).2.1 := by decide +kernel
theorem tyX10_ok : ∀ k, k < 7 → parseFieldDescriptor (TX10 k).2.2.1 = some (tyX10 k) := by decide +kernel
abbrev cX10_init : ByteArray := prog_12_method_1_code
def yX10_init : MethodName := ⟨RX10, "<init>", "(LSeamarkNet$Plan;)V"⟩
abbrev cX10_begin : ByteArray := prog_12_method_2_code
def yX10_begin : MethodName := ⟨RX10, "begin", "(LSeamarkNet$Traffic;)V"⟩
abbrev cX10_ask : ByteArray := prog_12_method_3_code
def yX10_ask : MethodName := ⟨RX10, "ask", "(IIIIZ)V"⟩
abbrev cX10_look : ByteArray := prog_12_method_4_code
def yX10_look : MethodName := ⟨RX10, "look", "(LSeamarkNet$Host;)V"⟩
def RX11 : String := "SeamarkNet"
def TX11 : u_T := fun k => match k with
  | 0 => ("SeamarkNet", "plan", "LSeamarkNet$Plan;", true)
  | 1 => ("SeamarkNet", "now", "LSeamarkNet$Traffic;", true)
  | _ => ("SeamarkNet", "trial", "LSeamarkNet$Trial;", true)
def tyX11 : Nat → FieldType := fun k => match k with
  | 0 => .object "SeamarkNet$Plan"
  | 1 => .object "SeamarkNet$Traffic"
  | _ => .object "SeamarkNet$Trial"
abbrev wsX110 : List Cond := u_ws RX11 TX11 3
theorem nmX11 : ∀ a, a < 3 → ∀ b, b < 3 → a ≠ b → (TX11 a).2.1 ≠ (TX11 b).2.1 := by decide +kernel
theorem tyX11_ok : ∀ k, k < 3 → parseFieldDescriptor (TX11 k).2.2.1 = some (tyX11 k) := by decide +kernel
abbrev cX11_init : ByteArray := prog_1_method_1_code
def yX11_init : MethodName := ⟨RX11, "<init>", "()V"⟩
abbrev cX11_addCable : ByteArray := prog_1_method_2_code
def yX11_addCable : MethodName := ⟨RX11, "addCable", "(I)I"⟩
abbrev cX11_setWidth : ByteArray := prog_1_method_3_code
def yX11_setWidth : MethodName := ⟨RX11, "setWidth", "(II)I"⟩
abbrev cX11_addMachine : ByteArray := prog_1_method_4_code
def yX11_addMachine : MethodName := ⟨RX11, "addMachine", "(Z)I"⟩
abbrev cX11_addPort : ByteArray := prog_1_method_5_code
def yX11_addPort : MethodName := ⟨RX11, "addPort", "(IIII)I"⟩
abbrev cX11_addTunnel : ByteArray := prog_1_method_6_code
def yX11_addTunnel : MethodName := ⟨RX11, "addTunnel", "(II)I"⟩
abbrev cX11_addRoute : ByteArray := prog_1_method_7_code
def yX11_addRoute : MethodName := ⟨RX11, "addRoute", "(IIII)I"⟩
abbrev cX11_setForwarding : ByteArray := prog_1_method_9_code
def yX11_setForwarding : MethodName := ⟨RX11, "setForwarding", "(IZ)Z"⟩
abbrev cX11_send : ByteArray := prog_1_method_10_code
def yX11_send : MethodName := ⟨RX11, "send", "(IIZIIZ)I"⟩
abbrev cX11_step : ByteArray := prog_1_method_11_code
def yX11_step : MethodName := ⟨RX11, "step", "(I)I"⟩
abbrev cX11_forget : ByteArray := prog_1_method_12_code
def yX11_forget : MethodName := ⟨RX11, "forget", "(I)I"⟩
abbrev cX11_giveUp : ByteArray := prog_1_method_13_code
def yX11_giveUp : MethodName := ⟨RX11, "giveUp", "(I)I"⟩
abbrev cX11_machines : ByteArray := prog_1_method_14_code
def yX11_machines : MethodName := ⟨RX11, "machines", "()I"⟩
abbrev cX11_packets : ByteArray := prog_1_method_15_code
def yX11_packets : MethodName := ⟨RX11, "packets", "()I"⟩
abbrev cX11_steps : ByteArray := prog_1_method_16_code
def yX11_steps : MethodName := ⟨RX11, "steps", "()I"⟩
abbrev cX11_gone : ByteArray := prog_1_method_17_code
def yX11_gone : MethodName := ⟨RX11, "gone", "()I"⟩
abbrev cX11_frames : ByteArray := prog_1_method_18_code
def yX11_frames : MethodName := ⟨RX11, "frames", "()I"⟩
abbrev cX11_frame : ByteArray := prog_1_method_19_code
def yX11_frame : MethodName := ⟨RX11, "frame", "(II)I"⟩
abbrev cX11_knows : ByteArray := prog_1_method_20_code
def yX11_knows : MethodName := ⟨RX11, "knows", "(II)I"⟩
abbrev cX11_waiting : ByteArray := prog_1_method_21_code
def yX11_waiting : MethodName := ⟨RX11, "waiting", "(I)I"⟩
abbrev cX11_heaps : ByteArray := prog_1_method_22_code
def yX11_heaps : MethodName := ⟨RX11, "heaps", "(I)I"⟩
abbrev cX11_noted : ByteArray := prog_1_method_23_code
def yX11_noted : MethodName := ⟨RX11, "noted", "(I)I"⟩
abbrev cX11_note : ByteArray := prog_1_method_24_code
def yX11_note : MethodName := ⟨RX11, "note", "(III)I"⟩
abbrev cX11_way : ByteArray := prog_1_method_25_code
def yX11_way : MethodName := ⟨RX11, "way", "(III)I"⟩
abbrev cX11_carried : ByteArray := prog_1_method_26_code
def yX11_carried : MethodName := ⟨RX11, "carried", "(I)I"⟩
abbrev cX11_use : ByteArray := prog_1_method_27_code
def yX11_use : MethodName := ⟨RX11, "use", "()D"⟩
abbrev cX11_whoTells : ByteArray := prog_1_method_28_code
def yX11_whoTells : MethodName := ⟨RX11, "whoTells", "(III)I"⟩
abbrev cX11_hops : ByteArray := prog_1_method_29_code
def yX11_hops : MethodName := ⟨RX11, "hops", "(II)I"⟩
abbrev cX11_widest : ByteArray := prog_1_method_30_code
def yX11_widest : MethodName := ⟨RX11, "widest", "(II)I"⟩
abbrev cX11_digest : ByteArray := prog_1_method_31_code
def yX11_digest : MethodName := ⟨RX11, "digest", "()J"⟩
abbrev cX11_digestHost : ByteArray := prog_1_method_32_code
def yX11_digestHost : MethodName := ⟨RX11, "digestHost", "(JLSeamarkNet$Host;)J"⟩
abbrev cX11_hostOf : ByteArray := prog_1_method_33_code
def yX11_hostOf : MethodName := ⟨RX11, "hostOf", "(I)LSeamarkNet$Host;"⟩
abbrev cX11_needCable : ByteArray := prog_1_method_34_code
def yX11_needCable : MethodName := ⟨RX11, "needCable", "(I)V"⟩
abbrev cX11_needWidth : ByteArray := prog_1_method_35_code
def yX11_needWidth : MethodName := ⟨RX11, "needWidth", "(I)V"⟩
abbrev cX11_needAddress : ByteArray := prog_1_method_36_code
def yX11_needAddress : MethodName := ⟨RX11, "needAddress", "(I)V"⟩
abbrev cX11_needLength : ByteArray := prog_1_method_37_code
def yX11_needLength : MethodName := ⟨RX11, "needLength", "(I)V"⟩
abbrev cX11_needTtl : ByteArray := prog_1_method_38_code
def yX11_needTtl : MethodName := ⟨RX11, "needTtl", "(I)V"⟩
abbrev cX11_needPart : ByteArray := prog_1_method_39_code
def yX11_needPart : MethodName := ⟨RX11, "needPart", "(II)V"⟩
def RJx145de : String := "java/io/Serializable"
def RJ9 : String := "java/lang/Math"
abbrev cJ9_min_7cf53 : ByteArray := prog_23_method_69_code
def yJ9_min_7cf53 : MethodName := ⟨RJ9, "min", "(II)I"⟩
def RJ0 : String := "java/lang/String"
def RJ10 : String := "java/lang/System"
def RJ7 : String := "java/util/Arrays"
abbrev cJ7_fill_53178 : ByteArray := prog_28_method_103_code
def yJ7_fill_53178 : MethodName := ⟨RJ7, "fill", "([II)V"⟩
def RL : String := "SeamarkNetLaw"
abbrev cL_below : ByteArray := method_2_code
def yL_below : MethodName := ⟨RL, "below", "(II)I"⟩
abbrev cL_cell : ByteArray := method_3_code
def yL_cell : MethodName := ⟨RL, "cell", "([II)I"⟩
abbrev cL_law : ByteArray := code
def yL_law : MethodName := ⟨RL, "law", "([I)Z"⟩
abbrev cL_addressOf : ByteArray := method_5_code
def yL_addressOf : MethodName := ⟨RL, "addressOf", "([[II)I"⟩
abbrev cL_act : ByteArray := method_6_code
def yL_act : MethodName := ⟨RL, "act", "(LSeamarkNet;I[[I)Z"⟩
abbrev cL_areMachinesRight : ByteArray := method_7_code
def yL_areMachinesRight : MethodName := ⟨RL, "areMachinesRight", "(LSeamarkNet;[[I)Z"⟩
abbrev cL_areFramesRight : ByteArray := method_8_code
def yL_areFramesRight : MethodName := ⟨RL, "areFramesRight", "(LSeamarkNet;[[I)Z"⟩
abbrev cL_areTriedRight : ByteArray := method_9_code
def yL_areTriedRight : MethodName := ⟨RL, "areTriedRight", "(LSeamarkNet;I[[I)Z"⟩
def wsL_law0_r1 : List Cond := [Cond.classLink RL 9 RX11, Cond.instantiable RX11 3, Cond.initialized RX11, Cond.classLink RL 12 "[[I", Cond.arrayClass .int, Cond.methodLink RL 11 yX11_init, Cond.instanceMethod yX11_init, Cond.code yX11_init cX11_init 1 none, Cond.methodLink RX11 1 objectInit, Cond.instanceMethod objectInit, Cond.code objectInit ⟨#[0xb1]⟩ 1 none, Cond.classLink RX11 7 RX5, Cond.instantiable RX5 5, Cond.initialized RX5, Cond.fieldLink RX11 10 "SeamarkNet" "plan" "LSeamarkNet$Plan;", Cond.classLink RX11 16 RX9, Cond.instantiable RX9 8, Cond.initialized RX9, Cond.fieldLink RX11 21 "SeamarkNet" "now" "LSeamarkNet$Traffic;", Cond.classLink RX11 25 RX10, Cond.instantiable RX10 7, Cond.initialized RX10, Cond.fieldLink RX11 28 "SeamarkNet" "trial" "LSeamarkNet$Trial;", Cond.methodLink RX11 9 yX5_init]
def wsL_law0_r2 : List Cond := [Cond.instanceMethod yX5_init, Cond.code yX5_init cX5_init 2 none, Cond.methodLink RX5 3 objectInit, Cond.fieldLink RX5 9 "SeamarkNet$Plan" "widths" "[I", Cond.classLink RX5 15 RX3, Cond.fieldLink RX5 17 "SeamarkNet$Plan" "machines" "[LSeamarkNet$Machine;", Cond.classLink RX5 21 RX7, Cond.fieldLink RX5 23 "SeamarkNet$Plan" "owners" "[LSeamarkNet$Port;", Cond.instantiable RX3 13, Cond.initialized RX3, Cond.methodLink RX5 27 yX3_init, Cond.instanceMethod yX3_init, Cond.code yX3_init cX3_init 2 none, Cond.methodLink RX3 3 objectInit, Cond.classLink RX3 9 RX7, Cond.fieldLink RX3 11 "SeamarkNet$Machine" "ports" "[LSeamarkNet$Port;", Cond.fieldLink RX3 17 "SeamarkNet$Machine" "routeAddress" "[I", Cond.fieldLink RX3 21 "SeamarkNet$Machine" "routeLength" "[I", Cond.fieldLink RX3 24 "SeamarkNet$Machine" "routeVia" "[I", Cond.fieldLink RX3 27 "SeamarkNet$Machine" "tunnelFar" "[I", Cond.fieldLink RX3 30 "SeamarkNet$Machine" "wayPort" "[I", Cond.fieldLink RX3 33 "SeamarkNet$Machine" "wayHop" "[I", Cond.fieldLink RX3 36 "SeamarkNet$Machine" "wayLength" "[I", Cond.fieldLink RX3 39 "SeamarkNet$Machine" "number" "I"]
def wsL_law0_r3 : List Cond := [Cond.methodLink RX3 43 yJ7_fill_53178, Cond.static yJ7_fill_53178, Cond.initialized RJ7, Cond.code yJ7_fill_53178 cJ7_fill_53178 4 none, Cond.methodLink RX11 18 yX9_init, Cond.instanceMethod yX9_init, Cond.code yX9_init cX9_init 3 none, Cond.methodLink RX9 3 objectInit, Cond.classLink RX9 9 RX8, Cond.instantiable RX8 4, Cond.initialized RX8, Cond.fieldLink RX9 12 "SeamarkNet$Traffic" "row" "LSeamarkNet$Row;", Cond.classLink RX9 18 RX6, Cond.instantiable RX6 2, Cond.initialized RX6, Cond.fieldLink RX9 21 "SeamarkNet$Traffic" "pool" "LSeamarkNet$Pool;", Cond.classLink RX9 25 RX2, Cond.fieldLink RX9 27 "SeamarkNet$Traffic" "hosts" "[LSeamarkNet$Host;", Cond.fieldLink RX9 31 "SeamarkNet$Traffic" "deliveredOn" "[I", Cond.fieldLink RX9 35 "SeamarkNet$Traffic" "plan" "LSeamarkNet$Plan;", Cond.instantiable RX2 10, Cond.initialized RX2, Cond.instanceMethod yX8_init, Cond.code yX8_init cX8_init 1 none]
def wsL_law0_r4 : List Cond := [Cond.methodLink RX8 1 objectInit, Cond.instanceMethod yX6_init, Cond.code yX6_init cX6_init 1 none, Cond.methodLink RX6 1 objectInit, Cond.methodLink RX9 45 yX2_init, Cond.instanceMethod yX2_init, Cond.code yX2_init cX2_init 3 none, Cond.methodLink RX2 3 objectInit, Cond.fieldLink RX2 9 "SeamarkNet$Host" "marks" "[I", Cond.classLink RX2 15 RX1, Cond.fieldLink RX2 17 "SeamarkNet$Host" "kept" "[LSeamarkNet$Heap;", Cond.fieldLink RX2 21 "SeamarkNet$Host" "notes" "[I", Cond.fieldLink RX2 24 "SeamarkNet$Host" "machine" "LSeamarkNet$Machine;", Cond.instantiable RX1 3, Cond.initialized RX1, Cond.methodLink RX2 28 yJ7_fill_53178, Cond.instanceMethod yX1_init, Cond.code yX1_init cX1_init 1 none, Cond.methodLink RX1 3 objectInit, Cond.methodLink RX11 27 yX10_init, Cond.instanceMethod yX10_init, Cond.code yX10_init cX10_init 2 none, Cond.methodLink RX10 3 objectInit, Cond.classLink RX10 9 RX9]
def wsL_law0_r5 : List Cond := [Cond.fieldLink RX10 14 "SeamarkNet$Trial" "traffic" "LSeamarkNet$Traffic;", Cond.methodLink RX10 11 yX9_init, Cond.methodLink RL 14 yL_cell, Cond.static yL_cell, Cond.initialized RL, Cond.code yL_cell cL_cell 2 (some .int), Cond.constant RL 8 (790386105), Cond.methodLink RL 20 yL_below, Cond.static yL_below, Cond.code yL_below cL_below 2 (some .int), Cond.constant RL 7 (2147483647), Cond.methodLink RL 24 yX11_addCable, Cond.instanceMethod yX11_addCable, Cond.selects RX11 yX11_addCable yX11_addCable, Cond.code yX11_addCable cX11_addCable 3 (some .int), Cond.classLink RX11 40 "java/lang/IllegalStateException", Cond.initialized "java/lang/IllegalStateException", Cond.methodLink RX11 32 yX11_needWidth, Cond.static yX11_needWidth, Cond.code yX11_needWidth cX11_needWidth 1 none, Cond.classLink RX11 99 "java/lang/IllegalArgumentException", Cond.initialized "java/lang/IllegalArgumentException", Cond.methodLink RX11 36 yX5_putCable, Cond.instanceMethod yX5_putCable]
def wsL_law0_r6 : List Cond := [Cond.selects RX5 yX5_putCable yX5_putCable, Cond.code yX5_putCable cX5_putCable 2 (some .int), Cond.fieldLink RX5 30 "SeamarkNet$Plan" "cableCount" "I", Cond.methodLink RL 28 yX11_addMachine, Cond.instanceMethod yX11_addMachine, Cond.selects RX11 yX11_addMachine yX11_addMachine, Cond.code yX11_addMachine cX11_addMachine 3 (some .int), Cond.methodLink RX11 54 yX5_putMachine, Cond.instanceMethod yX5_putMachine, Cond.selects RX5 yX5_putMachine yX5_putMachine, Cond.code yX5_putMachine cX5_putMachine 2 (some .int), Cond.fieldLink RX5 38 "SeamarkNet$Plan" "machineCount" "I", Cond.fieldLink RX5 41 "SeamarkNet$Machine" "isForwarding" "Z", Cond.methodLink RL 32 yL_act, Cond.static yL_act, Cond.codeWith yL_act cL_act 16 (some .boolean) [(30, 155, 688, 103), (156, 173, 688, 103), (174, 215, 688, 103), (216, 260, 688, 103), (261, 408, 688, 103), (409, 493, 688, 103), (494, 526, 688, 103), (527, 577, 688, 103), (578, 623, 688, 103), (624, 685, 688, 103), (30, 155, 714, 105), (156, 173, 714, 105), (174, 215, 714, 105), (216, 260, 714, 105), (261, 408, 714, 105), (409, 493, 714, 105), (494, 526, 714, 105), (527, 577, 714, 105), (578, 623, 714, 105), (624, 685, 714, 105), (30, 155, 740, 107), (156, 173, 740, 107), (174, 215, 740, 107), (216, 260, 740, 107), (261, 408, 740, 107), (409, 493, 740, 107), (494, 526, 740, 107), (527, 577, 740, 107), (578, 623, 740, 107), (624, 685, 740, 107)], Cond.classLink RL 103 "java/lang/IndexOutOfBoundsException", Cond.classLink RL 105 "java/lang/IllegalArgumentException", Cond.classLink RL 107 "java/lang/IllegalStateException", Cond.methodLink RL 50 yX11_machines, Cond.instanceMethod yX11_machines, Cond.selects RX11 yX11_machines yX11_machines, Cond.code yX11_machines cX11_machines 1 (some .int), Cond.fieldLink RX11 151 "SeamarkNet$Plan" "machineCount" "I"]
def wsL_law0_r7 : List Cond := [Cond.methodLink RL 54 yX11_packets, Cond.instanceMethod yX11_packets, Cond.selects RX11 yX11_packets yX11_packets, Cond.code yX11_packets cX11_packets 1 (some .int), Cond.fieldLink RX11 154 "SeamarkNet$Traffic" "packetCount" "I", Cond.methodLink RL 57 yX11_frames, Cond.instanceMethod yX11_frames, Cond.selects RX11 yX11_frames yX11_frames, Cond.code yX11_frames cX11_frames 1 (some .int), Cond.fieldLink RX11 131 "SeamarkNet$Traffic" "row" "LSeamarkNet$Row;", Cond.fieldLink RX11 135 "SeamarkNet$Row" "length" "I", Cond.methodLink RL 60 yX11_steps, Cond.instanceMethod yX11_steps, Cond.selects RX11 yX11_steps yX11_steps, Cond.code yX11_steps cX11_steps 1 (some .int), Cond.fieldLink RX11 157 "SeamarkNet$Traffic" "stepCount" "I", Cond.methodLink RL 63 yX11_addPort, Cond.instanceMethod yX11_addPort, Cond.selects RX11 yX11_addPort yX11_addPort, Cond.code yX11_addPort cX11_addPort 7 (some .int), Cond.fieldLink RX11 64 "SeamarkNet$Host" "machine" "LSeamarkNet$Machine;", Cond.fieldLink RX11 82 "SeamarkNet$Port" "mark" "I", Cond.methodLink RX11 60 yX11_hostOf, Cond.instanceMethod yX11_hostOf]
def wsL_law0_r8 : List Cond := [Cond.selects RX11 yX11_hostOf yX11_hostOf, Cond.code yX11_hostOf cX11_hostOf 3 (some (.object "SeamarkNet$Host")), Cond.classLink RX11 167 "java/lang/IndexOutOfBoundsException", Cond.initialized "java/lang/IndexOutOfBoundsException", Cond.methodLink RX11 261 yX9_host, Cond.instanceMethod yX9_host, Cond.selects RX9 yX9_host yX9_host, Cond.code yX9_host cX9_host 2 (some (.object "SeamarkNet$Host")), Cond.methodLink RX11 47 yX11_needCable, Cond.instanceMethod yX11_needCable, Cond.selects RX11 yX11_needCable yX11_needCable, Cond.code yX11_needCable cX11_needCable 2 none, Cond.fieldLink RX11 247 "SeamarkNet$Plan" "cableCount" "I", Cond.methodLink RX11 70 yX11_needAddress, Cond.static yX11_needAddress, Cond.code yX11_needAddress cX11_needAddress 1 none, Cond.methodLink RX11 73 yX11_needLength, Cond.static yX11_needLength, Cond.code yX11_needLength cX11_needLength 1 none, Cond.methodLink RX11 76 yX5_putPort, Cond.instanceMethod yX5_putPort, Cond.selects RX5 yX5_putPort yX5_putPort, Cond.code yX5_putPort cX5_putPort 6 (some (.object "SeamarkNet$Port")), Cond.methodLink RX5 45 yX5_portWithAddress]
def wsL_law0_r9 : List Cond := [Cond.instanceMethod yX5_portWithAddress, Cond.selects RX5 yX5_portWithAddress yX5_portWithAddress, Cond.code yX5_portWithAddress cX5_portWithAddress 2 (some (.object "SeamarkNet$Port")), Cond.methodLink RX5 49 yX3_addNextPort, Cond.instanceMethod yX3_addNextPort, Cond.selects RX3 yX3_addNextPort yX3_addNextPort, Cond.code yX3_addNextPort cX3_addNextPort 5 (some (.object "SeamarkNet$Port")), Cond.fieldLink RX3 49 "SeamarkNet$Machine" "portCount" "I", Cond.instantiable RX7 4, Cond.initialized RX7, Cond.methodLink RX3 52 yX7_init, Cond.instanceMethod yX7_init, Cond.code yX7_init cX7_init 5 none, Cond.methodLink RX7 1 objectInit, Cond.fieldLink RX7 7 "SeamarkNet$Port" "mark" "I", Cond.fieldLink RX7 13 "SeamarkNet$Port" "cable" "I", Cond.fieldLink RX7 16 "SeamarkNet$Port" "address" "I", Cond.fieldLink RX7 19 "SeamarkNet$Port" "length" "I", Cond.methodLink RX3 55 yX3_layWays, Cond.instanceMethod yX3_layWays, Cond.selects RX3 yX3_layWays yX3_layWays, Cond.code yX3_layWays cX3_layWays 6 none, Cond.fieldLink RX3 75 "SeamarkNet$Port" "length" "I", Cond.methodLink RX3 67 yX3_portWithNetOf]
def wsL_law0_r10 : List Cond := [Cond.instanceMethod yX3_portWithNetOf, Cond.selects RX3 yX3_portWithNetOf yX3_portWithNetOf, Cond.code yX3_portWithNetOf cX3_portWithNetOf 6 (some .int), Cond.fieldLink RX3 64 "SeamarkNet$Port" "address" "I", Cond.methodLink RX3 88 yX3_netHas, Cond.static yX3_netHas, Cond.code yX3_netHas cX3_netHas 3 (some .boolean), Cond.methodLink RX3 71 yX3_port, Cond.instanceMethod yX3_port, Cond.selects RX3 yX3_port yX3_port, Cond.code yX3_port cX3_port 2 (some (.object "SeamarkNet$Port")), Cond.methodLink RX3 78 yX3_routeFor, Cond.instanceMethod yX3_routeFor, Cond.selects RX3 yX3_routeFor yX3_routeFor, Cond.code yX3_routeFor cX3_routeFor 5 (some .int), Cond.fieldLink RX3 61 "SeamarkNet$Machine" "routeCount" "I", Cond.methodLink RX3 81 yX3_layByRoute, Cond.instanceMethod yX3_layByRoute, Cond.selects RX3 yX3_layByRoute yX3_layByRoute, Cond.code yX3_layByRoute cX3_layByRoute 5 none, Cond.methodLink RX3 85 yX3_layWay, Cond.instanceMethod yX3_layWay, Cond.selects RX3 yX3_layWay yX3_layWay, Cond.code yX3_layWay cX3_layWay 5 none]
def wsL_law0_r11 : List Cond := [Cond.methodLink RL 67 yL_addressOf, Cond.static yL_addressOf, Cond.code yL_addressOf cL_addressOf 3 (some .int), Cond.methodLink RL 71 yX11_addRoute, Cond.instanceMethod yX11_addRoute, Cond.selects RX11 yX11_addRoute yX11_addRoute, Cond.code yX11_addRoute cX11_addRoute 7 (some .int), Cond.methodLink RX11 95 yX3_mayLeadVia, Cond.instanceMethod yX3_mayLeadVia, Cond.selects RX3 yX3_mayLeadVia yX3_mayLeadVia, Cond.code yX3_mayLeadVia cX3_mayLeadVia 2 (some .boolean), Cond.fieldLink RX3 58 "SeamarkNet$Machine" "tunnelCount" "I", Cond.methodLink RX11 104 yX3_putRoute, Cond.instanceMethod yX3_putRoute, Cond.selects RX3 yX3_putRoute yX3_putRoute, Cond.code yX3_putRoute cX3_putRoute 4 (some .int), Cond.methodLink RL 74 yX11_addTunnel, Cond.instanceMethod yX11_addTunnel, Cond.selects RX11 yX11_addTunnel yX11_addTunnel, Cond.code yX11_addTunnel cX11_addTunnel 5 (some .int), Cond.methodLink RX11 88 yX3_putTunnel, Cond.instanceMethod yX3_putTunnel, Cond.selects RX3 yX3_putTunnel yX3_putTunnel, Cond.code yX3_putTunnel cX3_putTunnel 2 (some .int)]
def wsL_law0_r12 : List Cond := [Cond.methodLink RL 77 yX11_send, Cond.instanceMethod yX11_send, Cond.selects RX11 yX11_send yX11_send, Cond.code yX11_send cX11_send 8 (some .int), Cond.methodLink RX11 122 yX11_needTtl, Cond.static yX11_needTtl, Cond.code yX11_needTtl cX11_needTtl 1 none, Cond.methodLink RX11 125 yX9_launch, Cond.instanceMethod yX9_launch, Cond.selects RX9 yX9_launch yX9_launch, Cond.code yX9_launch cX9_launch 10 (some .int), Cond.fieldLink RX9 72 "SeamarkNet$Host" "machine" "LSeamarkNet$Machine;", Cond.fieldLink RX9 84 "SeamarkNet$Packet" "ttl" "I", Cond.fieldLink RX9 89 "SeamarkNet$Packet" "isWhole" "Z", Cond.fieldLink RX9 93 "SeamarkNet$Packet" "number" "I", Cond.methodLink RX9 76 yX9_sourceFor, Cond.static yX9_sourceFor, Cond.code yX9_sourceFor cX9_sourceFor 4 (some .int), Cond.fieldLink RX9 149 "SeamarkNet$Port" "address" "I", Cond.methodLink RX9 129 yX3_owns, Cond.instanceMethod yX3_owns, Cond.selects RX3 yX3_owns yX3_owns, Cond.code yX3_owns cX3_owns 4 (some .boolean), Cond.methodLink RX9 135 yX3_portTo]
def wsL_law0_r13 : List Cond := [Cond.instanceMethod yX3_portTo, Cond.selects RX3 yX3_portTo yX3_portTo, Cond.code yX3_portTo cX3_portTo 2 (some .int), Cond.methodLink RX9 139 yX3_hopTo, Cond.instanceMethod yX3_hopTo, Cond.selects RX3 yX3_hopTo yX3_hopTo, Cond.code yX3_hopTo cX3_hopTo 2 (some .int), Cond.methodLink RX9 142 yX3_farOf, Cond.instanceMethod yX3_farOf, Cond.selects RX3 yX3_farOf yX3_farOf, Cond.code yX3_farOf cX3_farOf 2 (some .int), Cond.methodLink RX9 145 yX3_port, Cond.methodLink RX9 80 yX9_bear, Cond.instanceMethod yX9_bear, Cond.selects RX9 yX9_bear yX9_bear, Cond.code yX9_bear cX9_bear 6 (some (.object "SeamarkNet$Packet")), Cond.fieldLink RX9 104 "SeamarkNet$Packet" "kind" "I", Cond.fieldLink RX9 107 "SeamarkNet$Packet" "from" "I", Cond.fieldLink RX9 110 "SeamarkNet$Packet" "to" "I", Cond.fieldLink RX9 113 "SeamarkNet$Packet" "size" "I", Cond.fieldLink RX9 56 "SeamarkNet$Traffic" "packetCount" "I", Cond.fieldLink RX9 116 "SeamarkNet$Packet" "about" "I", Cond.fieldLink RX9 119 "SeamarkNet$Packet" "place" "I", Cond.fieldLink RX9 122 "SeamarkNet$Packet" "hasMore" "Z"]
def wsL_law0_r14 : List Cond := [Cond.fieldLink RX9 125 "SeamarkNet$Packet" "inside" "LSeamarkNet$Packet;", Cond.methodLink RX9 100 yX6_take, Cond.instanceMethod yX6_take, Cond.selects RX6 yX6_take yX6_take, Cond.code yX6_take cX6_take 2 (some (.object "SeamarkNet$Packet")), Cond.fieldLink RX6 7 "SeamarkNet$Pool" "last" "LSeamarkNet$Packet;", Cond.fieldLink RX6 13 "SeamarkNet$Pool" "first" "LSeamarkNet$Packet;", Cond.fieldLink RX6 16 "SeamarkNet$Packet" "made" "LSeamarkNet$Packet;", Cond.classLink RX6 17 RX4, Cond.instantiable RX4 15, Cond.initialized RX4, Cond.instanceMethod yX4_init, Cond.code yX4_init cX4_init 1 none, Cond.methodLink RX4 3 objectInit, Cond.methodLink RX9 96 yX9_goOut, Cond.instanceMethod yX9_goOut, Cond.selects RX9 yX9_goOut yX9_goOut, Cond.code yX9_goOut cX9_goOut 8 none, Cond.constant RX9 154 (1000000), Cond.fieldLink RX9 171 "SeamarkNet$Port" "cable" "I", Cond.methodLink RX9 155 yX9_accept, Cond.instanceMethod yX9_accept, Cond.selects RX9 yX9_accept yX9_accept, Cond.code yX9_accept cX9_accept 4 (some (.object "SeamarkNet$Packet"))]
def wsL_law0_r15 : List Cond := [Cond.methodLink RX9 280 yX2_writeNote, Cond.instanceMethod yX2_writeNote, Cond.selects RX2 yX2_writeNote yX2_writeNote, Cond.code yX2_writeNote cX2_writeNote 3 none, Cond.fieldLink RX2 117 "SeamarkNet$Host" "noteCount" "I", Cond.fieldLink RX2 120 "SeamarkNet$Packet" "kind" "I", Cond.fieldLink RX2 99 "SeamarkNet$Packet" "from" "I", Cond.fieldLink RX2 90 "SeamarkNet$Packet" "size" "I", Cond.fieldLink RX2 123 "SeamarkNet$Packet" "ttl" "I", Cond.fieldLink RX2 103 "SeamarkNet$Packet" "number" "I", Cond.fieldLink RX2 126 "SeamarkNet$Packet" "about" "I", Cond.methodLink RX9 159 yX9_canWrap, Cond.static yX9_canWrap, Cond.code yX9_canWrap cX9_canWrap 3 (some .boolean), Cond.methodLink RX9 163 yX9_wrap, Cond.instanceMethod yX9_wrap, Cond.selects RX9 yX9_wrap yX9_wrap, Cond.code yX9_wrap cX9_wrap 5 (some (.object "SeamarkNet$Packet")), Cond.methodLink RX9 167 yX9_complain, Cond.instanceMethod yX9_complain, Cond.selects RX9 yX9_complain yX9_complain, Cond.code yX9_complain cX9_complain 7 (some (.object "SeamarkNet$Packet")), Cond.fieldLink RX9 52 "SeamarkNet$Host" "goneCount" "I", Cond.methodLink RX9 209 yX4_isComplaint]
def wsL_law0_r16 : List Cond := [Cond.instanceMethod yX4_isComplaint, Cond.selects RX4 yX4_isComplaint yX4_isComplaint, Cond.code yX4_isComplaint cX4_isComplaint 1 (some .boolean), Cond.fieldLink RX4 19 "SeamarkNet$Packet" "kind" "I", Cond.methodLink RX9 174 yX5_widthOf, Cond.instanceMethod yX5_widthOf, Cond.selects RX5 yX5_widthOf yX5_widthOf, Cond.code yX5_widthOf cX5_widthOf 2 (some .int), Cond.methodLink RX9 177 yX9_goByPort, Cond.instanceMethod yX9_goByPort, Cond.selects RX9 yX9_goByPort yX9_goByPort, Cond.code yX9_goByPort cX9_goByPort 8 none, Cond.methodLink RX9 181 yX9_goToHop, Cond.instanceMethod yX9_goToHop, Cond.selects RX9 yX9_goToHop yX9_goToHop, Cond.code yX9_goToHop cX9_goToHop 6 none, Cond.fieldLink RX9 195 "SeamarkNet$Packet" "hop" "I", Cond.fieldLink RX9 198 "SeamarkNet$Packet" "by" "LSeamarkNet$Port;", Cond.methodLink RX9 188 yX2_knownMark, Cond.instanceMethod yX2_knownMark, Cond.selects RX2 yX2_knownMark yX2_knownMark, Cond.code yX2_knownMark cX2_knownMark 2 (some .int), Cond.methodLink RX9 191 yX8_add, Cond.instanceMethod yX8_add]
def wsL_law0_r17 : List Cond := [Cond.selects RX8 yX8_add yX8_add, Cond.code yX8_add cX8_add 7 none, Cond.fieldLink RX8 7 "SeamarkNet$Row" "spare" "LSeamarkNet$Frame;", Cond.classLink RX8 13 RX0, Cond.instantiable RX0 7, Cond.initialized RX0, Cond.fieldLink RX8 16 "SeamarkNet$Frame" "next" "LSeamarkNet$Frame;", Cond.fieldLink RX8 19 "SeamarkNet$Frame" "sort" "I", Cond.fieldLink RX8 23 "SeamarkNet$Port" "cable" "I", Cond.fieldLink RX8 28 "SeamarkNet$Frame" "cable" "I", Cond.fieldLink RX8 29 "SeamarkNet$Port" "mark" "I", Cond.fieldLink RX8 32 "SeamarkNet$Frame" "from" "I", Cond.fieldLink RX8 35 "SeamarkNet$Frame" "to" "I", Cond.fieldLink RX8 38 "SeamarkNet$Frame" "address" "I", Cond.fieldLink RX8 41 "SeamarkNet$Frame" "packet" "LSeamarkNet$Packet;", Cond.fieldLink RX8 45 "SeamarkNet$Row" "last" "LSeamarkNet$Frame;", Cond.fieldLink RX8 48 "SeamarkNet$Row" "first" "LSeamarkNet$Frame;", Cond.fieldLink RX8 51 "SeamarkNet$Row" "length" "I", Cond.instanceMethod yX0_init, Cond.code yX0_init cX0_init 1 none, Cond.methodLink RX0 3 objectInit, Cond.methodLink RX9 202 yX2_putToWait, Cond.instanceMethod yX2_putToWait, Cond.selects RX2 yX2_putToWait yX2_putToWait]
def wsL_law0_r18 : List Cond := [Cond.code yX2_putToWait cX2_putToWait 2 none, Cond.fieldLink RX2 35 "SeamarkNet$Host" "waitingCount" "I", Cond.fieldLink RX2 42 "SeamarkNet$Host" "goneCount" "I", Cond.fieldLink RX2 45 "SeamarkNet$Packet" "next" "LSeamarkNet$Packet;", Cond.fieldLink RX2 51 "SeamarkNet$Host" "lastWaiting" "LSeamarkNet$Packet;", Cond.fieldLink RX2 54 "SeamarkNet$Host" "firstWaiting" "LSeamarkNet$Packet;", Cond.methodLink RX2 39 yX2_dropFirstWaiting, Cond.instanceMethod yX2_dropFirstWaiting, Cond.selects RX2 yX2_dropFirstWaiting yX2_dropFirstWaiting, Cond.code yX2_dropFirstWaiting cX2_dropFirstWaiting 1 none, Cond.methodLink RX9 206 yX2_countWaitingFor, Cond.instanceMethod yX2_countWaitingFor, Cond.selects RX2 yX2_countWaitingFor yX2_countWaitingFor, Cond.code yX2_countWaitingFor cX2_countWaitingFor 4 (some .int), Cond.fieldLink RX2 57 "SeamarkNet$Packet" "hop" "I", Cond.methodLink RX9 184 yX4_cutFrom, Cond.instanceMethod yX4_cutFrom, Cond.selects RX4 yX4_cutFrom yX4_cutFrom, Cond.code yX4_cutFrom cX4_cutFrom 5 none, Cond.fieldLink RX4 22 "SeamarkNet$Packet" "size" "I", Cond.fieldLink RX4 25 "SeamarkNet$Packet" "from" "I", Cond.fieldLink RX4 28 "SeamarkNet$Packet" "to" "I", Cond.methodLink RX4 31 Lib.Math.min.name, Cond.static Lib.Math.min.name]
def wsL_law0_r19 : List Cond := [Cond.initialized "java/lang/Math", Cond.code Lib.Math.min.name Lib.Math.min.code 2 (some .int), Cond.fieldLink RX4 37 "SeamarkNet$Packet" "ttl" "I", Cond.fieldLink RX4 40 "SeamarkNet$Packet" "number" "I", Cond.fieldLink RX4 43 "SeamarkNet$Packet" "about" "I", Cond.fieldLink RX4 9 "SeamarkNet$Packet" "place" "I", Cond.fieldLink RX4 46 "SeamarkNet$Packet" "isWhole" "Z", Cond.fieldLink RX4 15 "SeamarkNet$Packet" "hasMore" "Z", Cond.fieldLink RX4 49 "SeamarkNet$Packet" "inside" "LSeamarkNet$Packet;", Cond.methodLink RL 81 yX11_step, Cond.instanceMethod yX11_step, Cond.selects RX11 yX11_step yX11_step, Cond.code yX11_step cX11_step 3 (some .int), Cond.methodLink RX11 140 yX9_deliverNext, Cond.instanceMethod yX9_deliverNext, Cond.selects RX9 yX9_deliverNext yX9_deliverNext, Cond.code yX9_deliverNext cX9_deliverNext 3 (some .boolean), Cond.fieldLink RX9 217 "SeamarkNet$Traffic" "stepCount" "I", Cond.fieldLink RX9 220 "SeamarkNet$Frame" "cable" "I", Cond.fieldLink RX9 223 "SeamarkNet$Frame" "sort" "I", Cond.fieldLink RX9 233 "SeamarkNet$Traffic" "packetSteps" "I", Cond.fieldLink RX9 236 "SeamarkNet$Frame" "to" "I", Cond.fieldLink RX9 240 "SeamarkNet$Frame" "packet" "LSeamarkNet$Packet;", Cond.methodLink RX9 213 yX8_takeFirst]
def wsL_law0_r20 : List Cond := [Cond.instanceMethod yX8_takeFirst, Cond.selects RX8 yX8_takeFirst yX8_takeFirst, Cond.code yX8_takeFirst cX8_takeFirst 2 (some (.object "SeamarkNet$Frame")), Cond.methodLink RX9 226 yX9_hearQuestion, Cond.instanceMethod yX9_hearQuestion, Cond.selects RX9 yX9_hearQuestion yX9_hearQuestion, Cond.code yX9_hearQuestion cX9_hearQuestion 5 none, Cond.fieldLink RX9 249 "SeamarkNet$Frame" "address" "I", Cond.fieldLink RX9 253 "SeamarkNet$Frame" "from" "I", Cond.fieldLink RX9 257 "SeamarkNet$Port" "mark" "I", Cond.methodLink RX9 250 yX5_portWithAddress, Cond.methodLink RX9 254 yX5_portWithMark, Cond.instanceMethod yX5_portWithMark, Cond.selects RX5 yX5_portWithMark yX5_portWithMark, Cond.code yX5_portWithMark cX5_portWithMark 2 (some (.object "SeamarkNet$Port")), Cond.methodLink RX5 53 yX3_port, Cond.methodLink RX9 237 yX9_hostWithMark, Cond.instanceMethod yX9_hostWithMark, Cond.selects RX9 yX9_hostWithMark yX9_hostWithMark, Cond.code yX9_hostWithMark cX9_hostWithMark 2 (some (.object "SeamarkNet$Host")), Cond.methodLink RX9 48 yX9_host, Cond.methodLink RX9 260 yX2_learn, Cond.instanceMethod yX2_learn, Cond.selects RX2 yX2_learn yX2_learn]
def wsL_law0_r21 : List Cond := [Cond.code yX2_learn cX2_learn 3 none, Cond.methodLink RX9 230 yX9_hearReply, Cond.instanceMethod yX9_hearReply, Cond.selects RX9 yX9_hearReply yX9_hearReply, Cond.code yX9_hearReply cX9_hearReply 5 none, Cond.fieldLink RX9 267 "SeamarkNet$Packet" "next" "LSeamarkNet$Packet;", Cond.methodLink RX9 264 yX2_takeWaiting, Cond.instanceMethod yX2_takeWaiting, Cond.selects RX2 yX2_takeWaiting yX2_takeWaiting, Cond.code yX2_takeWaiting cX2_takeWaiting 2 (some (.object "SeamarkNet$Packet")), Cond.methodLink RX9 243 yX9_come, Cond.instanceMethod yX9_come, Cond.selects RX9 yX9_come yX9_come, Cond.code yX9_come cX9_come 6 (some (.object "SeamarkNet$Packet")), Cond.fieldLink RX9 270 "SeamarkNet$Machine" "isForwarding" "Z", Cond.methodLink RX9 273 yX2_gather, Cond.instanceMethod yX2_gather, Cond.selects RX2 yX2_gather yX2_gather, Cond.code yX2_gather cX2_gather 5 (some (.object "SeamarkNet$Packet")), Cond.fieldLink RX2 83 "SeamarkNet$Packet" "place" "I", Cond.fieldLink RX2 86 "SeamarkNet$Packet" "hasMore" "Z", Cond.methodLink RX2 60 yX4_isPiece, Cond.instanceMethod yX4_isPiece, Cond.selects RX4 yX4_isPiece yX4_isPiece]
def wsL_law0_r22 : List Cond := [Cond.code yX4_isPiece cX4_isPiece 1 (some .boolean), Cond.methodLink RX2 64 yX2_findHeap, Cond.instanceMethod yX2_findHeap, Cond.selects RX2 yX2_findHeap yX2_findHeap, Cond.code yX2_findHeap cX2_findHeap 3 (some .int), Cond.fieldLink RX2 93 "SeamarkNet$Host" "heapCount" "I", Cond.fieldLink RX2 96 "SeamarkNet$Heap" "from" "I", Cond.fieldLink RX2 100 "SeamarkNet$Heap" "number" "I", Cond.methodLink RX2 68 yX2_beginHeap, Cond.instanceMethod yX2_beginHeap, Cond.selects RX2 yX2_beginHeap yX2_beginHeap, Cond.code yX2_beginHeap cX2_beginHeap 3 (some .int), Cond.methodLink RX2 79 yX2_dropHeap, Cond.instanceMethod yX2_dropHeap, Cond.selects RX2 yX2_dropHeap yX2_dropHeap, Cond.code yX2_dropHeap cX2_dropHeap 4 none, Cond.methodLink RX2 104 yX1_begin, Cond.instanceMethod yX1_begin, Cond.selects RX1 yX1_begin yX1_begin, Cond.code yX1_begin cX1_begin 2 none, Cond.fieldLink RX1 9 "SeamarkNet$Packet" "from" "I", Cond.fieldLink RX1 15 "SeamarkNet$Heap" "from" "I", Cond.fieldLink RX1 18 "SeamarkNet$Packet" "number" "I", Cond.fieldLink RX1 21 "SeamarkNet$Heap" "number" "I"]
def wsL_law0_r23 : List Cond := [Cond.fieldLink RX1 22 "SeamarkNet$Heap" "first" "LSeamarkNet$Packet;", Cond.methodLink RX2 71 yX1_put, Cond.instanceMethod yX1_put, Cond.selects RX1 yX1_put yX1_put, Cond.code yX1_put cX1_put 4 (some .boolean), Cond.fieldLink RX1 26 "SeamarkNet$Packet" "place" "I", Cond.fieldLink RX1 29 "SeamarkNet$Packet" "next" "LSeamarkNet$Packet;", Cond.methodLink RX2 75 yX1_wholeSize, Cond.instanceMethod yX1_wholeSize, Cond.selects RX1 yX1_wholeSize yX1_wholeSize, Cond.code yX1_wholeSize cX1_wholeSize 3 (some .int), Cond.fieldLink RX1 32 "SeamarkNet$Packet" "size" "I", Cond.fieldLink RX1 35 "SeamarkNet$Packet" "hasMore" "Z", Cond.methodLink RX9 277 yX2_unwrap, Cond.instanceMethod yX2_unwrap, Cond.selects RX2 yX2_unwrap yX2_unwrap, Cond.code yX2_unwrap cX2_unwrap 2 (some (.object "SeamarkNet$Packet")), Cond.fieldLink RX2 114 "SeamarkNet$Packet" "inside" "LSeamarkNet$Packet;", Cond.methodLink RX2 108 yX3_hasTunnelTo, Cond.instanceMethod yX3_hasTunnelTo, Cond.selects RX3 yX3_hasTunnelTo yX3_hasTunnelTo, Cond.code yX3_hasTunnelTo cX3_hasTunnelTo 3 (some .boolean), Cond.methodLink RX9 246 yX8_reuse, Cond.instanceMethod yX8_reuse]
def wsL_law0_r24 : List Cond := [Cond.selects RX8 yX8_reuse yX8_reuse, Cond.code yX8_reuse cX8_reuse 2 none, Cond.methodLink RL 84 yX11_forget, Cond.instanceMethod yX11_forget, Cond.selects RX11 yX11_forget yX11_forget, Cond.code yX11_forget cX11_forget 2 (some .int), Cond.methodLink RX11 144 yX2_clearKnown, Cond.instanceMethod yX2_clearKnown, Cond.selects RX2 yX2_clearKnown yX2_clearKnown, Cond.code yX2_clearKnown cX2_clearKnown 3 (some .int), Cond.methodLink RL 87 yX11_waiting, Cond.instanceMethod yX11_waiting, Cond.selects RX11 yX11_waiting yX11_waiting, Cond.code yX11_waiting cX11_waiting 2 (some .int), Cond.fieldLink RX11 184 "SeamarkNet$Host" "waitingCount" "I", Cond.methodLink RL 90 yX11_gone, Cond.instanceMethod yX11_gone, Cond.selects RX11 yX11_gone yX11_gone, Cond.code yX11_gone cX11_gone 1 (some .int), Cond.methodLink RX11 160 yX9_goneInAll, Cond.instanceMethod yX9_goneInAll, Cond.selects RX9 yX9_goneInAll yX9_goneInAll, Cond.code yX9_goneInAll cX9_goneInAll 3 (some .int), Cond.methodLink RL 93 yX11_giveUp]
def wsL_law0_r25 : List Cond := [Cond.instanceMethod yX11_giveUp, Cond.selects RX11 yX11_giveUp yX11_giveUp, Cond.code yX11_giveUp cX11_giveUp 2 (some .int), Cond.methodLink RX11 147 yX9_complainOfWaiting, Cond.instanceMethod yX9_complainOfWaiting, Cond.selects RX9 yX9_complainOfWaiting yX9_complainOfWaiting, Cond.code yX9_complainOfWaiting cX9_complainOfWaiting 5 (some .int), Cond.fieldLink RX9 283 "SeamarkNet$Host" "waitingCount" "I", Cond.methodLink RL 96 yX11_setWidth, Cond.instanceMethod yX11_setWidth, Cond.selects RX11 yX11_setWidth yX11_setWidth, Cond.code yX11_setWidth cX11_setWidth 3 (some .int), Cond.methodLink RX11 50 yX5_changeWidth, Cond.instanceMethod yX5_changeWidth, Cond.selects RX5 yX5_changeWidth yX5_changeWidth, Cond.code yX5_changeWidth cX5_changeWidth 4 (some .int), Cond.methodLink RX5 34 yX5_widthOf, Cond.methodLink RL 99 yX11_setForwarding, Cond.instanceMethod yX11_setForwarding, Cond.selects RX11 yX11_setForwarding yX11_setForwarding, Cond.code yX11_setForwarding cX11_setForwarding 5 (some .boolean), Cond.fieldLink RX11 116 "SeamarkNet$Machine" "isForwarding" "Z", Cond.methodLink RL 36 yX11_digest, Cond.instanceMethod yX11_digest]
def wsL_law0_r26 : List Cond := [Cond.selects RX11 yX11_digest yX11_digest, Cond.code yX11_digest cX11_digest 5 (some .long), Cond.constantLong RX11 236 (58062), Cond.constantLong RX11 238 (31), Cond.fieldLink RX11 240 "SeamarkNet$Row" "first" "LSeamarkNet$Frame;", Cond.fieldLink RX11 244 "SeamarkNet$Frame" "next" "LSeamarkNet$Frame;", Cond.methodLink RX11 176 yX0_part, Cond.instanceMethod yX0_part, Cond.selects RX0 yX0_part yX0_part, Cond.code yX0_part cX0_part 2 (some .int), Cond.fieldLink RX0 9 "SeamarkNet$Frame" "cable" "I", Cond.fieldLink RX0 15 "SeamarkNet$Frame" "from" "I", Cond.fieldLink RX0 18 "SeamarkNet$Frame" "to" "I", Cond.fieldLink RX0 21 "SeamarkNet$Frame" "sort" "I", Cond.fieldLink RX0 24 "SeamarkNet$Frame" "packet" "LSeamarkNet$Packet;", Cond.methodLink RX0 28 yX0_partWithout, Cond.instanceMethod yX0_partWithout, Cond.selects RX0 yX0_partWithout yX0_partWithout, Cond.code yX0_partWithout cX0_partWithout 2 (some .int), Cond.fieldLink RX0 36 "SeamarkNet$Frame" "address" "I", Cond.methodLink RX0 32 yX0_partOf, Cond.static yX0_partOf, Cond.code yX0_partOf cX0_partOf 2 (some .int), Cond.fieldLink RX0 39 "SeamarkNet$Packet" "number" "I"]
def wsL_law0_r27 : List Cond := [Cond.fieldLink RX0 44 "SeamarkNet$Packet" "size" "I", Cond.fieldLink RX0 47 "SeamarkNet$Packet" "place" "I", Cond.fieldLink RX0 50 "SeamarkNet$Packet" "kind" "I", Cond.methodLink RX11 210 yX9_carriedOn, Cond.instanceMethod yX9_carriedOn, Cond.selects RX9 yX9_carriedOn yX9_carriedOn, Cond.code yX9_carriedOn cX9_carriedOn 2 (some .int), Cond.methodLink RX11 250 yX11_digestHost, Cond.instanceMethod yX11_digestHost, Cond.selects RX11 yX11_digestHost yX11_digestHost, Cond.code yX11_digestHost cX11_digestHost 8 (some .long), Cond.fieldLink RX11 187 "SeamarkNet$Host" "heapCount" "I", Cond.fieldLink RX11 190 "SeamarkNet$Host" "noteCount" "I", Cond.fieldLink RX11 258 "SeamarkNet$Port" "address" "I", Cond.methodLink RX11 193 yX2_isTold, Cond.instanceMethod yX2_isTold, Cond.selects RX2 yX2_isTold yX2_isTold, Cond.code yX2_isTold cX2_isTold 2 (some .boolean), Cond.methodLink RX11 198 yX2_notePart, Cond.instanceMethod yX2_notePart, Cond.selects RX2 yX2_notePart yX2_notePart, Cond.code yX2_notePart cX2_notePart 3 (some .int), Cond.methodLink RX2 129 yX2_isTold, Cond.methodLink RX11 254 yX5_portWithMark]
def wsL_law0_r28 : List Cond := [Cond.methodLink RX11 181 yX2_knownMark, Cond.methodLink RL 40 yL_areMachinesRight, Cond.static yL_areMachinesRight, Cond.code yL_areMachinesRight cL_areMachinesRight 6 (some .boolean), Cond.methodLink RL 122 Lib.Math.min.name, Cond.methodLink RL 109 yX11_carried, Cond.instanceMethod yX11_carried, Cond.selects RX11 yX11_carried yX11_carried, Cond.code yX11_carried cX11_carried 2 (some .int), Cond.methodLink RL 112 yX11_use, Cond.instanceMethod yX11_use, Cond.selects RX11 yX11_use yX11_use, Cond.code yX11_use cX11_use 1 (some .double), Cond.fieldLink RX11 213 "SeamarkNet$Traffic" "packetSteps" "I", Cond.methodLink RL 116 yX11_heaps, Cond.instanceMethod yX11_heaps, Cond.selects RX11 yX11_heaps yX11_heaps, Cond.code yX11_heaps cX11_heaps 2 (some .int), Cond.methodLink RL 119 yX11_noted, Cond.instanceMethod yX11_noted, Cond.selects RX11 yX11_noted yX11_noted, Cond.code yX11_noted cX11_noted 2 (some .int), Cond.methodLink RL 127 yX11_note, Cond.instanceMethod yX11_note]
def wsL_law0_r29 : List Cond := [Cond.selects RX11 yX11_note yX11_note, Cond.code yX11_note cX11_note 5 (some .int), Cond.methodLink RX11 172 yX11_needPart, Cond.static yX11_needPart, Cond.code yX11_needPart cX11_needPart 2 none, Cond.methodLink RL 131 yX11_knows, Cond.instanceMethod yX11_knows, Cond.selects RX11 yX11_knows yX11_knows, Cond.code yX11_knows cX11_knows 4 (some .int), Cond.methodLink RL 134 yX11_way, Cond.instanceMethod yX11_way, Cond.selects RX11 yX11_way yX11_way, Cond.code yX11_way cX11_way 5 (some .int), Cond.methodLink RX11 201 yX3_portTo, Cond.methodLink RX11 204 yX3_hopTo, Cond.methodLink RX11 207 yX3_lengthTo, Cond.instanceMethod yX3_lengthTo, Cond.selects RX3 yX3_lengthTo yX3_lengthTo, Cond.code yX3_lengthTo cX3_lengthTo 2 (some .int), Cond.methodLink RL 44 yL_areFramesRight, Cond.static yL_areFramesRight, Cond.code yL_areFramesRight cL_areFramesRight 6 (some .boolean), Cond.methodLink RL 137 yX11_frame, Cond.instanceMethod yX11_frame]
def wsL_law0_r30 : List Cond := [Cond.selects RX11 yX11_frame yX11_frame, Cond.code yX11_frame cX11_frame 4 (some .int), Cond.methodLink RX11 163 yX8_find, Cond.instanceMethod yX8_find, Cond.selects RX8 yX8_find yX8_find, Cond.code yX8_find cX8_find 4 (some (.object "SeamarkNet$Frame")), Cond.methodLink RL 47 yL_areTriedRight, Cond.static yL_areTriedRight, Cond.code yL_areTriedRight cL_areTriedRight 9 (some .boolean), Cond.methodLink RL 140 yX11_hops, Cond.instanceMethod yX11_hops, Cond.selects RX11 yX11_hops yX11_hops, Cond.code yX11_hops cX11_hops 4 (some .int), Cond.fieldLink RX11 227 "SeamarkNet$Trial" "isAnswered" "Z", Cond.methodLink RX11 216 yX10_begin, Cond.instanceMethod yX10_begin, Cond.selects RX10 yX10_begin yX10_begin, Cond.code yX10_begin cX10_begin 2 none, Cond.methodLink RX10 20 yX9_takeOver, Cond.instanceMethod yX9_takeOver, Cond.selects RX9 yX9_takeOver yX9_takeOver, Cond.code yX9_takeOver cX9_takeOver 3 none, Cond.methodLink RX9 59 yX2_learnAllOf, Cond.instanceMethod yX2_learnAllOf]
def wsL_law0_r31 : List Cond := [Cond.selects RX2 yX2_learnAllOf yX2_learnAllOf, Cond.code yX2_learnAllOf cX2_learnAllOf 2 none, Cond.methodLink RX2 136 arraycopyName, Cond.native arraycopyName, Cond.static arraycopyName, Cond.initialized "java/lang/System", Cond.methodLink RX11 220 yX10_ask, Cond.instanceMethod yX10_ask, Cond.selects RX10 yX10_ask yX10_ask, Cond.code yX10_ask cX10_ask 8 none, Cond.fieldLink RX10 24 "SeamarkNet$Trial" "isAnswered" "Z", Cond.fieldLink RX10 28 "SeamarkNet$Trial" "toldKind" "I", Cond.fieldLink RX10 32 "SeamarkNet$Trial" "toldFrom" "I", Cond.fieldLink RX10 35 "SeamarkNet$Trial" "toldAbout" "I", Cond.fieldLink RX10 45 "SeamarkNet$Host" "noteCount" "I", Cond.fieldLink RX10 50 "SeamarkNet$Trial" "seen" "I", Cond.fieldLink RX10 57 "SeamarkNet$Trial" "number" "I", Cond.methodLink RX10 38 yX9_dropAllUnderWay, Cond.instanceMethod yX9_dropAllUnderWay, Cond.selects RX9 yX9_dropAllUnderWay yX9_dropAllUnderWay, Cond.code yX9_dropAllUnderWay cX9_dropAllUnderWay 2 none, Cond.methodLink RX9 63 yX8_clear, Cond.instanceMethod yX8_clear, Cond.selects RX8 yX8_clear yX8_clear]
def wsL_law0_r32 : List Cond := [Cond.code yX8_clear cX8_clear 1 none, Cond.methodLink RX9 66 yX2_dropWaitingAndKept, Cond.instanceMethod yX2_dropWaitingAndKept, Cond.selects RX2 yX2_dropWaitingAndKept yX2_dropWaitingAndKept, Cond.code yX2_dropWaitingAndKept cX2_dropWaitingAndKept 1 none, Cond.methodLink RX2 132 yX2_takeWaiting, Cond.methodLink RX9 69 yX6_takeBackAll, Cond.instanceMethod yX6_takeBackAll, Cond.selects RX6 yX6_takeBackAll yX6_takeBackAll, Cond.code yX6_takeBackAll cX6_takeBackAll 1 none, Cond.methodLink RX10 41 yX9_host, Cond.methodLink RX10 53 yX9_launch, Cond.methodLink RX10 60 yX10_look, Cond.instanceMethod yX10_look, Cond.selects RX10 yX10_look yX10_look, Cond.code yX10_look cX10_look 6 none, Cond.methodLink RX10 68 yX2_notePart, Cond.methodLink RX10 64 yX9_deliverNext, Cond.methodLink RL 143 yX11_widest, Cond.instanceMethod yX11_widest, Cond.selects RX11 yX11_widest yX11_widest, Cond.code yX11_widest cX11_widest 5 (some .int), Cond.fieldLink RX11 230 "SeamarkNet$Trial" "toldKind" "I", Cond.fieldLink RX11 233 "SeamarkNet$Trial" "toldAbout" "I"]
def wsL_law0_r33 : List Cond := [Cond.methodLink RL 146 yX11_whoTells, Cond.instanceMethod yX11_whoTells, Cond.selects RX11 yX11_whoTells yX11_whoTells, Cond.code yX11_whoTells cX11_whoTells 4 (some .int), Cond.fieldLink RX11 224 "SeamarkNet$Trial" "toldFrom" "I"]
def wsL_law0 : List Cond := (wsL_law0_r1 ++ (wsL_law0_r2 ++ (wsL_law0_r3 ++ (wsL_law0_r4 ++ (wsL_law0_r5 ++ (wsL_law0_r6 ++ (wsL_law0_r7 ++ (wsL_law0_r8 ++ (wsL_law0_r9 ++ (wsL_law0_r10 ++ (wsL_law0_r11 ++ (wsL_law0_r12 ++ (wsL_law0_r13 ++ (wsL_law0_r14 ++ (wsL_law0_r15 ++ (wsL_law0_r16 ++ (wsL_law0_r17 ++ (wsL_law0_r18 ++ (wsL_law0_r19 ++ (wsL_law0_r20 ++ (wsL_law0_r21 ++ (wsL_law0_r22 ++ (wsL_law0_r23 ++ (wsL_law0_r24 ++ (wsL_law0_r25 ++ (wsL_law0_r26 ++ (wsL_law0_r27 ++ (wsL_law0_r28 ++ (wsL_law0_r29 ++ (wsL_law0_r30 ++ (wsL_law0_r31 ++ (wsL_law0_r32 ++ wsL_law0_r33)))))))))))))))))))))))))))))))) ++ wsX110 ++ wsX50 ++ wsX90 ++ wsX100 ++ wsX30 ++ wsX80 ++ wsX60 ++ wsX20 ++ wsX10 ++ wsX70 ++ wsX40 ++ wsX00 ++ ([] : List Cond)
set_option maxRecDepth 20000 in
theorem wsL_law_in0 : ∀ w ∈ wsL_law0, w ∈ lw_tbl := fun w h => (goodIn_p wsL_law0 [52, 55, 60, 69, 74, 141, 147, 168, 182, 190, 276, 501, 497, 319, 322, 394, 414, 418, 512, 516, 520, 524, 528, 449, 453, 532, 536, 540, 545, 549, 553, 557, 584, 588, 591, 490, 596, 600, 604, 608, 612, 616, 621, 626, 630, 635, 639, 644, 647, 651, 655, 659, 663, 668, 672, 677, 760, 765, 769, 772, 776, 780, 784, 788, 792, 796, 494, 801, 805, 845, 849, 853, 857, 860, 864, 869, 873, 877, 486, 883, 888, 892, 896, 900, 904, 908, 912, 916, 920, 924, 928, 932, 936, 940, 944, 948, 952, 956, 960, 429, 964, 968, 972, 976, 981, 423, 433, 438, 441, 445, 473, 477, 481, 984, 988, 992, 996, 1000, 1005, 1009, 1014, 1018, 1024, 1027, 1031, 1035, 1039, 1043, 1047, 1051, 1055, 1062, 1066, 1070, 1074, 1079, 1085, 1091, 1095] (by decide +kernel) (by decide +kernel) w h).1
end
section
/-! ===== THE WORLD: a heap read as typed fields and elements; every method's contract speaks of it ===== -/
/-- kinds; int fields by (field code, address); reference fields; int elements; reference elements; lengths; next address; cells left; slots left -/
abbrev Wd : Type := (Nat → Nat) × (Nat → Nat → Int32) × (Nat → Nat → Option Nat) × (Nat → Nat → Int32) × (Nat → Nat → Option Nat) × (Nat → Nat) × Nat × Nat × Nat
def wd_K (w : Wd) : Nat → Nat := w.1
def wd_I (w : Wd) : Nat → Nat → Int32 := w.2.1
def wd_R (w : Wd) : Nat → Nat → Option Nat := w.2.2.1
def wd_A (w : Wd) : Nat → Nat → Int32 := w.2.2.2.1
def wd_Q (w : Wd) : Nat → Nat → Option Nat := w.2.2.2.2.1
def wd_N (w : Wd) : Nat → Nat := w.2.2.2.2.2.1
def wd_H (w : Wd) : Nat := w.2.2.2.2.2.2.1
def wd_M (w : Wd) : Nat := w.2.2.2.2.2.2.2.1
def wd_S (w : Wd) : Nat := w.2.2.2.2.2.2.2.2
def wd_up {α : Type} (f : Nat → Nat → α) (g a : Nat) (v : α) : Nat → Nat → α := fun h b => if h = g ∧ b = a then v else f h b
def wd_sI (w : Wd) (g a : Nat) (v : Int32) : Wd := (w.1, wd_up w.2.1 g a v, w.2.2)
def wd_sR (w : Wd) (g a : Nat) (v : Option Nat) : Wd := (w.1, w.2.1, wd_up w.2.2.1 g a v, w.2.2.2)
def wd_sA (w : Wd) (a i : Nat) (v : Int32) : Wd := (w.1, w.2.1, w.2.2.1, wd_up w.2.2.2.1 a i v, w.2.2.2.2)
def wd_sQ (w : Wd) (a i : Nat) (v : Option Nat) : Wd := (w.1, w.2.1, w.2.2.1, w.2.2.2.1, wd_up w.2.2.2.2.1 a i v, w.2.2.2.2.2)
/-- a whole int array -/
def wd_sF (w : Wd) (a : Nat) (f : Nat → Int32) : Wd := (w.1, w.2.1, w.2.2.1, fun b i => if b = a then f i else w.2.2.2.1 b i, w.2.2.2.2)
/-- a new cell: of kind k, length n, sz slots -/
def wd_nw (w : Wd) (k n sz : Nat) : Wd :=
  (fun b => if b = wd_H w then k else w.1 b, fun g b => if b = wd_H w then 0 else w.2.1 g b, fun g b => if b = wd_H w then none else w.2.2.1 g b,
   fun b i => if b = wd_H w then 0 else w.2.2.2.1 b i, fun b i => if b = wd_H w then none else w.2.2.2.2.1 b i, fun b => if b = wd_H w then n else w.2.2.2.2.2.1 b, wd_H w + 1, wd_M w - 1, wd_S w - sz)
/-- the kind of what a reference field holds (0: an int field); codes are 100 * class + place -/
def wd_t : Nat → Nat
  | 5 => 5 | 6 => 1
  | 102 => 5
  | 200 => 4 | 205 => 21 | 206 => 5 | 207 => 5 | 208 => 25 | 209 => 21
  | 302 => 22 | 304 => 21 | 305 => 21 | 306 => 21 | 308 => 21 | 310 => 21 | 311 => 21 | 312 => 21
  | 410 => 5 | 412 => 8 | 413 => 5 | 414 => 5
  | 500 => 21 | 502 => 23 | 504 => 22
  | 600 => 5 | 601 => 5
  | 800 => 1 | 802 => 1 | 803 => 1
  | 900 => 9 | 904 => 6 | 905 => 7 | 906 => 24 | 907 => 21
  | 1004 => 10
  | 1100 => 6 | 1101 => 10 | 1102 => 11
  | _ => 0
/-- the kind of an element of a reference array -/
def wd_e : Nat → Nat
  | 22 => 8 | 23 => 4 | 24 => 3 | 25 => 2 | 26 => 21
  | _ => 0
def wd_nF : Nat → Nat
  | 0 => 7 | 1 => 3 | 2 => 10 | 3 => 13 | 4 => 15 | 5 => 5 | 6 => 2 | 7 => 4 | 8 => 4 | 9 => 8 | 10 => 7 | 11 => 3
  | _ => 0
abbrev wd_cl : List vw_C := [(RX0, TX0, 7), (RX1, TX1, 3), (RX2, TX2, 10), (RX3, TX3, 13), (RX4, TX4, 15), (RX5, TX5, 5), (RX6, TX6, 2), (RX7, TX7, 4), (RX8, TX8, 4), (RX9, TX9, 8), (RX10, TX10, 7), (RX11, TX11, 3)]
/-- what is fixed over a whole run: the heap at its start; cells and slots in all; the tables' numbers; the array classes; the script -/
abbrev wd_E : Type := Heap × Nat × Nat × va_G × (Nat → ClassId) × Nat × Nat × (Nat → Int32)
abbrev eG (E : wd_E) : Heap := E.1
abbrev eC (E : wd_E) : Nat := E.2.1
abbrev eS (E : wd_E) : Nat := E.2.2.1
abbrev eD (E : wd_E) : va_G := E.2.2.2.1
abbrev eA (E : wd_E) : Nat → ClassId := E.2.2.2.2.1
abbrev eB (E : wd_E) : Nat := E.2.2.2.2.2.1
abbrev eL (E : wd_E) : Nat := E.2.2.2.2.2.2.1
abbrev eX (E : wd_E) : Nat → Int32 := E.2.2.2.2.2.2.2
abbrev wd_ty (E : wd_E) : List (ClassId × FieldType) := [(eA E 21, .int), (eA E 22, .object RX7), (eA E 23, .object RX3), (eA E 24, .object RX2), (eA E 25, .object RX1), (eA E 26, .array .int)]
def wd_KS (E : wd_E) (s : State) : Prop := va_K (eD E) wd_cl (wd_ty E) s ∧ va_X (eB E) (eL E) (eX E) s (eG E) ∧ (va_AO RX7 s ∧ va_AO RX3 s ∧ va_AO RX2 s ∧ va_AO RX1 s)
theorem wd_KS.moved {E : wd_E} {u U : State} (hvm : u.vm.Alike U.vm) (h : wd_KS E u) : wd_KS E U :=
  ⟨va_K.moved hvm h.1, va_X.moved hvm h.2.1, h.2.2.1.moved hvm, h.2.2.2.1.moved hvm, h.2.2.2.2.1.moved hvm, h.2.2.2.2.2.moved hvm⟩
def wd_v (w : Wd) (g a : Nat) : Value := if wd_t g = 0 then .int (wd_I w g a) else va_rf (wd_R w g a)
/-- slots of a heap, in all -/
def wd_hs (H : Heap) : Nat := (H.toList.map (fun c : Cell => c.slots.size)).sum
/-- the heap is the world -/
def wd_Hd (E : wd_E) (w : Wd) (H : Heap) : Prop :=
  (H.size = wd_H w ∧ wd_H w + wd_M w = eC E ∧ wd_hs H + wd_S w = eS E ∧ (eG E).size ≤ wd_H w ∧ ∀ q, q < (eG E).size → H[q]? = (eG E)[q]?) ∧
  (∀ a, wd_H w ≤ a → wd_K w a = 0) ∧
  (∀ a k, wd_K w a = k + 1 → k < 12 → (eG E).size ≤ a ∧ t_OB a ((eD E).1 k) (wd_nF k) ((eD E).2 k) H (fun j => wd_v w (100 * k + j) a)) ∧
  (∀ a, wd_K w a = 21 → (eG E).size ≤ a ∧ H[a]? = some (arrV (eA E 21) (wd_N w a) (fun j => .int (wd_A w a j)))) ∧
  (∀ a k, wd_K w a = k → 22 ≤ k → k ≤ 26 → (eG E).size ≤ a ∧ H[a]? = some (arrV (eA E k) (wd_N w a) (fun j => va_rf (wd_Q w a j)))) ∧
  (∀ a, wd_K w a = 20 → a = eB E ∧ a < (eG E).size ∧ wd_N w a = eL E ∧ ∀ j, j < eL E → wd_A w a j = eX E j) ∧
  (∀ a k j q, wd_K w a = k + 1 → k < 12 → j < wd_nF k → wd_t (100 * k + j) ≠ 0 → wd_R w (100 * k + j) a = some q → wd_K w q = wd_t (100 * k + j)) ∧
  (∀ a j q, 22 ≤ wd_K w a → wd_K w a ≤ 26 → wd_Q w a j = some q → wd_K w q = wd_e (wd_K w a))
/-- a later world -/
def wd_Ex (w w' : Wd) : Prop := (∀ a, wd_K w a ≠ 0 → wd_K w' a = wd_K w a) ∧ wd_H w ≤ wd_H w'
theorem wd_Ex.rf (w : Wd) : wd_Ex w w := ⟨fun _ _ => rfl, Nat.le_refl _⟩
theorem wd_Ex.tr {a b c : Wd} (h1 : wd_Ex a b) (h2 : wd_Ex b c) : wd_Ex a c := ⟨fun q h => by rw [h2.1 q (by rw [h1.1 q h]; exact h), h1.1 q h], Nat.le_trans h1.2 h2.2⟩
theorem wd_hs_push (H : Heap) (c : Cell) : wd_hs (H.push c) = wd_hs H + c.slots.size := by
  simp [wd_hs]
theorem wd_hs_same {H H1 : Heap} (hz : H1.size = H.size) (h : ∀ (q : Nat) (c : Cell), H[q]? = some c → ∃ c1, H1[q]? = some c1 ∧ c1.slots.size = c.slots.size) : wd_hs H1 = wd_hs H := by
  unfold wd_hs
  congr 1
  apply List.ext_getElem?
  intro i
  rw [List.getElem?_map, List.getElem?_map, Array.getElem?_toList, Array.getElem?_toList]
  by_cases hi : i < H.size
  · obtain ⟨c, hc⟩ : ∃ c, H[i]? = some c := ⟨H[i], Array.getElem?_eq_getElem hi⟩
    obtain ⟨c1, h1, h2⟩ := h i c hc
    rw [h1, hc]
    simp [h2]
  · rw [Array.getElem?_eq_none (by omega), Array.getElem?_eq_none (by omega)]
theorem wd_setSlot_size (c : Cell) (i : Nat) (v : Value) : (c.setSlot i v).slots.size = c.slots.size := by
  simp [Cell.setSlot]
theorem wd_hs_put {H H1 : Heap} {a i : Nat} {v : Value} {cell : Cell} (hc : H[a]? = some cell) (h1 : H1[a]? = some (cell.setSlot i v)) (hz : H1.size = H.size) (ho : ∀ q, q ≠ a → H1[q]? = H[q]?) : wd_hs H1 = wd_hs H := by
  refine wd_hs_same hz fun q c hq => ?_
  by_cases h : q = a
  · subst h
    rw [hc] at hq
    cases hq
    exact ⟨_, h1, wd_setSlot_size _ _ _⟩
  · exact ⟨c, by rw [ho q h]; exact hq, rfl⟩
theorem wd_old {s t : State} {locs : List Loc} {cells slots : Nat} (h : s.sameButNew t locs cells slots) : wd_hs t.heap = wd_hs s.heap + ((t.heap.toList.drop s.heap.size).map (fun c : Cell => c.slots.size)).sum := by
  have e : (t.heap.toList.take s.heap.size).map (fun c : Cell => c.slots.size) = s.heap.toList.map (fun c : Cell => c.slots.size) := by
    apply List.ext_getElem?
    intro i
    rw [List.getElem?_map, List.getElem?_map, List.getElem?_take]
    by_cases hi : i < s.heap.size
    · rw [if_pos hi]
      obtain ⟨c, hc⟩ : ∃ c, s.heap[i]? = some c := ⟨s.heap[i], Array.getElem?_eq_getElem hi⟩
      obtain ⟨c', h1, -, h3, -⟩ := h.2.2.2.2.2 i c hc
      rw [Array.getElem?_toList, Array.getElem?_toList, h1, hc]
      simp [h3]
    · rw [if_neg hi, Array.getElem?_toList, Array.getElem?_eq_none (by omega)]
      rfl
  unfold wd_hs
  rw [← e, ← List.sum_append, ← List.map_append, List.take_append_drop]
section WDT
variable {p : Program} {l : Launch} {e : Env} {R : Room} {s : State} {m : MethodId} {args : Array Value} {below : List Frame} {meth : Method} {c : Code} {T : State} {locs : List Loc} {cells slots : Nat}
theorem wd_tight (X : Stand p l e R s m args below meth c T locs cells slots) {c1 n1 : Nat} (h1 : T.heap.size ≤ s.heap.size + c1) (h2 : wd_hs T.heap ≤ wd_hs s.heap + n1) : Stand p l e R s m args below meth c T locs c1 n1 := by
  have ho := wd_old X.same
  have e : (T.setVm s.vm).heap = T.heap := rfl
  rw [e] at ho
  exact { X with same := ⟨X.same.1, X.same.2.1, h1, X.same.2.2.2.1, by rw [e]; omega, X.same.2.2.2.2.2⟩ }
theorem wd_grown (X : Stand p l e R s m args below meth c T locs cells slots) : s.heap.size ≤ T.heap.size ∧ wd_hs s.heap ≤ wd_hs T.heap := by
  have ho := wd_old X.same
  have e : (T.setVm s.vm).heap = T.heap := rfl
  rw [e] at ho
  exact ⟨X.same.2.1, by omega⟩
end WDT
theorem wd_hasV {w : Wd} {g a : Nat} (ht : wd_t g = 0) : wd_v w g a = .int (wd_I w g a) := if_pos ht
theorem wd_hasR {w : Wd} {g a : Nat} (ht : wd_t g ≠ 0) : wd_v w g a = va_rf (wd_R w g a) := if_neg ht
theorem wd_kind_lt {E : wd_E} {w : Wd} {H : Heap} (h : wd_Hd E w H) {a : Nat} (ha : wd_K w a ≠ 0) : a < wd_H w := by
  rcases Nat.lt_or_ge a (wd_H w) with q | q
  · exact q
  · exact absurd (h.2.1 a q) ha
theorem wd_Hd.putI {E : wd_E} {w : Wd} {H H1 : Heap} (h : wd_Hd E w H) {a ci k : Nat} {v : Int32} (ha : wd_K w a = ci + 1) (hci : ci < 12) (hk : k < wd_nF ci) (hn : wd_nF ci ≤ 15) (ht : wd_t (100 * ci + k) = 0)
    (e1 : t_OB a ((eD E).1 ci) (wd_nF ci) ((eD E).2 ci) H1 (updV (fun j => wd_v w (100 * ci + j) a) k (.int v))) (e2 : H1.size = H.size) (e3 : ∀ q, q ≠ a → H1[q]? = H[q]?) (e4 : wd_hs H1 = wd_hs H) : wd_Hd E (wd_sI w (100 * ci + k) a v) H1 := by
  obtain ⟨⟨a1, a2, a3, a4, a5⟩, b1, b2, b3, b4, b5, b6, b7⟩ := h
  have hga := (b2 a ci ha hci).1
  refine ⟨⟨e2.trans a1, a2, by rw [e4]; exact a3, a4, fun q hq => by rw [e3 q (by omega)]; exact a5 q hq⟩, b1, ?_, ?_, ?_, b5, b6, b7⟩
  · intro b k' hb hk'
    obtain ⟨g1, g2⟩ := b2 b k' hb hk'
    refine ⟨g1, ?_⟩
    by_cases hba : b = a
    · subst hba
      have : k' = ci := by have h1 : k' + 1 = ci + 1 := hb.symm.trans ha; omega
      subst this
      refine e1.to fun j hj => ?_
      by_cases hjk : j = k
      · subst hjk
        simp [updV, wd_v, ht, wd_sI, wd_I, wd_up]
      · have hne : ¬ (100 * k' + j = 100 * k' + k) := by omega
        simp only [updV, if_neg hjk, wd_v]
        split
        · simp [wd_sI, wd_I, wd_up, hjk]
        · rfl
    · refine (g2.kept (e3 b hba)).to fun j _ => ?_
      simp only [wd_v]
      split
      · simp [wd_sI, wd_I, wd_up, hba]
      · rfl
  · intro b hb
    have hba : b ≠ a := fun q => by subst q; have h1 : (21 : Nat) = ci + 1 := hb.symm.trans ha; omega
    obtain ⟨g1, g2⟩ := b3 b hb
    exact ⟨g1, by rw [e3 b hba]; exact g2⟩
  · intro b k' hb hk1 hk2
    have hba : b ≠ a := fun q => by subst q; have h1 : k' = ci + 1 := hb.symm.trans ha; omega
    obtain ⟨g1, g2⟩ := b4 b k' hb hk1 hk2
    exact ⟨g1, by rw [e3 b hba]; exact g2⟩
theorem wd_Hd.putR {E : wd_E} {w : Wd} {H H1 : Heap} (h : wd_Hd E w H) {a ci k : Nat} {r : Option Nat} (ha : wd_K w a = ci + 1) (hci : ci < 12) (hk : k < wd_nF ci) (hn : wd_nF ci ≤ 15) (ht : wd_t (100 * ci + k) ≠ 0) (hr : ∀ q, r = some q → wd_K w q = wd_t (100 * ci + k))
    (e1 : t_OB a ((eD E).1 ci) (wd_nF ci) ((eD E).2 ci) H1 (updV (fun j => wd_v w (100 * ci + j) a) k (va_rf r))) (e2 : H1.size = H.size) (e3 : ∀ q, q ≠ a → H1[q]? = H[q]?) (e4 : wd_hs H1 = wd_hs H) : wd_Hd E (wd_sR w (100 * ci + k) a r) H1 := by
  obtain ⟨⟨a1, a2, a3, a4, a5⟩, b1, b2, b3, b4, b5, b6, b7⟩ := h
  have hga := (b2 a ci ha hci).1
  refine ⟨⟨e2.trans a1, a2, by rw [e4]; exact a3, a4, fun q hq => by rw [e3 q (by omega)]; exact a5 q hq⟩, b1, ?_, ?_, ?_, b5, ?_, b7⟩
  · intro b k' hb hk'
    obtain ⟨g1, g2⟩ := b2 b k' hb hk'
    refine ⟨g1, ?_⟩
    by_cases hba : b = a
    · subst hba
      have : k' = ci := by have h1 : k' + 1 = ci + 1 := hb.symm.trans ha; omega
      subst this
      refine e1.to fun j hj => ?_
      by_cases hjk : j = k
      · subst hjk
        simp [updV, wd_v, ht, wd_sR, wd_R, wd_up]
      · simp only [updV, if_neg hjk, wd_v]
        split
        · rfl
        · simp [wd_sR, wd_R, wd_up, hjk]
    · refine (g2.kept (e3 b hba)).to fun j _ => ?_
      simp only [wd_v]
      split
      · rfl
      · simp [wd_sR, wd_R, wd_up, hba]
  · intro b hb
    have hba : b ≠ a := fun q => by subst q; have h1 : (21 : Nat) = ci + 1 := hb.symm.trans ha; omega
    obtain ⟨g1, g2⟩ := b3 b hb
    exact ⟨g1, by rw [e3 b hba]; exact g2⟩
  · intro b k' hb hk1 hk2
    have hba : b ≠ a := fun q => by subst q; have h1 : k' = ci + 1 := hb.symm.trans ha; omega
    obtain ⟨g1, g2⟩ := b4 b k' hb hk1 hk2
    exact ⟨g1, by rw [e3 b hba]; exact g2⟩
  · intro b k' j q hb hk' hj htj hq
    show wd_K w q = _
    have hq' : wd_up (wd_R w) (100 * ci + k) a r (100 * k' + j) b = some q := hq
    unfold wd_up at hq'
    split at hq'
    · rename_i hh
      rw [hh.1]
      exact hr q hq'
    · exact b6 b k' j q hb hk' hj htj hq'
theorem wd_Hd.putA {E : wd_E} {w : Wd} {H H1 : Heap} (h : wd_Hd E w H) {a i : Nat} {v : Int32} (ha : wd_K w a = 21)
    (e1 : H1[a]? = some (arrV (eA E 21) (wd_N w a) (updV (fun j => .int (wd_A w a j)) i (.int v)))) (e2 : H1.size = H.size) (e3 : ∀ q, q ≠ a → H1[q]? = H[q]?) (e4 : wd_hs H1 = wd_hs H) : wd_Hd E (wd_sA w a i v) H1 := by
  obtain ⟨⟨a1, a2, a3, a4, a5⟩, b1, b2, b3, b4, b5, b6, b7⟩ := h
  have hga := (b3 a ha).1
  refine ⟨⟨e2.trans a1, a2, by rw [e4]; exact a3, a4, fun q hq => by rw [e3 q (by omega)]; exact a5 q hq⟩, b1, ?_, ?_, ?_, ?_, b6, b7⟩
  · intro b k' hb hk'
    obtain ⟨g1, g2⟩ := b2 b k' hb hk'
    have hba : b ≠ a := fun q => by subst q; have h1 : k' + 1 = 21 := hb.symm.trans ha; omega
    exact ⟨g1, g2.kept (e3 b hba)⟩
  · intro b hb
    obtain ⟨g1, g2⟩ := b3 b hb
    refine ⟨g1, ?_⟩
    by_cases hba : b = a
    · subst hba
      rw [e1]
      show some (arrV (eA E 21) (wd_N w b) _) = some (arrV (eA E 21) (wd_N w b) _)
      congr 2
      funext j
      by_cases hj : j = i
      · subst hj
        simp [updV, wd_sA, wd_A, wd_up]
      · simp [updV, wd_sA, wd_A, wd_up, hj]
    · rw [e3 b hba, g2]
      show some (arrV (eA E 21) (wd_N w b) _) = some (arrV (eA E 21) (wd_N w b) _)
      congr 2
      funext j
      simp [wd_sA, wd_A, wd_up, hba]
  · intro b k' hb hk1 hk2
    have hba : b ≠ a := fun q => by subst q; have h1 : k' = 21 := hb.symm.trans ha; omega
    obtain ⟨g1, g2⟩ := b4 b k' hb hk1 hk2
    exact ⟨g1, by rw [e3 b hba]; exact g2⟩
  · intro b hb
    have hba : b ≠ a := fun q => by subst q; have h1 : (20 : Nat) = 21 := hb.symm.trans ha; omega
    obtain ⟨g1, g2, g3, g4⟩ := b5 b hb
    refine ⟨g1, g2, g3, fun j hj => ?_⟩
    rw [← g4 j hj]
    simp [wd_sA, wd_A, wd_up, hba]
/-- a whole int array written anew -/
theorem wd_Hd.putF {E : wd_E} {w : Wd} {H H1 : Heap} (h : wd_Hd E w H) {a : Nat} {f : Nat → Int32} (ha : wd_K w a = 21)
    (e1 : H1[a]? = some (arrV (eA E 21) (wd_N w a) (fun j => .int (f j)))) (e2 : H1.size = H.size) (e3 : ∀ q, q ≠ a → H1[q]? = H[q]?) (e4 : wd_hs H1 = wd_hs H) : wd_Hd E (wd_sF w a f) H1 := by
  obtain ⟨⟨a1, a2, a3, a4, a5⟩, b1, b2, b3, b4, b5, b6, b7⟩ := h
  have hga := (b3 a ha).1
  refine ⟨⟨e2.trans a1, a2, by rw [e4]; exact a3, a4, fun q hq => by rw [e3 q (by omega)]; exact a5 q hq⟩, b1, ?_, ?_, ?_, ?_, b6, b7⟩
  · intro b k' hb hk'
    obtain ⟨g1, g2⟩ := b2 b k' hb hk'
    have hba : b ≠ a := fun q => by subst q; have h1 : k' + 1 = 21 := hb.symm.trans ha; omega
    exact ⟨g1, g2.kept (e3 b hba)⟩
  · intro b hb
    obtain ⟨g1, g2⟩ := b3 b hb
    refine ⟨g1, ?_⟩
    by_cases hba : b = a
    · subst hba
      rw [e1]
      show some (arrV (eA E 21) (wd_N w b) _) = some (arrV (eA E 21) (wd_N w b) _)
      congr 2
      funext j
      simp [wd_sF, wd_A]
    · rw [e3 b hba, g2]
      show some (arrV (eA E 21) (wd_N w b) _) = some (arrV (eA E 21) (wd_N w b) _)
      congr 2
      funext j
      simp [wd_sF, wd_A, hba]
  · intro b k' hb hk1 hk2
    have hba : b ≠ a := fun q => by subst q; have h1 : k' = 21 := hb.symm.trans ha; omega
    obtain ⟨g1, g2⟩ := b4 b k' hb hk1 hk2
    exact ⟨g1, by rw [e3 b hba]; exact g2⟩
  · intro b hb
    have hba : b ≠ a := fun q => by subst q; have h1 : (20 : Nat) = 21 := hb.symm.trans ha; omega
    obtain ⟨g1, g2, g3, g4⟩ := b5 b hb
    refine ⟨g1, g2, g3, fun j hj => ?_⟩
    rw [← g4 j hj]
    simp [wd_sF, wd_A, hba]
theorem wd_Hd.putQ {E : wd_E} {w : Wd} {H H1 : Heap} (h : wd_Hd E w H) {a i k : Nat} {r : Option Nat} (ha : wd_K w a = k) (hk1 : 22 ≤ k) (hk2 : k ≤ 26) (hr : ∀ q, r = some q → wd_K w q = wd_e k)
    (e1 : H1[a]? = some (arrV (eA E k) (wd_N w a) (updV (fun j => va_rf (wd_Q w a j)) i (va_rf r)))) (e2 : H1.size = H.size) (e3 : ∀ q, q ≠ a → H1[q]? = H[q]?) (e4 : wd_hs H1 = wd_hs H) : wd_Hd E (wd_sQ w a i r) H1 := by
  obtain ⟨⟨a1, a2, a3, a4, a5⟩, b1, b2, b3, b4, b5, b6, b7⟩ := h
  have hga := (b4 a k ha hk1 hk2).1
  refine ⟨⟨e2.trans a1, a2, by rw [e4]; exact a3, a4, fun q hq => by rw [e3 q (by omega)]; exact a5 q hq⟩, b1, ?_, ?_, ?_, b5, b6, ?_⟩
  · intro b k' hb hk'
    obtain ⟨g1, g2⟩ := b2 b k' hb hk'
    have hba : b ≠ a := fun q => by subst q; have h1 : k' + 1 = k := hb.symm.trans ha; omega
    exact ⟨g1, g2.kept (e3 b hba)⟩
  · intro b hb
    have hba : b ≠ a := fun q => by subst q; have h1 : (21 : Nat) = k := hb.symm.trans ha; omega
    obtain ⟨g1, g2⟩ := b3 b hb
    exact ⟨g1, by rw [e3 b hba]; exact g2⟩
  · intro b k' hb hk1 hk2
    obtain ⟨g1, g2⟩ := b4 b k' hb hk1 hk2
    refine ⟨g1, ?_⟩
    by_cases hba : b = a
    · subst hba
      have : k' = k := hb.symm.trans ha
      subst this
      rw [e1]
      show some (arrV (eA E k') (wd_N w b) _) = some (arrV (eA E k') (wd_N w b) _)
      congr 2
      funext j
      by_cases hj : j = i
      · subst hj
        simp [updV, wd_sQ, wd_Q, wd_up]
      · simp [updV, wd_sQ, wd_Q, wd_up, hj]
    · rw [e3 b hba, g2]
      show some (arrV (eA E k') (wd_N w b) _) = some (arrV (eA E k') (wd_N w b) _)
      congr 2
      funext j
      simp [wd_sQ, wd_Q, wd_up, hba]
  · intro b j q h1 h2 hq
    show wd_K w q = wd_e (wd_K w b)
    have hq' : wd_up (wd_Q w) a i r b j = some q := hq
    unfold wd_up at hq'
    split at hq'
    · rename_i hh
      rw [hh.1, ha]
      exact hr q hq'
    · exact b7 b j q h1 h2 hq'
/-- a new cell of whatever kind: what its kind asks of it is the last premise -/
theorem wd_Hd.new {E : wd_E} {w : Wd} {H : Heap} (h : wd_Hd E w H) {k n : Nat} {cell : Cell} (hM : 1 ≤ wd_M w) (hS : cell.slots.size ≤ wd_S w) (hk20 : k ≠ 20)
    (e1 : ∀ ci, k = ci + 1 → ci < 12 → ∀ H1 : Heap, H1[wd_H w]? = some cell → t_OB (wd_H w) ((eD E).1 ci) (wd_nF ci) ((eD E).2 ci) H1 (fun j => wd_v (wd_nw w k n cell.slots.size) (100 * ci + j) (wd_H w)))
    (e2 : k = 21 → cell = arrV (eA E 21) n (fun _ => .int 0)) (e3 : 22 ≤ k → k ≤ 26 → cell = arrV (eA E k) n (fun _ => .null)) : wd_Hd E (wd_nw w k n cell.slots.size) (H.push cell) := by
  obtain ⟨⟨a1, a2, a3, a4, a5⟩, b1, b2, b3, b4, b5, b6, b7⟩ := id h
  have ho : ∀ q, q ≠ wd_H w → (H.push cell)[q]? = H[q]? := fun q hq => by
    rw [Array.getElem?_push, if_neg (by rw [a1]; exact hq)]
  have hs : (H.push cell)[wd_H w]? = some cell := by rw [← a1]; simp
  have hkk : ∀ b, wd_K (wd_nw w k n cell.slots.size) b = if b = wd_H w then k else wd_K w b := fun b => rfl
  have hold : ∀ b, wd_K w b ≠ 0 → b ≠ wd_H w := fun b hb => Nat.ne_of_lt (wd_kind_lt h hb)
  refine ⟨⟨?_, ?_, ?_, ?_, fun q hq => by rw [ho q (by omega)]; exact a5 q hq⟩, ?_, ?_, ?_, ?_, ?_, ?_, ?_⟩
  · show (H.push cell).size = wd_H w + 1
    rw [Array.size_push, a1]
  · show wd_H w + 1 + (wd_M w - 1) = eC E
    omega
  · show wd_hs (H.push cell) + (wd_S w - cell.slots.size) = eS E
    rw [wd_hs_push]
    omega
  · show (eG E).size ≤ wd_H w + 1
    omega
  · intro a ha
    have h1 : wd_H w + 1 ≤ a := ha
    rw [hkk, if_neg (by omega)]
    exact b1 a (by omega)
  · intro a k' ha hk'
    rw [hkk] at ha
    split at ha
    · rename_i hh
      subst hh
      exact ⟨a4, e1 k' ha hk' _ hs⟩
    · rename_i hh
      obtain ⟨g1, g2⟩ := b2 a k' ha hk'
      refine ⟨g1, (g2.kept (ho a hh)).to fun j _ => ?_⟩
      simp only [wd_v]
      split
      · simp [wd_nw, wd_I, hh]
      · simp [wd_nw, wd_R, hh]
  · intro a ha
    rw [hkk] at ha
    split at ha
    · rename_i hh
      subst hh
      refine ⟨a4, ?_⟩
      rw [hs]
      refine congrArg some ((e2 ha).trans ?_)
      have hn : wd_N (wd_nw w k n cell.slots.size) (wd_H w) = n := by simp [wd_nw, wd_N]
      rw [hn]
      congr 1
      funext j
      simp [wd_nw, wd_A]
    · rename_i hh
      obtain ⟨g1, g2⟩ := b3 a ha
      refine ⟨g1, ?_⟩
      rw [ho a hh, g2]
      have hn : wd_N (wd_nw w k n cell.slots.size) a = wd_N w a := by simp [wd_nw, wd_N, hh]
      rw [hn]
      congr 2
      funext j
      simp [wd_nw, wd_A, hh]
  · intro a k' ha hk1 hk2
    rw [hkk] at ha
    split at ha
    · rename_i hh
      subst hh
      subst ha
      refine ⟨a4, ?_⟩
      rw [hs]
      refine congrArg some ((e3 hk1 hk2).trans ?_)
      have hn : wd_N (wd_nw w k n cell.slots.size) (wd_H w) = n := by simp [wd_nw, wd_N]
      rw [hn]
      congr 1
      funext j
      simp [wd_nw, wd_Q, va_rf]
    · rename_i hh
      obtain ⟨g1, g2⟩ := b4 a k' ha hk1 hk2
      refine ⟨g1, ?_⟩
      rw [ho a hh, g2]
      have hn : wd_N (wd_nw w k n cell.slots.size) a = wd_N w a := by simp [wd_nw, wd_N, hh]
      rw [hn]
      congr 2
      funext j
      simp [wd_nw, wd_Q, hh]
  · intro a ha
    rw [hkk] at ha
    split at ha
    · exact absurd ha hk20
    · rename_i hh
      obtain ⟨g1, g2, g3, g4⟩ := b5 a ha
      have hn : wd_N (wd_nw w k n cell.slots.size) a = wd_N w a := by simp [wd_nw, wd_N, hh]
      refine ⟨g1, g2, hn.trans g3, fun j hj => ?_⟩
      rw [← g4 j hj]
      simp [wd_nw, wd_A, hh]
  · intro a k' j q ha hk' hj htj hq
    rw [hkk] at ha
    split at ha
    · rename_i hh
      subst hh
      simp [wd_nw, wd_R] at hq
    · rename_i hh
      have hq' : wd_R w (100 * k' + j) a = some q := by simpa [wd_nw, wd_R, hh] using hq
      have h9 := b6 a k' j q ha hk' hj htj hq'
      rw [hkk, if_neg (hold q (by rw [h9]; exact htj))]
      exact h9
  · intro a j q h1 h2 hq
    rw [hkk] at h1 h2 ⊢
    by_cases hh : a = wd_H w
    · subst hh
      simp [wd_nw, wd_Q] at hq
    · rw [if_neg hh] at h1 h2
      have hq' : wd_Q w a j = some q := by simpa [wd_nw, wd_Q, hh] using hq
      have h9 := b7 a j q h1 h2 hq'
      have h0 : wd_K w q ≠ 0 := by
        rw [h9]
        have : wd_K w a = 22 ∨ wd_K w a = 23 ∨ wd_K w a = 24 ∨ wd_K w a = 25 ∨ wd_K w a = 26 := by omega
        rcases this with z | z | z | z | z <;> rw [z] <;> decide
      rw [hkk, if_neg (hold q h0), if_neg hh]
      exact h9
/-- a walk's place: the world, what has been made and written, the kinds that are known -/
def wd_Z (E : wd_E) (w0 : Wd) (R : Room) (s : State) (w : Wd) (H : Heap) (locs : List Loc) (cells slots : Nat) (ks : List (Option Nat × Nat)) : Prop :=
  wd_Hd E w H ∧ (∀ q ∈ locs, (eG E).size ≤ q.base) ∧ (cells + wd_M w = R.cells ∧ slots + wd_S w = R.slots) ∧ wd_Ex w0 w ∧ (∀ q ∈ ks, q.2 ≠ 0 ∧ ∀ a, q.1 = some a → wd_K w a = q.2) ∧ (s.heap.size + R.cells = eC E ∧ wd_hs s.heap + R.slots = eS E)
theorem wd_Z.k {E : wd_E} {w0 w : Wd} {R : Room} {s : State} {H : Heap} {locs : List Loc} {cells slots : Nat} {ks : List (Option Nat × Nat)} (h : wd_Z E w0 R s w H locs cells slots ks) (i : Nat) {r : Option Nat} {k : Nat} (hi : ks[i]? = some (r, k)) {a : Nat} (ha : r = some a) : wd_K w a = k := (h.2.2.2.2.1 (r, k) (List.mem_of_getElem? hi)).2 a ha
theorem wd_Z.sub {E : wd_E} {w0 w : Wd} {R : Room} {s : State} {H : Heap} {locs : List Loc} {cells slots : Nat} {ks ks' : List (Option Nat × Nat)} (h : wd_Z E w0 R s w H locs cells slots ks) (is : List Nat) (hs : is.filterMap (fun i => ks[i]?) = ks') : wd_Z E w0 R s w H locs cells slots ks' := by
  refine ⟨h.1, h.2.1, h.2.2.1, h.2.2.2.1, fun q hq => ?_, h.2.2.2.2.2⟩
  subst hs
  obtain ⟨i, -, hi⟩ := List.mem_filterMap.mp hq
  exact h.2.2.2.2.1 q (List.mem_of_getElem? hi)
theorem wd_Z.add {E : wd_E} {w0 w : Wd} {R : Room} {s : State} {H : Heap} {locs : List Loc} {cells slots : Nat} {ks : List (Option Nat × Nat)} (h : wd_Z E w0 R s w H locs cells slots ks) {r : Option Nat} {k : Nat} (hk : k ≠ 0) (hr : ∀ a, r = some a → wd_K w a = k) : wd_Z E w0 R s w H locs cells slots ((r, k) :: ks) := by
  refine ⟨h.1, h.2.1, h.2.2.1, h.2.2.2.1, fun q hq => ?_, h.2.2.2.2.2⟩
  rcases List.mem_cons.mp hq with rfl | hq
  · exact ⟨hk, hr⟩
  · exact h.2.2.2.2.1 q hq
end
section
/-! ===== ROWS over the world ===== -/

def wd_fok (g ci k : Nat) (C : String) (T : u_T) (N : Nat) (ref nm ds : String) : Prop := g = 100 * ci + k ∧ k < N ∧ ci < 12 ∧ wd_nF ci = N ∧ wd_cl[ci]? = some (C, T, N) ∧ (T k).1 = ref ∧ (T k).2.1 = nm ∧ (T k).2.2.1 = ds ∧ (∀ w ∈ u_ws C T N, w ∈ TT)
def wd_cok (ci : Nat) (C : String) (T : u_T) (N : Nat) (ty : Nat → FieldType) : Prop := ci < 12 ∧ wd_nF ci = N ∧ N ≤ 15 ∧ wd_cl[ci]? = some (C, T, N) ∧ (∀ k, k < N → parseFieldDescriptor (T k).2.2.1 = some (ty k)) ∧ (∀ a, a < N → ∀ b, b < N → a ≠ b → (T a).2.1 ≠ (T b).2.1) ∧ (∀ w ∈ u_ws C T N, w ∈ TT) ∧ (∀ j, j < N → defaultValue (ty j) = if wd_t (100 * ci + j) = 0 then .int 0 else .null)
/-- the end of a walk of this claim's methods -/
abbrev wd_qc (E : wd_E) (w : Wd) (rv : Option Value) (w' : Wd) (X : Prop) : Array Value → State → Outcome → State → Prop := fun _ _ oc t => oc = .returned rv ∧ wd_Hd E w' t.heap ∧ wd_Ex w w' ∧ X
/-- A METHOD'S CONTRACT: from the world w, with these arguments, it returns rv, in the world w' -/
def wd_C (l : Launch) (E : wd_E) (y : MethodName) (cc : ByteArray) (maxL : Nat) (ret : Option FieldType) (F Lc : Nat) (av : List Value) (w : Wd) (rv : Option Value) (w' : Wd) (X : Prop) : Prop :=
  Met l y (Cond.code y cc maxL ret :: TT) { frames := F, cells := wd_M w, slots := wd_S w, locals := Lc } (va_Pc av (fun U => wd_Hd E w U.heap ∧ wd_KS E U)) (wd_qc E w rv w' X) (wd_M w) (wd_S w) (fun q => (eG E).size ≤ q)
section WDR
variable {p : Program} {l : Launch} {e : Env} {R : Room} {s : State} {m : MethodId} {args : Array Value} {below : List Frame} {meth : Method} {c : Code} {H : Heap} {locs : List Loc} {cells slots : Nat} {Q : State → Prop}
variable {cc : ByteArray} {pc : Nat} {ls : Array Slot} {rest : List Value} {E : wd_E} {w0 w : Wd} {ks : List (Option Nat × Nat)} {a : Nat}
theorem z_ob {g ci k : Nat} {C : String} {T : u_T} {N : Nat} {ref nm ds : String} (F : wd_fok g ci k C T N ref nm ds) (hts : ∀ w ∈ TT, w.before args s = true) (hK : wd_KS E s) (hZ : wd_Z E w0 R s w H locs cells slots ks) (ha : wd_K w a = ci + 1) :
    ∃ (cell : Cell) (cf : Nat) (kf : Class) (fi : Nat) (f : Field), H[a]? = some cell ∧ cell.vm ≠ .unknown ∧ s.fieldFound? ref nm ds = some (cf, kf, fi, f) ∧ f.isStatic = false ∧ cell.slots[f.slot]? = some (wd_v w g a) := by
  obtain ⟨rfl, hk, hci, hN, hc, rfl, rfl, rfl, hin⟩ := F
  obtain ⟨-, cell, q1, q2, q3, q4⟩ := hZ.1.2.2.1 a ci ha hci
  obtain ⟨hS, hfc, kC, hkC, hkind⟩ := hK.1.1 ci _ hc
  obtain ⟨cf, kf, fi, f, hi, hsl⟩ := hS k hk
  exact ⟨cell, cf, kf, fi, f, q1, by rw [q3]; exact fun h => by cases h, hi, (u_facts hfc hkC (u_lays hts hin hk) hi).1, by rw [hsl]; exact q4 k (by rw [hN]; exact hk)⟩
theorem z_getI {g ci k : Nat} {C : String} {T : u_T} {N : Nat} {ref nm ds own : String} {index : Nat} (F : wd_fok g ci k C T N ref nm ds) (ht : wd_t g = 0) (hx : p.tables.exec = Jvm.exec) (hb : c.code = cc) (hts : ∀ w ∈ TT, w.before args s = true) (hown : s.vm.findClass own = some m.cls) (hK : wd_KS E s) (hZ : wd_Z E w0 R s w H locs cells slots ks) (ha : wd_K w a = ci + 1)
    (hl : (Cond.fieldLink own index ref nm ds) ∈ TT) (hdg : decode cc pc = .ok (.getfield index, 3))
    (kk : W p l e R s m args below meth c H locs cells slots Q (F0 m (pc + 3) ls (.int (wd_I w g a) :: rest))) : W p l e R s m args below meth c H locs cells slots Q (F0 m pc ls (.ref a :: rest)) := by
  obtain ⟨cell, cf, kf, fi, f, h1, h2, h3, h4, h5⟩ := z_ob F hts hK hZ ha
  rw [wd_hasV ht] at h5
  exact W.getf hx hb hown (hts _ hl) h3 h4 h1 h2 h5 rfl rfl hdg kk
theorem z_getR {g ci k tk : Nat} {C : String} {T : u_T} {N : Nat} {ref nm ds own : String} {index : Nat} (F : wd_fok g ci k C T N ref nm ds) (ht : wd_t g = tk + 1) (hx : p.tables.exec = Jvm.exec) (hb : c.code = cc) (hts : ∀ w ∈ TT, w.before args s = true) (hown : s.vm.findClass own = some m.cls) (hK : wd_KS E s) (hZ : wd_Z E w0 R s w H locs cells slots ks) (ha : wd_K w a = ci + 1)
    (hl : (Cond.fieldLink own index ref nm ds) ∈ TT) (hdg : decode cc pc = .ok (.getfield index, 3))
    (kk : wd_Z E w0 R s w H locs cells slots ((wd_R w g a, tk + 1) :: ks) → W p l e R s m args below meth c H locs cells slots Q (F0 m (pc + 3) ls (va_rf (wd_R w g a) :: rest))) : W p l e R s m args below meth c H locs cells slots Q (F0 m pc ls (.ref a :: rest)) := by
  have ht0 : wd_t g ≠ 0 := by omega
  obtain ⟨cell, cf, kf, fi, f, h1, h2, h3, h4, h5⟩ := z_ob F hts hK hZ ha
  rw [wd_hasR ht0] at h5
  refine W.getf hx hb hown (hts _ hl) h3 h4 h1 h2 h5 rfl rfl hdg (kk (hZ.add (Nat.succ_ne_zero tk) fun q hq => ?_))
  obtain ⟨rfl, hk, hci, hN, -⟩ := F
  rw [hZ.1.2.2.2.2.2.2.1 a ci k q ha hci (by rw [hN]; exact hk) ht0 hq, ht]
theorem z_step {w1 : Wd} {H1 : Heap} {a k : Nat} (hZ : wd_Z E w0 R s w H locs cells slots ks) (hd : wd_Hd E w1 H1) (hga : (eG E).size ≤ a) (hM : wd_M w1 = wd_M w) (hS : wd_S w1 = wd_S w) (hK1 : wd_K w1 = wd_K w) (hH : wd_H w1 = wd_H w) : wd_Z E w0 R s w1 H1 (locs ++ [⟨a, k⟩]) cells slots ks := by
  obtain ⟨-, h2, h3, h4, h5, h6⟩ := hZ
  refine ⟨hd, fun q hq => ?_, by rw [hM, hS]; exact h3, ⟨fun b hb => by rw [hK1]; exact h4.1 b hb, by rw [hH]; exact h4.2⟩, by rw [hK1]; exact h5, h6⟩
  rcases List.mem_append.mp hq with hq | hq
  · exact h2 q hq
  · rw [List.mem_singleton.mp hq]
    exact hga
theorem z_putI {g ci k : Nat} {C : String} {T : u_T} {N : Nat} {ref nm ds own : String} {index : Nat} {tf : Nat → FieldType} {ty : FieldType} {v : Int32} (F : wd_fok g ci k C T N ref nm ds) (O : wd_cok ci C T N tf) (ht : wd_t g = 0) (hfin : (T k).2.2.2 = false) (hd : tf k = ty) (hn : narrow ty (.int v) = .int v) (hfit : fits ty (.int v) = true) (hx : p.tables.exec = Jvm.exec) (hb : c.code = cc) (hts : ∀ w ∈ TT, w.before args s = true) (hown : s.vm.findClass own = some m.cls) (hK : wd_KS E s) (hZ : wd_Z E w0 R s w H locs cells slots ks) (ha : wd_K w a = ci + 1)
    (hl : (Cond.fieldLink own index ref nm ds) ∈ TT) (hdg : decode cc pc = .ok (.putfield index, 3))
    (kk : ∀ (H1 : Heap) (locs1 : List Loc), wd_Z E w0 R s (wd_sI w g a v) H1 locs1 cells slots ks → W p l e R s m args below meth c H1 locs1 cells slots Q (F0 m (pc + 3) ls rest)) : W p l e R s m args below meth c H locs cells slots Q (F0 m pc ls (.int v :: .ref a :: rest)) := by
  obtain ⟨-, -, hN15, -, hty, hnm, -, -⟩ := O
  obtain ⟨rfl, hk, hci, hN, hc, rfl, rfl, rfl, hin⟩ := F
  subst hd
  have hap := va_apart (own := own) hts hin tf hty hnm hK.1 hc
  obtain ⟨hga, cell, q1, q2, q3, q4⟩ := hZ.1.2.2.1 a ci ha hci
  rw [hN] at q4
  obtain ⟨hS, hfc, kC, hkC, hkind⟩ := hK.1.1 ci _ hc
  obtain ⟨cf, kf, fi, f, hi, hsl⟩ := hS k hk
  have hlay := hts _ (hin _ (u_in_lay hk))
  unfold u_lay at hlay
  rw [if_neg (by rw [hfin]; decide)] at hlay
  have hst := (u_facts hfc hkC (u_lays hts hin hk) hi).1
  have h6 := u_store hfc hkC hkind hlay hi (hty k hk) hn hfit
  refine W.putK hx hb (f := f) ⟨hown, hts _ hl, ⟨_, _, _, hi⟩, hst⟩ (by rw [q2]; exact h6) q1 q3 (by rw [hsl]; exact k2_hasslot (q4 k hk)) rfl rfl hdg fun H' e1 e2 e3 => ?_
  rw [hsl] at e1 ⊢
  refine kk H' _ (z_step hZ (hZ.1.putI ha hci (by rw [hN]; exact hk) (by rw [hN]; exact hN15) ht ⟨_, e1, q2, q3, ?_⟩ e2 e3 (wd_hs_put q1 e1 e2 e3)) hga rfl rfl rfl rfl)
  rw [hN]
  exact t_set q4 hap hk _
theorem z_putR {g ci k : Nat} {C : String} {T : u_T} {N : Nat} {ref nm ds own : String} {index : Nat} {tf : Nat → FieldType} {ty : FieldType} {r : Option Nat} {vv : Value} (hvv : va_rf r = vv) (F : wd_fok g ci k C T N ref nm ds) (O : wd_cok ci C T N tf) {tk : Nat} (ht : wd_t g = tk + 1) (hr : ∀ q, r = some q → wd_K w q = tk + 1) (hfin : (T k).2.2.2 = false) (hd : tf k = ty) (hob : ∀ r, narrow ty (va_rf r) = va_rf r ∧ fits ty (va_rf r) = true) (hx : p.tables.exec = Jvm.exec) (hb : c.code = cc) (hts : ∀ w ∈ TT, w.before args s = true) (hown : s.vm.findClass own = some m.cls) (hK : wd_KS E s) (hZ : wd_Z E w0 R s w H locs cells slots ks) (ha : wd_K w a = ci + 1)
    (hl : (Cond.fieldLink own index ref nm ds) ∈ TT) (hdg : decode cc pc = .ok (.putfield index, 3))
    (kk : ∀ (H1 : Heap) (locs1 : List Loc), wd_Z E w0 R s (wd_sR w g a r) H1 locs1 cells slots ks → W p l e R s m args below meth c H1 locs1 cells slots Q (F0 m (pc + 3) ls rest)) : W p l e R s m args below meth c H locs cells slots Q (F0 m pc ls (vv :: .ref a :: rest)) := by
  subst hvv
  obtain ⟨-, -, hN15, -, hty, hnm, -, -⟩ := O
  obtain ⟨rfl, hk, hci, hN, hc, rfl, rfl, rfl, hin⟩ := F
  subst hd
  have hap := va_apart (own := own) hts hin tf hty hnm hK.1 hc
  obtain ⟨hga, cell, q1, q2, q3, q4⟩ := hZ.1.2.2.1 a ci ha hci
  rw [hN] at q4
  obtain ⟨hS, hfc, kC, hkC, hkind⟩ := hK.1.1 ci _ hc
  obtain ⟨cf, kf, fi, f, hi, hsl⟩ := hS k hk
  have hlay := hts _ (hin _ (u_in_lay hk))
  unfold u_lay at hlay
  rw [if_neg (by rw [hfin]; decide)] at hlay
  have hst := (u_facts hfc hkC (u_lays hts hin hk) hi).1
  have h6 := u_store hfc hkC hkind hlay hi (hty k hk) (hob r).1 (hob r).2
  refine W.putK hx hb (f := f) ⟨hown, hts _ hl, ⟨_, _, _, hi⟩, hst⟩ (by rw [q2]; exact h6) q1 q3 (by rw [hsl]; exact k2_hasslot (q4 k hk)) rfl rfl hdg fun H' e1 e2 e3 => ?_
  rw [hsl] at e1 ⊢
  refine kk H' _ (z_step hZ (hZ.1.putR ha hci (by rw [hN]; exact hk) (by rw [hN]; exact hN15) (by omega) (by rw [ht]; exact hr) ⟨_, e1, q2, q3, ?_⟩ e2 e3 (wd_hs_put q1 e1 e2 e3)) hga rfl rfl rfl rfl)
  rw [hN]
  exact t_set q4 hap hk _
theorem z_fin {ci k : Nat} {C : String} {T : u_T} {N : Nat} {own : String} {tf : Nat → FieldType} {v : Value} (hk : k < N) (hc : wd_cl[ci]? = some (C, T, N)) (hty : ∀ k, k < N → parseFieldDescriptor (T k).2.2.1 = some (tf k)) (hin : ∀ w ∈ u_ws C T N, w ∈ TT) (hfin : (T k).2.2.2 = true) (hdecl : (T k).1 = own) (hn : narrow (tf k) v = v) (hfit : fits (tf k) v = true) (hts : ∀ w ∈ TT, w.before args s = true) (hown : s.vm.findClass own = some m.cls) (hK : wd_KS E s) :
    ∃ (cf : Nat) (kf : Class) (fi : Nat) (f : Field), s.fieldFound? (T k).1 (T k).2.1 (T k).2.2.1 = some (cf, kf, fi, f) ∧ f.slot = (eD E).2 ci k ∧ f.isStatic = false ∧ m.cls = cf ∧ (narrow f.type v = v ∧ s.fitsSlot ((eD E).1 ci) .none f.slot v = true) := by
  obtain ⟨hS, hfc, kC, hkC, hkind⟩ := hK.1.1 ci _ hc
  obtain ⟨cf, kf, fi, f, hi, hsl⟩ := hS k hk
  have hlay := hts _ (hin _ (u_in_lay hk))
  unfold u_lay at hlay
  rw [if_pos hfin] at hlay
  have hst := (u_facts hfc hkC (u_lays hts hin hk) hi).1
  have hcf : m.cls = cf := by
    obtain ⟨_, _, c', _, _, _, -, -, hf', -, -, -, hown2, -⟩ := Cond.laysFinal_spec hlay
    have e1 : c' = cf := by have := hi.symm.trans hf'; simp at this; exact this.1.symm
    rw [hdecl] at hown2
    rw [← e1]; exact Option.some.inj (hown.symm.trans hown2)
  exact ⟨cf, kf, fi, f, hi, hsl, hst, hcf, u_fits hfc hkC hkind (Or.inr hlay) hi (hty k hk) hn hfit⟩
theorem z_putFI {g ci k : Nat} {C : String} {T : u_T} {N : Nat} {ref nm ds own : String} {index : Nat} {tf : Nat → FieldType} {ty : FieldType} {v : Int32} (hmn : meth.name = "<init>") (hdecl : ref = own) (F : wd_fok g ci k C T N ref nm ds) (O : wd_cok ci C T N tf) (ht : wd_t g = 0) (hfin : (T k).2.2.2 = true) (hd : tf k = ty) (hn : narrow ty (.int v) = .int v) (hfit : fits ty (.int v) = true) (hx : p.tables.exec = Jvm.exec) (hb : c.code = cc) (hts : ∀ w ∈ TT, w.before args s = true) (hown : s.vm.findClass own = some m.cls) (hK : wd_KS E s) (hZ : wd_Z E w0 R s w H locs cells slots ks) (ha : wd_K w a = ci + 1)
    (hl : (Cond.fieldLink own index ref nm ds) ∈ TT) (hdg : decode cc pc = .ok (.putfield index, 3))
    (kk : ∀ (H1 : Heap) (locs1 : List Loc), wd_Z E w0 R s (wd_sI w g a v) H1 locs1 cells slots ks → W p l e R s m args below meth c H1 locs1 cells slots Q (F0 m (pc + 3) ls rest)) : W p l e R s m args below meth c H locs cells slots Q (F0 m pc ls (.int v :: .ref a :: rest)) := by
  obtain ⟨-, -, hN15, -, hty, hnm, -, -⟩ := O
  obtain ⟨rfl, hk, hci, hN, hc, hrf, rfl, rfl, hin⟩ := F
  subst hd
  have hap := va_apart (own := own) hts hin tf hty hnm hK.1 hc
  obtain ⟨hga, cell, q1, q2, q3, q4⟩ := hZ.1.2.2.1 a ci ha hci
  rw [hN] at q4
  obtain ⟨cf, kf, fi, f, hi, hsl, hst, hcf, h6⟩ := z_fin hk hc hty hin hfin (hrf.trans hdecl) hn hfit hts hown hK
  subst hrf
  refine W.putFinK hx hb hown (hts _ hl) hi hst hcf hmn (by rw [q2]; exact h6) q1 q3 (by rw [hsl]; exact k2_hasslot (q4 k hk)) rfl rfl hdg fun H' e1 e2 e3 => ?_
  rw [hsl] at e1 ⊢
  refine kk H' _ (z_step hZ (hZ.1.putI ha hci (by rw [hN]; exact hk) (by rw [hN]; exact hN15) ht ⟨_, e1, q2, q3, ?_⟩ e2 e3 (wd_hs_put q1 e1 e2 e3)) hga rfl rfl rfl rfl)
  rw [hN]
  exact t_set q4 hap hk _
theorem z_putFR {g ci k : Nat} {C : String} {T : u_T} {N : Nat} {ref nm ds own : String} {index : Nat} {tf : Nat → FieldType} {ty : FieldType} {r : Option Nat} {vv : Value} (hvv : va_rf r = vv) (hmn : meth.name = "<init>") (hdecl : ref = own) (F : wd_fok g ci k C T N ref nm ds) (O : wd_cok ci C T N tf) {tk : Nat} (ht : wd_t g = tk + 1) (hr : ∀ q, r = some q → wd_K w q = tk + 1) (hfin : (T k).2.2.2 = true) (hd : tf k = ty) (hob : ∀ r, narrow ty (va_rf r) = va_rf r ∧ fits ty (va_rf r) = true) (hx : p.tables.exec = Jvm.exec) (hb : c.code = cc) (hts : ∀ w ∈ TT, w.before args s = true) (hown : s.vm.findClass own = some m.cls) (hK : wd_KS E s) (hZ : wd_Z E w0 R s w H locs cells slots ks) (ha : wd_K w a = ci + 1)
    (hl : (Cond.fieldLink own index ref nm ds) ∈ TT) (hdg : decode cc pc = .ok (.putfield index, 3))
    (kk : ∀ (H1 : Heap) (locs1 : List Loc), wd_Z E w0 R s (wd_sR w g a r) H1 locs1 cells slots ks → W p l e R s m args below meth c H1 locs1 cells slots Q (F0 m (pc + 3) ls rest)) : W p l e R s m args below meth c H locs cells slots Q (F0 m pc ls (vv :: .ref a :: rest)) := by
  subst hvv
  obtain ⟨-, -, hN15, -, hty, hnm, -, -⟩ := O
  obtain ⟨rfl, hk, hci, hN, hc, hrf, rfl, rfl, hin⟩ := F
  subst hd
  have hap := va_apart (own := own) hts hin tf hty hnm hK.1 hc
  obtain ⟨hga, cell, q1, q2, q3, q4⟩ := hZ.1.2.2.1 a ci ha hci
  rw [hN] at q4
  obtain ⟨cf, kf, fi, f, hi, hsl, hst, hcf, h6⟩ := z_fin hk hc hty hin hfin (hrf.trans hdecl) (hob r).1 (hob r).2 hts hown hK
  subst hrf
  refine W.putFinK hx hb hown (hts _ hl) hi hst hcf hmn (by rw [q2]; exact h6) q1 q3 (by rw [hsl]; exact k2_hasslot (q4 k hk)) rfl rfl hdg fun H' e1 e2 e3 => ?_
  rw [hsl] at e1 ⊢
  refine kk H' _ (z_step hZ (hZ.1.putR ha hci (by rw [hN]; exact hk) (by rw [hN]; exact hN15) (by omega) (by rw [ht]; exact hr) ⟨_, e1, q2, q3, ?_⟩ e2 e3 (wd_hs_put q1 e1 e2 e3)) hga rfl rfl rfl rfl)
  rw [hN]
  exact t_set q4 hap hk _
theorem z_iald (hx : p.tables.exec = Jvm.exec) (hb : c.code = cc) (hK : wd_KS E s) (hZ : wd_Z E w0 R s w H locs cells slots ks) (ha : wd_K w a = 21) {i : Int32} (hin : ¬ (i < 0 ∨ wd_N w a ≤ i.toNatClampNeg)) (hdg : decode cc pc = .ok (.iaload, 1))
    (kk : W p l e R s m args below meth c H locs cells slots Q (F0 m (pc + 1) ls (.int (wd_A w a i.toNatClampNeg) :: rest))) : W p l e R s m args below meth c H locs cells slots Q (F0 m pc ls (.int i :: .ref a :: rest)) := by
  have hlt : i.toNatClampNeg < wd_N w a := Nat.not_le.mp fun q => hin (Or.inr q)
  exact W.iald (v := .int (wd_A w a i.toNatClampNeg)) hx hb (hZ.1.2.2.2.1 a ha).2 ((hK.1.2 0 _ rfl).1 _ _) (fun q => by cases q) (by rw [arrV_size]; exact hin) (by rw [arrV_read _ _ hlt]) rfl rfl hdg kk
/-- the script's own array -/
theorem z_iald0 (hx : p.tables.exec = Jvm.exec) (hb : c.code = cc) (hK : wd_KS E s) (hZ : wd_Z E w0 R s w H locs cells slots ks) (ha : wd_K w a = 20) {i : Int32} (hin : ¬ (i < 0 ∨ wd_N w a ≤ i.toNatClampNeg)) (hdg : decode cc pc = .ok (.iaload, 1))
    (kk : W p l e R s m args below meth c H locs cells slots Q (F0 m (pc + 1) ls (.int (wd_A w a i.toNatClampNeg) :: rest))) : W p l e R s m args below meth c H locs cells slots Q (F0 m pc ls (.int i :: .ref a :: rest)) := by
  obtain ⟨h1, h2, h3, h4⟩ := hZ.1.2.2.2.2.2.1 a ha
  subst h1
  obtain ⟨scr, g1, g2, g3, g4, g5⟩ := hK.2.1
  have hlt : i.toNatClampNeg < eL E := by rw [← h3]; exact Nat.not_le.mp fun q => hin (Or.inr q)
  refine W.iald (v := .int (wd_A w (eB E) i.toNatClampNeg)) hx hb (by rw [hZ.1.1.2.2.2.2 _ h2]; exact g1) g2 g3 (by rw [g4, ← h3]; exact hin) ?_ rfl rfl hdg kk
  rw [g5 _ hlt, h4 _ hlt]
theorem z_iast (hx : p.tables.exec = Jvm.exec) (hb : c.code = cc) (hK : wd_KS E s) (hZ : wd_Z E w0 R s w H locs cells slots ks) (ha : wd_K w a = 21) {i x : Int32} (hin : ¬ (i < 0 ∨ wd_N w a ≤ i.toNatClampNeg)) (hdg : decode cc pc = .ok (.iastore, 1))
    (kk : ∀ (H1 : Heap) (locs1 : List Loc), wd_Z E w0 R s (wd_sA w a i.toNatClampNeg x) H1 locs1 cells slots ks → W p l e R s m args below meth c H1 locs1 cells slots Q (F0 m (pc + 1) ls rest)) : W p l e R s m args below meth c H locs cells slots Q (F0 m pc ls (.int x :: .int i :: .ref a :: rest)) := by
  obtain ⟨hga, hc⟩ := hZ.1.2.2.2.1 a ha
  refine W.iast hx hb hc ((hK.1.2 0 _ rfl).1 _ _) (fun q => by cases q) (by rw [arrV_size]; exact hin) rfl rfl hdg fun H1 e1 e2 e3 => ?_
  refine kk H1 _ (z_step hZ (hZ.1.putA ha ?_ e2 e3 (wd_hs_put hc e1 e2 e3)) hga rfl rfl rfl rfl)
  rw [e1, arrV_store]
theorem z_alen (hx : p.tables.exec = Jvm.exec) (hb : c.code = cc) (hK : wd_KS E s) (hZ : wd_Z E w0 R s w H locs cells slots ks) (ha : wd_K w a = 21) (hdg : decode cc pc = .ok (.arraylength, 1))
    (kk : W p l e R s m args below meth c H locs cells slots Q (F0 m (pc + 1) ls (.int (Int32.ofNat (wd_N w a)) :: rest))) : W p l e R s m args below meth c H locs cells slots Q (F0 m pc ls (.ref a :: rest)) :=
  W.alen (n := Int32.ofNat (wd_N w a)) hx hb (hZ.1.2.2.2.1 a ha).2 ((hK.1.2 0 _ rfl).1 _ _) (by rw [arrV_size]; rfl) rfl rfl hdg kk
theorem z_alen0 (hx : p.tables.exec = Jvm.exec) (hb : c.code = cc) (hK : wd_KS E s) (hZ : wd_Z E w0 R s w H locs cells slots ks) (ha : wd_K w a = 20) (hdg : decode cc pc = .ok (.arraylength, 1))
    (kk : W p l e R s m args below meth c H locs cells slots Q (F0 m (pc + 1) ls (.int (Int32.ofNat (wd_N w a)) :: rest))) : W p l e R s m args below meth c H locs cells slots Q (F0 m pc ls (.ref a :: rest)) := by
  obtain ⟨h1, h2, h3, h4⟩ := hZ.1.2.2.2.2.2.1 a ha
  subst h1
  obtain ⟨scr, g1, g2, g3, g4, g5⟩ := hK.2.1
  exact W.alen (n := Int32.ofNat (wd_N w (eB E))) hx hb (by rw [hZ.1.1.2.2.2.2 _ h2]; exact g1) g2 (by rw [g4, ← h3]; rfl) rfl rfl hdg kk
/-- the classes of the elements -/
def wd_ec : Nat → FieldType
  | 22 => .object RX7 | 23 => .object RX3 | 24 => .object RX2 | 25 => .object RX1
  | _ => .array .int
theorem z_aty (hK : wd_KS E s) {k : Nat} (hk1 : 22 ≤ k) (hk2 : k ≤ 26) : ArrOfT s (eA E k) (wd_ec k) ∧ va_RA s (eA E k) (wd_ec k) := by
  have : k = 22 ∨ k = 23 ∨ k = 24 ∨ k = 25 ∨ k = 26 := by omega
  rcases this with rfl | rfl | rfl | rfl | rfl
  · exact hK.1.2 1 _ rfl
  · exact hK.1.2 2 _ rfl
  · exact hK.1.2 3 _ rfl
  · exact hK.1.2 4 _ rfl
  · exact hK.1.2 5 _ rfl
theorem z_aald {k : Nat} (hk1 : 22 ≤ k) (hk2 : k ≤ 26) {tk : Nat} (htk : wd_e k = tk + 1) (hx : p.tables.exec = Jvm.exec) (hb : c.code = cc) (hK : wd_KS E s) (hZ : wd_Z E w0 R s w H locs cells slots ks) (ha : wd_K w a = k) {i : Int32} (hin : ¬ (i < 0 ∨ wd_N w a ≤ i.toNatClampNeg)) (hdg : decode cc pc = .ok (.aaload, 1))
    (kk : wd_Z E w0 R s w H locs cells slots ((wd_Q w a i.toNatClampNeg, tk + 1) :: ks) → W p l e R s m args below meth c H locs cells slots Q (F0 m (pc + 1) ls (va_rf (wd_Q w a i.toNatClampNeg) :: rest))) : W p l e R s m args below meth c H locs cells slots Q (F0 m pc ls (.int i :: .ref a :: rest)) := by
  have hlt : i.toNatClampNeg < wd_N w a := Nat.not_le.mp fun q => hin (Or.inr q)
  have hr : (wd_ec k).isReference = true := by
    have : k = 22 ∨ k = 23 ∨ k = 24 ∨ k = 25 ∨ k = 26 := by omega
    rcases this with rfl | rfl | rfl | rfl | rfl <;> rfl
  refine W.aald (v := va_rf (wd_Q w a i.toNatClampNeg)) (ty := wd_ec k) hx hb (hZ.1.2.2.2.2.1 a k ha hk1 hk2).2 ((z_aty hK hk1 hk2).1 _ _) hr (fun q => by cases q) (by rw [arrV_size]; exact hin) (by rw [arrV_read _ _ hlt]) rfl rfl hdg (kk (hZ.add (Nat.succ_ne_zero tk) fun q hq => ?_))
  rw [hZ.1.2.2.2.2.2.2.2 a _ q (by rw [ha]; exact hk1) (by rw [ha]; exact hk2) hq, ha, htk]
theorem z_aast {k ci v : Nat} {C : String} {T : u_T} {N : Nat} (hk1 : 22 ≤ k) (hk2 : k ≤ 25) (hec : wd_ec k = .object C) (hte : wd_e k = ci + 1) (hci : ci < 12) (hc : wd_cl[ci]? = some (C, T, N)) (hx : p.tables.exec = Jvm.exec) (hb : c.code = cc) (hK : wd_KS E s) (hZ : wd_Z E w0 R s w H locs cells slots ks) (ha : wd_K w a = k) (hv : wd_K w v = ci + 1) {i : Int32} (hin : ¬ (i < 0 ∨ wd_N w a ≤ i.toNatClampNeg)) (hdg : decode cc pc = .ok (.aastore, 1))
    (kk : ∀ (H1 : Heap) (locs1 : List Loc), wd_Z E w0 R s (wd_sQ w a i.toNatClampNeg (some v)) H1 locs1 cells slots ks → W p l e R s m args below meth c H1 locs1 cells slots Q (F0 m (pc + 1) ls rest)) : W p l e R s m args below meth c H locs cells slots Q (F0 m pc ls (.ref v :: .int i :: .ref a :: rest)) := by
  have hk2' : k ≤ 26 := by omega
  have hlt : i.toNatClampNeg < wd_N w a := Nat.not_le.mp fun q => hin (Or.inr q)
  have h0 : ¬ i < 0 := fun q => hin (Or.inl q)
  obtain ⟨-, cellV, g1, g2, g3, -⟩ := hZ.1.2.2.1 v ci hv hci
  have hcls := (hK.1.1 ci _ hc).2
  have hRA := (z_aty hK hk1 hk2').2
  rw [hec] at hRA
  obtain ⟨kA, comp, k1, k2, k3, -⟩ := hRA
  have hcomp : comp = (eD E).1 ci := Option.some.inj (k3.symm.trans hcls.1)
  subst hcomp
  obtain ⟨kC, hkC, -⟩ := id hcls.2
  obtain ⟨hga, hca⟩ := hZ.1.2.2.2.2.1 a k ha hk1 hk2'
  refine W.aast hx hb hca (fun q h => by cases h) (fun h => by cases h) k1 k2 rfl hkC ⟨h0, by rw [arrV_size]; exact hlt⟩ g1 (fun q h => by rw [g3] at h; cases h) (by rw [g2]; exact hkC) (by rw [g2]; exact va_assign hcls) rfl rfl hdg fun H1 e1 e2 e3 => ?_
  refine kk H1 _ (z_step hZ (hZ.1.putQ ha hk1 hk2' (fun q hq => by cases hq; rw [hv, hte]) ?_ e2 e3 (wd_hs_put hca e1 e2 e3)) hga rfl rfl rfl rfl)
  rw [e1, arrV_store]
  rfl
theorem z_grow {w1 : Wd} {H1 : Heap} {n : Nat} (hZ : wd_Z E w0 R s w H locs cells slots ks) (hd : wd_Hd E w1 H1) (hc : 1 ≤ wd_M w) (hs : n ≤ wd_S w) (hM : wd_M w1 = wd_M w - 1) (hS : wd_S w1 = wd_S w - n) (hE : wd_Ex w w1) : wd_Z E w0 R s w1 H1 locs (cells + 1) (slots + n) ks := by
  obtain ⟨h1, h2, h3, h4, h5, h6⟩ := hZ
  refine ⟨hd, h2, by rw [hM, hS]; omega, h4.tr hE, fun q hq => ⟨(h5 q hq).1, fun a ha => ?_⟩, h6⟩
  have h9 := (h5 q hq).2 a ha
  rw [hE.1 a (by rw [h9]; exact (h5 q hq).1)]
  exact h9
end WDR
end
