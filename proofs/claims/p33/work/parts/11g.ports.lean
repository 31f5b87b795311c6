/-! ===== PURE: tunnels, routes, ports ===== -/
section PO1
variable {P T X R i j n c B nc nm s : Nat} {z w u v : Wd} {b b1 b2 : Be} {A A' A1 A2 : Ta}
theorem Nw.h2 (h : Nw B nc nm s z w b1 A1 b2 A2) (hj : j < 8) : wd_R w 200 (hA (B + 77) j) = some (mA (B + 1) j) := (h.2.1.2.2.2.2.2.2 j hj).1.1
theorem x_thrown (h : Nw B nc nm (s + 1) w w b1 A1 b2 A2) : ¬ (wd_M w = 0 ∨ wd_S w < 6) ∧ Nw B nc nm s (wd_nw w 30 0 6) (wd_nw w 30 0 6) b1 A1 b2 A2 ∧ (∀ a, Ot B a → ag w (wd_nw w 30 0 6) a) ∧ Sq (B + 1) w (wd_nw w 30 0 6) ∧ (∀ i k, i < 8 → wd_Q (wd_nw w 30 0 6) (mA (B + 1) i + 1) k = wd_Q w (mA (B + 1) i + 1) k) ∧ ∀ i, i < 8 → wd_I (wd_nw w 30 0 6) 301 (mA (B + 1) i) = wd_I w 301 (mA (B + 1) i) := by
  obtain ⟨q0, q1, q2⟩ := h.bin
  refine ⟨q0, q1.now, q2, Sq.now h.1.2.2.2.1 q1.2.1.1, fun i k hi => ?_, fun i hi => ?_⟩
  · have h11 := h.2.2.2.2.2.2.2.2.2.2.1
    rw [q_nw, if_neg (by unfold mA; omega)]
  · have h11 := h.2.2.2.2.2.2.2.2.2.2.1
    rw [i_nw, if_neg (by unfold mA; omega)]
theorem x_setForwarding (h : Nw B 2 nm (s + 1) w w b1 A1 b2 A2) (hj : j < nm) {p0 : Int32} (hp : p0 = 0 ∨ p0 = 1) (h301 : wd_I w 301 (mA (B + 1) j) = 0 ∨ wd_I w 301 (mA (B + 1) j) = 1) :
    ∃ r v, f_X11_setForwarding n w B (Int32.ofNat j) p0 = some (r, v) ∧ Nw B 2 nm s v v b1 A1 b2 A2 ∧ (∀ a, Ot B a → ag w v a) ∧ Sq (B + 1) w v ∧ (∀ i k, i < 8 → wd_Q v (mA (B + 1) i + 1) k = wd_Q w (mA (B + 1) i + 1) k) ∧ ∀ i, wd_I v 301 (mA (B + 1) i) = wd_I w 301 (mA (B + 1) i) ∨ wd_I v 301 (mA (B + 1) i) = p0 := by
  have h8 := h.mm.2
  obtain ⟨p1, p2, p3, p4, p5⟩ := h.1.2.1
  have hag : ∀ a, ¬ pl (B + 1) w a → ag w (wd_sI w 301 (mA (B + 1) j) p0) a := fun a ha => ag_pI (P := B + 1) (z := w) (m_in0 (by omega)) ha (ag.rf _ _)
  have hB : PB (B + 1) 2 nm (wd_sI w 301 (mA (B + 1) j) p0) := ⟨by rw [i_sI, if_neg (by omega)]; exact p1, p2, by rw [i_sI, if_neg (by omega)]; exact p3, p4, p5⟩
  have hP := h.1.cg hB (fun _ _ => rfl) (fun _ _ => rfl) (fun _ => rfl) (fun g a h1 _ _ => by rw [i_sI, if_neg (fun q => h1 q.1)]) (fun i d x hi _ _ => rfl)
  obtain ⟨q1, q2⟩ := h.op0 hP hag (fun _ _ => rfl) rfl rfl rfl
  refine ⟨wd_I w 301 (mA (B + 1) j), _, ?_, q1, q2, Sq.cg (fun _ _ => rfl) (fun g a h1 h2 => by rw [i_sI, if_neg (by omega)]), fun _ _ _ => rfl, fun i => ?_⟩
  · rw [f_X11_setForwarding, x_hostOf h hj, wd_b2_s, Option.bind_some, wd_let, h.h2 (by omega), Option.bind_some, wd_let, j_gd (fun q => q hp), wd_let, j_gd (fun q => q h301)]
  · rw [i_sI]
    split
    · exact Or.inr rfl
    · exact Or.inl rfl
/-- a change of one machine's int fields 307, 309 and of its int tables -/
theorem Nw.op1 (h : Nw B nc nm (s + 1) w w b1 A1 b2 A2) (hi : i < 8) (hR : ∀ g a, wd_R v g a = wd_R w g a) (hQ : ∀ a k, wd_Q v a k = wd_Q w a k) (hN : ∀ a, wd_N v a = wd_N w a) (hHMS : wd_H v = wd_H w ∧ wd_M v = wd_M w ∧ wd_S v = wd_S w) (hI : ∀ g a, (g ≠ 307 ∧ g ≠ 309) ∨ a ≠ mA (B + 1) i → wd_I v g a = wd_I w g a) (hA : ∀ a x, (∀ d, 2 ≤ d → d ≤ 8 → a ≠ mA (B + 1) i + d) → wd_A v a x = wd_A w a x) (hC : PC (B + 1) v i) (hE : ∀ x, x < 256 → PE (B + 1) v i x) :
    Nw B nc nm s v v b1 A1 b2 A2 ∧ (∀ a, Ot B a → ag w v a) ∧ Sq (B + 1) w v ∧ ∀ i k, i < 8 → wd_Q v (mA (B + 1) i + 1) k = wd_Q w (mA (B + 1) i + 1) k := by
  obtain ⟨⟨a1, a2, a3⟩, ⟨p1, p2, p3, p4, p5⟩, hC', hD, hE'⟩ := id h.1
  have hag : ∀ a, ¬ pl (B + 1) w a → ag w v a := fun a ha => ⟨fun g => hI g a (Or.inr (fun e => ha (e ▸ Or.inl (m_in0 hi)))), fun g => hR g a, fun x => hA a x (fun d h1 h2 e => ha (e ▸ Or.inl (m_in hi (by omega)))), fun k => hQ a k, hN a⟩
  have hne : ∀ j, j < 8 → j ≠ i → mA (B + 1) j ≠ mA (B + 1) i := fun j _ hji => by unfold mA; omega
  have hAo : ∀ j d x, j < 8 → j ≠ i → d < 9 → wd_A v (mA (B + 1) j + d) x = wd_A w (mA (B + 1) j + d) x := fun j d x hj hji hd => hA _ x (fun e _ h2 => m_ne hj hi hji hd (by omega))
  have hP : PSs (B + 1) nc nm v := by
    refine ⟨⟨by rw [hR, hR, hR, hN, hN, hN]; exact a1, fun k hk => by rw [hQ, hR, hR, hR, hR, hR, hR, hR, hR]; exact a2 k hk, fun k hk => by rw [hN, hN, hN, hN, hN, hN, hN, hN]; exact a3 k hk⟩, ⟨by rw [hI _ _ (Or.inl ⟨by omega, by omega⟩)]; exact p1, fun c hc => by rw [hA _ _ (fun d _ _ => by unfold mA; omega)]; exact p2 c hc, by rw [hI _ _ (Or.inl ⟨by omega, by omega⟩)]; exact p3, p4, p5⟩, fun j hj => ?_, hD.cg (fun i k _ _ => hQ _ k) (fun x _ => hQ _ x) (fun _ _ q _ _ _ => ⟨hI 700 q (Or.inl ⟨by omega, by omega⟩), hI 701 q (Or.inl ⟨by omega, by omega⟩), hI 702 q (Or.inl ⟨by omega, by omega⟩)⟩), fun j x hj hx => ?_⟩
    · by_cases e : j = i
      · rw [e]; exact hC
      · exact (hC' j hj).cg (hI _ _ (Or.inr (hne j hj e))) (hI _ _ (Or.inr (hne j hj e))) (hI _ _ (Or.inr (hne j hj e))) (hI _ _ (Or.inr (hne j hj e))) (fun _ q _ _ => hI 703 q (Or.inl ⟨by omega, by omega⟩)) (fun k => hQ _ k) (fun d x h1 h2 => hAo j d x hj e (by omega))
    · by_cases e : j = i
      · rw [e]; exact hE x hx
      · exact (hE' j x hj hx).cg (hI _ _ (Or.inr (hne j hj e))) (fun k _ => hQ _ k) (fun d h1 h2 => hAo j d x hj e (by omega))
  obtain ⟨q1, q2⟩ := h.op0 hP hag hQ hHMS.1 hHMS.2.1 hHMS.2.2
  exact ⟨q1, q2, Sq.cg hQ (fun g a h1 h2 => hI g a (Or.inl ⟨by omega, by omega⟩)), fun i k _ => hQ _ k⟩
theorem x_addTunnel (h : Nw B 2 nm (s + 1) w w b1 A1 b2 A2) (hj : j < nm) {x : Nat} (hx : x < 256) :
    ∃ o v, f_X11_addTunnel n w B (Int32.ofNat j) (Int32.ofNat x) = some (o, v) ∧ Nw B 2 nm s v v b1 A1 b2 A2 ∧ (∀ a, Ot B a → ag w v a) ∧ Sq (B + 1) w v ∧ (∀ i k, i < 8 → wd_Q v (mA (B + 1) i + 1) k = wd_Q w (mA (B + 1) i + 1) k) ∧ (o = none ∨ ∃ k, k < 2 ∧ o = some (Int32.ofNat k) ∧ 0 < wd_I v 309 (mA (B + 1) j)) ∧ ∀ i, i < 8 → wd_I v 301 (mA (B + 1) i) = wd_I w 301 (mA (B + 1) i) := by
  have h8 := h.mm.2
  have j8 : j < 8 := by omega
  obtain ⟨⟨a1, a2, a3⟩, -, hC, hD, hE⟩ := id h.1
  obtain ⟨c1, ⟨k, k1, k2, k3⟩, hp, r, r1, r2, r3⟩ := id (hC j j8)
  rw [f_X11_addTunnel, x_hostOf h hj, wd_b2_s, Option.bind_some, wd_let, x_addr x hx, Option.bind_some, h.h2 j8, Option.bind_some, f_X3_putTunnel, k2]
  by_cases e : k < 2
  · have e9 : wd_I (wd_sI (wd_sA w (mA (B + 1) j + 5) k (Int32.ofNat x)) 309 (mA (B + 1) j) (Int32.ofNat (k + 1))) 309 (mA (B + 1) j) = Int32.ofNat (k + 1) := by rw [i_sI, if_pos ⟨rfl, rfl⟩]
    have hI : ∀ g a, g ≠ 309 ∨ a ≠ mA (B + 1) j → wd_I (wd_sI (wd_sA w (mA (B + 1) j + 5) k (Int32.ofNat x)) 309 (mA (B + 1) j) (Int32.ofNat (k + 1))) g a = wd_I w g a := fun g a hg => by rw [i_sI, if_neg (by omega), i_sA]
    have hA5 : ∀ a y, (a ≠ mA (B + 1) j + 5 ∨ y ≠ k) → wd_A (wd_sI (wd_sA w (mA (B + 1) j + 5) k (Int32.ofNat x)) 309 (mA (B + 1) j) (Int32.ofNat (k + 1))) a y = wd_A w a y := fun a y ha => by rw [a_sI, a_sA, if_neg (by omega)]
    have hA5k : wd_A (wd_sI (wd_sA w (mA (B + 1) j + 5) k (Int32.ofNat x)) 309 (mA (B + 1) j) (Int32.ofNat (k + 1))) (mA (B + 1) j + 5) k = Int32.ofNat x := by rw [a_sI, a_sA, if_pos ⟨rfl, rfl⟩]
    have hlt : ∀ t : Nat, t < 2 → Int32.ofNat t < Int32.ofNat k → Int32.ofNat t < Int32.ofNat (k + 1) := fun t ht q => by
      rw [j_lx (by omega) (by omega)] at q ⊢
      omega
    have hRQN : (∀ g a, wd_R (wd_sI (wd_sA w (mA (B + 1) j + 5) k (Int32.ofNat x)) 309 (mA (B + 1) j) (Int32.ofNat (k + 1))) g a = wd_R w g a) ∧ (∀ a k', wd_Q (wd_sI (wd_sA w (mA (B + 1) j + 5) k (Int32.ofNat x)) 309 (mA (B + 1) j) (Int32.ofNat (k + 1))) a k' = wd_Q w a k') ∧ (∀ a, wd_N (wd_sI (wd_sA w (mA (B + 1) j + 5) k (Int32.ofNat x)) 309 (mA (B + 1) j) (Int32.ofNat (k + 1))) a = wd_N w a) := ⟨fun _ _ => rfl, fun _ _ => rfl, fun _ => rfl⟩
    have hHMS : wd_H (wd_sI (wd_sA w (mA (B + 1) j + 5) k (Int32.ofNat x)) 309 (mA (B + 1) j) (Int32.ofNat (k + 1))) = wd_H w ∧ wd_M (wd_sI (wd_sA w (mA (B + 1) j + 5) k (Int32.ofNat x)) 309 (mA (B + 1) j) (Int32.ofNat (k + 1))) = wd_M w ∧ wd_S (wd_sI (wd_sA w (mA (B + 1) j + 5) k (Int32.ofNat x)) 309 (mA (B + 1) j) (Int32.ofNat (k + 1))) = wd_S w := ⟨rfl, rfl, rfl⟩
    have run : (wd_b2 (if Int32.ofNat k < (2 : Int32) then Option.bind (wd_R w 308 (mA (B + 1) j)) fun a2 => wd_gd (Int32.ofNat k < 0 ∨ wd_N w a2 ≤ (Int32.ofNat k).toNatClampNeg) (wd_let (wd_sA w a2 (Int32.ofNat k).toNatClampNeg (Int32.ofNat x)) fun w4 => wd_let (wd_sI w4 309 (mA (B + 1) j) (wd_I w4 309 (mA (B + 1) j) + 1)) fun w6 => some (wd_I w6 309 (mA (B + 1) j) - 1, w6)) else some (-1, w)) fun r12 w10 => if 0 ≤ r12 then some (some r12, w10) else wd_gd (wd_M w10 = 0 ∨ wd_S w10 < 6) (some ((none : Option Int32), wd_nw w10 30 0 6))) = some (some (Int32.ofNat k), wd_sI (wd_sA w (mA (B + 1) j + 5) k (Int32.ofNat x)) 309 (mA (B + 1) j) (Int32.ofNat (k + 1))) := by
      rw [if_pos (by rw [show (2 : Int32) = Int32.ofNat 2 from rfl, j_lx (by omega) (by omega)]; exact e), (a2 j j8).2.2.2.2.2.1, Option.bind_some, j_gd (by rw [(a3 j j8).2.2.2.2.1]; exact j_in e (by omega)), wd_let, j_nn (by omega), show wd_I (wd_sA w (mA (B + 1) j + 5) k (Int32.ofNat x)) 309 (mA (B + 1) j) = Int32.ofNat k from k2, j_a1, wd_let, e9, j_s1 (by omega), Nat.add_sub_cancel, wd_b2_s, if_pos (by rw [show (0 : Int32) = Int32.ofNat 0 from rfl, j_ll (by omega) (by omega)]; omega)]
    generalize wd_sI (wd_sA w (mA (B + 1) j + 5) k (Int32.ofNat x)) 309 (mA (B + 1) j) (Int32.ofNat (k + 1)) = v at *
    obtain ⟨hR, hQ, hN⟩ := hRQN
    have hCv : PC (B + 1) v j := by
      refine ⟨by rw [hI _ _ (Or.inl (by omega))]; exact c1, ⟨k + 1, by omega, e9, fun t ht => ?_⟩, ?_, r, r1, by rw [hI _ _ (Or.inl (by omega))]; exact r2, fun t ht => ?_⟩
      · by_cases d : t = k
        · rw [d]; exact ⟨x, hx, hA5k⟩
        · rw [hA5 _ _ (Or.inr d)]; exact k3 t (by omega)
      · obtain ⟨p, p1, p2, p3, p4⟩ := hp
        exact ⟨p, p1, by rw [hI _ _ (Or.inl (by omega))]; exact p2, fun t ht => by rw [hQ]; obtain ⟨q, l, q1, q2, q3⟩ := p3 t ht; exact ⟨q, l, q1, q2, by rw [hI _ _ (Or.inl (by omega))]; exact q3⟩, fun t h1 h2 => by rw [hQ]; exact p4 t h1 h2⟩
      · rw [hA5 _ _ (Or.inl (by omega)), hA5 _ _ (Or.inl (by omega)), e9]
        obtain ⟨g1, g2⟩ := r3 t ht
        refine ⟨g1, ?_⟩
        rcases g2 with g2 | ⟨g2, t', t1, t2, t3⟩
        · exact Or.inl g2
        · exact Or.inr ⟨g2, t', t1, t2, hlt t' t1 (by rw [k2] at t3; exact t3)⟩
    have hEv : ∀ y, y < 256 → PE (B + 1) v j y := fun y hy => by
      unfold PE
      rw [hA5 _ _ (Or.inl (by omega)), hA5 _ _ (Or.inl (by omega)), hA5 _ _ (Or.inl (by omega)), e9]
      rcases hE j y j8 hy with g | ⟨g1, ⟨g2, t, t1, t2, t3⟩ | ⟨a, q, y', g2, g3, g4, g5⟩⟩
      · exact Or.inl g
      · exact Or.inr ⟨g1, Or.inl ⟨g2, t, t1, t2, by rw [t1] at t3 ⊢; rw [k2] at t3; exact hlt t t2 t3⟩⟩
      · exact Or.inr ⟨g1, Or.inr ⟨a, q, y', g2, g3, by rw [hQ]; exact g4, g5⟩⟩
    obtain ⟨q1, q2, q3, q4⟩ := h.op1 j8 hR hQ hN hHMS (fun g a hg => hI g a (by omega)) (fun a y ha => hA5 a y (Or.inl (ha 5 (by omega) (by omega)))) hCv hEv
    exact ⟨_, v, run, q1, q2, q3, q4, Or.inr ⟨k, e, rfl, by rw [e9, show (0 : Int32) = Int32.ofNat 0 from rfl, j_lx (by omega) (by omega)]; omega⟩, fun i _ => hI 301 _ (Or.inl (by omega))⟩
  · rw [if_neg (by rw [show (2 : Int32) = Int32.ofNat 2 from rfl, j_lx (by omega) (by omega)]; exact e), wd_b2_s, if_neg (by decide)]
    obtain ⟨q0, q1, q2, q3, q4, q5⟩ := x_thrown h
    exact ⟨none, _, by rw [j_gd q0], q1, q2, q3, q4, Or.inl rfl, q5⟩
theorem x_addRoute (h : Nw B 2 nm (s + 1) w w b1 A1 b2 A2) (hj : j < nm) {x l : Nat} {via : Int32} (hx : x < 256) (hl : l ≤ 8) (hv : (∃ y, y < 256 ∧ via = Int32.ofNat y) ∨ (via = -1 ∧ 0 < wd_I w 309 (mA (B + 1) j))) (hn : 300 ≤ n) :
    ∃ o v, f_X11_addRoute n w B (Int32.ofNat j) (Int32.ofNat x) (Int32.ofNat l) via = some (o, v) ∧ Nw B 2 nm s v v b1 A1 b2 A2 ∧ (∀ a, Ot B a → ag w v a) ∧ Sq (B + 1) w v ∧ (∀ i k, i < 8 → wd_Q v (mA (B + 1) i + 1) k = wd_Q w (mA (B + 1) i + 1) k) ∧ (o = none ∨ ∃ k, k < 6 ∧ o = some (Int32.ofNat k)) ∧ ∀ i, i < 8 → wd_I v 301 (mA (B + 1) i) = wd_I w 301 (mA (B + 1) i) := by
  have h8 := h.mm.2
  have j8 : j < 8 := by omega
  obtain ⟨hA, -, hC, hD, hE⟩ := id h.1
  obtain ⟨a1, a2, a3⟩ := id hA
  obtain ⟨c1, ⟨k, k1, k2, k3⟩, hp, r, r1, r2, r3⟩ := id (hC j j8)
  have hml : f_X3_mayLeadVia n w (mA (B + 1) j) via = some (1, w) := by
    unfold f_X3_mayLeadVia
    rcases hv with ⟨y, y1, y2⟩ | ⟨y1, y2⟩
    · rw [y2, if_neg (j_n0 (by omega)), if_neg (by rw [show (256 : Int32) = Int32.ofNat 256 from rfl, j_ll (by omega) (by omega)]; omega)]
    · rw [y1, if_pos (by decide), show ((-1 : Int32) - -1) = Int32.ofNat 0 by decide, k2]
      rw [k2, show (0 : Int32) = Int32.ofNat 0 from rfl, j_lx (by omega) (by omega)] at y2
      rw [if_neg (by rw [j_ll (by omega) (by omega)]; omega)]
  have hlen : f_X11_needLength n w (Int32.ofNat l) = some w := by
    rw [f_X11_needLength, if_neg (j_n0 (by omega)), if_pos (by rw [show (8 : Int32) = Int32.ofNat 8 from rfl, j_ll (by omega) (by omega)]; omega)]
  rw [f_X11_addRoute, x_hostOf h hj, wd_b2_s, Option.bind_some, wd_let, x_addr x hx, Option.bind_some, hlen, Option.bind_some, h.h2 j8, Option.bind_some, hml, wd_b2_s, if_neg (by decide), f_X3_putRoute, r2]
  by_cases e : r < 6
  · have eI : ∀ g a, wd_I (wd_sI (wd_sA (wd_sA (wd_sA w (mA (B + 1) j + 2) r (Int32.ofNat x)) (mA (B + 1) j + 3) r (Int32.ofNat l)) (mA (B + 1) j + 4) r via) 307 (mA (B + 1) j) (Int32.ofNat (r + 1))) g a = if g = 307 ∧ a = mA (B + 1) j then Int32.ofNat (r + 1) else wd_I w g a := fun g a => by rw [i_sI, i_sA, i_sA, i_sA]
    have eA : ∀ a y, wd_A (wd_sI (wd_sA (wd_sA (wd_sA w (mA (B + 1) j + 2) r (Int32.ofNat x)) (mA (B + 1) j + 3) r (Int32.ofNat l)) (mA (B + 1) j + 4) r via) 307 (mA (B + 1) j) (Int32.ofNat (r + 1))) a y = if a = mA (B + 1) j + 4 ∧ y = r then via else if a = mA (B + 1) j + 3 ∧ y = r then Int32.ofNat l else if a = mA (B + 1) j + 2 ∧ y = r then Int32.ofNat x else wd_A w a y := fun a y => by rw [a_sI, a_sA, a_sA, a_sA]
    have eO : (∀ g a, wd_R (wd_sI (wd_sA (wd_sA (wd_sA w (mA (B + 1) j + 2) r (Int32.ofNat x)) (mA (B + 1) j + 3) r (Int32.ofNat l)) (mA (B + 1) j + 4) r via) 307 (mA (B + 1) j) (Int32.ofNat (r + 1))) g a = wd_R w g a) ∧ (∀ a k', wd_Q (wd_sI (wd_sA (wd_sA (wd_sA w (mA (B + 1) j + 2) r (Int32.ofNat x)) (mA (B + 1) j + 3) r (Int32.ofNat l)) (mA (B + 1) j + 4) r via) 307 (mA (B + 1) j) (Int32.ofNat (r + 1))) a k' = wd_Q w a k') ∧ (∀ a, wd_N (wd_sI (wd_sA (wd_sA (wd_sA w (mA (B + 1) j + 2) r (Int32.ofNat x)) (mA (B + 1) j + 3) r (Int32.ofNat l)) (mA (B + 1) j + 4) r via) 307 (mA (B + 1) j) (Int32.ofNat (r + 1))) a = wd_N w a) ∧ (wd_H (wd_sI (wd_sA (wd_sA (wd_sA w (mA (B + 1) j + 2) r (Int32.ofNat x)) (mA (B + 1) j + 3) r (Int32.ofNat l)) (mA (B + 1) j + 4) r via) 307 (mA (B + 1) j) (Int32.ofNat (r + 1))) = wd_H w ∧ wd_M (wd_sI (wd_sA (wd_sA (wd_sA w (mA (B + 1) j + 2) r (Int32.ofNat x)) (mA (B + 1) j + 3) r (Int32.ofNat l)) (mA (B + 1) j + 4) r via) 307 (mA (B + 1) j) (Int32.ofNat (r + 1))) = wd_M w ∧ wd_S (wd_sI (wd_sA (wd_sA (wd_sA w (mA (B + 1) j + 2) r (Int32.ofNat x)) (mA (B + 1) j + 3) r (Int32.ofNat l)) (mA (B + 1) j + 4) r via) 307 (mA (B + 1) j) (Int32.ofNat (r + 1))) = wd_S w) := ⟨fun _ _ => rfl, fun _ _ => rfl, fun _ => rfl, rfl, rfl, rfl⟩
    rw [if_pos (by rw [show (6 : Int32) = Int32.ofNat 6 from rfl, j_lx (by omega) (by omega)]; exact e), (a2 j j8).2.2.1, Option.bind_some, j_gd (by rw [(a3 j j8).2.1]; exact j_in e (by omega)), wd_let, j_nn (by omega), show wd_R (wd_sA w (mA (B + 1) j + 2) r (Int32.ofNat x)) 305 (mA (B + 1) j) = some (mA (B + 1) j + 3) from (a2 j j8).2.2.2.1, Option.bind_some, show wd_I (wd_sA w (mA (B + 1) j + 2) r (Int32.ofNat x)) 307 (mA (B + 1) j) = Int32.ofNat r from r2, show wd_N (wd_sA w (mA (B + 1) j + 2) r (Int32.ofNat x)) (mA (B + 1) j + 3) = 6 from (a3 j j8).2.2.1, j_gd (j_in e (by omega)), wd_let, j_nn (by omega), show wd_R (wd_sA (wd_sA w (mA (B + 1) j + 2) r (Int32.ofNat x)) (mA (B + 1) j + 3) r (Int32.ofNat l)) 306 (mA (B + 1) j) = some (mA (B + 1) j + 4) from (a2 j j8).2.2.2.2.1, Option.bind_some, show wd_I (wd_sA (wd_sA w (mA (B + 1) j + 2) r (Int32.ofNat x)) (mA (B + 1) j + 3) r (Int32.ofNat l)) 307 (mA (B + 1) j) = Int32.ofNat r from r2, show wd_N (wd_sA (wd_sA w (mA (B + 1) j + 2) r (Int32.ofNat x)) (mA (B + 1) j + 3) r (Int32.ofNat l)) (mA (B + 1) j + 4) = 6 from (a3 j j8).2.2.2.1, j_gd (j_in e (by omega)), wd_let, j_nn (by omega), show wd_I (wd_sA (wd_sA (wd_sA w (mA (B + 1) j + 2) r (Int32.ofNat x)) (mA (B + 1) j + 3) r (Int32.ofNat l)) (mA (B + 1) j + 4) r via) 307 (mA (B + 1) j) = Int32.ofNat r from r2, j_a1, wd_let]
    generalize wd_sI (wd_sA (wd_sA (wd_sA w (mA (B + 1) j + 2) r (Int32.ofNat x)) (mA (B + 1) j + 3) r (Int32.ofNat l)) (mA (B + 1) j + 4) r via) 307 (mA (B + 1) j) (Int32.ofNat (r + 1)) = u at *
    obtain ⟨uR, uQ, uN, uH, uM, uS⟩ := eO
    have hAu : PA (B + 1) u := ⟨by rw [uR, uR, uR, uN, uN, uN]; exact a1, fun k hk => by rw [uQ, uR, uR, uR, uR, uR, uR, uR, uR]; exact a2 k hk, fun k hk => by rw [uN, uN, uN, uN, uN, uN, uN, uN]; exact a3 k hk⟩
    have uI : ∀ g a, g ≠ 307 → wd_I u g a = wd_I w g a := fun g a hg => by rw [eI, if_neg (fun q => hg q.1)]
    have hCu : PC (B + 1) u j := by
      refine ⟨by rw [uI _ _ (by omega)]; exact c1, ⟨k, k1, by rw [uI _ _ (by omega)]; exact k2, fun t ht => by rw [eA, if_neg (by omega), if_neg (by omega), if_neg (by omega)]; exact k3 t ht⟩, ?_, r + 1, by omega, by rw [eI, if_pos ⟨rfl, rfl⟩], fun t ht => ?_⟩
      · obtain ⟨p, p1, p2, p3, p4⟩ := hp
        exact ⟨p, p1, by rw [uI _ _ (by omega)]; exact p2, fun t ht => by rw [uQ]; obtain ⟨q, l, q1, q2, q3⟩ := p3 t ht; exact ⟨q, l, q1, q2, by rw [uI _ _ (by omega)]; exact q3⟩, fun t h1 h2 => by rw [uQ]; exact p4 t h1 h2⟩
      · rw [uI 309 _ (by omega)]
        by_cases d : t = r
        · rw [eA, if_neg (by omega), if_pos ⟨rfl, d⟩, eA, if_pos ⟨rfl, d⟩]
          refine ⟨⟨l, hl, rfl⟩, ?_⟩
          rcases hv with g | ⟨g1, g2⟩
          · exact Or.inl g
          · exact Or.inr ⟨by rw [g1]; decide, 0, by omega, by rw [g1]; decide, g2⟩
        · rw [eA, if_neg (by omega), if_neg (fun q => d q.2), if_neg (by omega), eA, if_neg (fun q => d q.2), if_neg (by omega), if_neg (by omega)]
          exact r3 t (by omega)
    obtain ⟨v, v1, v2, v3⟩ := x_layWays (n := n) hAu hCu j8 hn
    obtain ⟨w1, w2, w3, w4, ⟨w5, w6, w7⟩, w8⟩ := id v2
    obtain ⟨q1, q2, q3, q4⟩ := h.op1 (v := v) j8 (fun g a => (w2 g a).trans (uR g a)) (fun a k => (w3 a k).trans (uQ a k)) (fun a => (w4 a).trans (uN a)) ⟨w5.trans uH, w6.trans uM, w7.trans uS⟩ (fun g a hg => by rw [w1, eI, if_neg (by omega)]) (fun a y ha => by rw [w8 a y (ha 6 (by omega) (by omega)) (ha 7 (by omega) (by omega)) (ha 8 (by omega) (by omega)), eA, if_neg (fun q => ha 4 (by omega) (by omega) q.1), if_neg (fun q => ha 3 (by omega) (by omega) q.1), if_neg (fun q => ha 2 (by omega) (by omega) q.1)]) (v2.pc hCu) v3
    refine ⟨some (Int32.ofNat r), v, ?_, q1, q2, q3, q4, Or.inr ⟨r, e, rfl⟩, fun i _ => by rw [w1, uI _ _ (by omega)]⟩
    rw [v1, Option.bind_some, w1, eI, if_pos ⟨rfl, rfl⟩, j_s1 (by omega), Nat.add_sub_cancel, wd_b2_s, if_pos (by rw [show (0 : Int32) = Int32.ofNat 0 from rfl, j_ll (by omega) (by omega)]; omega)]
  · rw [if_neg (by rw [show (6 : Int32) = Int32.ofNat 6 from rfl, j_lx (by omega) (by omega)]; exact e), wd_b2_s, if_neg (by decide)]
    obtain ⟨q0, q1, q2, q3, q4, q5⟩ := x_thrown h
    exact ⟨none, _, by rw [j_gd q0], q1, q2, q3, q4, Or.inl rfl, q5⟩
end PO1
