/-! ===== PURE: a port added ===== -/
section AP
variable {i j n c B nc nm s : Nat} {z w u v : Wd} {b1 b2 : Be} {A1 A2 : Ta}
/-- the world with the new port at its place p of machine j, before the ways are laid -/
def npW (B j p cb x : Nat) (w : Wd) : Wd := wd_sI (wd_sQ (wd_sI (wd_sI (wd_sI (wd_sI (wd_nw w 8 0 4) 700 (wd_H w) (Int32.ofNat (4 * j + p))) 701 (wd_H w) (Int32.ofNat cb)) 702 (wd_H w) (Int32.ofNat x)) 703 (wd_H w) 4) (mA (B + 1) j + 1) p (some (wd_H w))) 303 (mA (B + 1) j) (Int32.ofNat (p + 1))
theorem np_I {p cb x g a : Nat} : wd_I (npW B j p cb x w) g a = if g = 303 ∧ a = mA (B + 1) j then Int32.ofNat (p + 1) else if g = 703 ∧ a = wd_H w then 4 else if g = 702 ∧ a = wd_H w then Int32.ofNat x else if g = 701 ∧ a = wd_H w then Int32.ofNat cb else if g = 700 ∧ a = wd_H w then Int32.ofNat (4 * j + p) else if a = wd_H w then 0 else wd_I w g a := by
  unfold npW
  rw [i_sI, i_sQ, i_sI, i_sI, i_sI, i_sI, i_nw]
theorem np_o {p cb x : Nat} : (∀ g a, wd_R (npW B j p cb x w) g a = if a = wd_H w then none else wd_R w g a) ∧ (∀ a k, wd_Q (npW B j p cb x w) a k = if a = mA (B + 1) j + 1 ∧ k = p then some (wd_H w) else if a = wd_H w then none else wd_Q w a k) ∧ (∀ a, wd_N (npW B j p cb x w) a = if a = wd_H w then 0 else wd_N w a) ∧ (∀ a y, wd_A (npW B j p cb x w) a y = if a = wd_H w then 0 else wd_A w a y) ∧ wd_H (npW B j p cb x w) = wd_H w + 1 ∧ wd_M (npW B j p cb x w) = wd_M w - 1 ∧ wd_S (npW B j p cb x w) = wd_S w - 4 := by
  unfold npW
  exact ⟨fun _ _ => rfl, fun a k => by rw [q_sI, q_sQ]; rfl, fun _ => rfl, fun _ _ => rfl, rfl, rfl, rfl⟩
theorem x_addPort (h : Nw B 2 nm (s + 1) w w b1 A1 b2 A2) (hj : j < nm) {cb x : Nat} (hc : cb < 2) (hx : x < 256) (hn : 300 ≤ n) :
    ∃ o v, f_X11_addPort n w B (Int32.ofNat j) (Int32.ofNat cb) (Int32.ofNat x) 4 = some (o, v) ∧ Nw B 2 nm s v v b1 A1 b2 A2 ∧ (∀ a, Ot B a → ag w v a) ∧ Sq (B + 1) w v ∧ (∀ i, i < 8 → wd_I v 301 (mA (B + 1) i) = wd_I w 301 (mA (B + 1) i)) ∧
      ((o = none ∧ ∀ i k, i < 8 → wd_Q v (mA (B + 1) i + 1) k = wd_Q w (mA (B + 1) i + 1) k) ∨ ∃ k q, k < 4 ∧ o = some (Int32.ofNat (4 * j + k)) ∧ wd_Q w (mA (B + 1) j + 1) k = none ∧ wd_Q v (mA (B + 1) j + 1) k = some q ∧ wd_I v 701 q = Int32.ofNat cb ∧ wd_I v 702 q = Int32.ofNat x ∧ ∀ i k', i < 8 → (i ≠ j ∨ k' ≠ k) → wd_Q v (mA (B + 1) i + 1) k' = wd_Q w (mA (B + 1) i + 1) k') := by
  have h8 := h.mm.2
  have j8 : j < 8 := by omega
  obtain ⟨hA, ⟨b1', b2', b3', b4', b5'⟩, hC, hD, hE⟩ := id h.1
  obtain ⟨a1, a2, a3⟩ := id hA
  obtain ⟨c1, ⟨tk, tk1, tk2, tk3⟩, ⟨p, p1, p2, p3, p4⟩, rc, rc1, rc2, rc3⟩ := id (hC j j8)
  have h11 := h.2.2.2.2.2.2.2.2.2.2.1
  have hlt : ∀ a, pl (B + 1) w a → a < wd_H w := h.2.1.2.1.2.2.2.2.2.2.1
  have hlen : f_X11_needLength n w 4 = some w := by
    rw [f_X11_needLength, if_neg (by decide), if_pos (by decide)]
  have hrd : ∀ o, wd_Q w (B + 1 + 3) x = o → f_X5_portWithAddress n w (B + 1) (Int32.ofNat x) = some (o, w) := fun o ho => by
    unfold f_X5_portWithAddress
    rw [if_neg (j_n0 (by omega)), if_neg (by rw [show (256 : Int32) = Int32.ofNat 256 from rfl, j_ll (by omega) (by omega)]; omega), a1.2.2.1, Option.bind_some, j_gd (by rw [a1.2.2.2.2.2]; exact j_in hx (by omega)), j_nn (by omega), ho]
  rw [f_X11_addPort, x_hostOf h hj, wd_b2_s, Option.bind_some, wd_let, x_cable h hc, Option.bind_some, x_addr x hx, Option.bind_some, hlen, Option.bind_some, h.2.2.2.2.1.1, Option.bind_some, h.h2 j8, f_X5_putPort]
  have thr : ∀ w', w' = w → ∃ o v, (wd_gd (wd_M w' = 0 ∨ wd_S w' < 6) (some ((none : Option Int32), wd_nw w' 30 0 6))) = some (o, v) ∧ Nw B 2 nm s v v b1 A1 b2 A2 ∧ (∀ a, Ot B a → ag w v a) ∧ Sq (B + 1) w v ∧ (∀ i, i < 8 → wd_I v 301 (mA (B + 1) i) = wd_I w 301 (mA (B + 1) i)) ∧
      ((o = none ∧ ∀ i k, i < 8 → wd_Q v (mA (B + 1) i + 1) k = wd_Q w (mA (B + 1) i + 1) k) ∨ ∃ k q, k < 4 ∧ o = some (Int32.ofNat (4 * j + k)) ∧ wd_Q w (mA (B + 1) j + 1) k = none ∧ wd_Q v (mA (B + 1) j + 1) k = some q ∧ wd_I v 701 q = Int32.ofNat cb ∧ wd_I v 702 q = Int32.ofNat x ∧ ∀ i k', i < 8 → (i ≠ j ∨ k' ≠ k) → wd_Q v (mA (B + 1) i + 1) k' = wd_Q w (mA (B + 1) i + 1) k') := by
    intro w' e
    subst e
    obtain ⟨q0, q1, q2, q3, q4, q5⟩ := x_thrown h
    exact ⟨none, _, by rw [j_gd q0], q1, q2, q3, q5, Or.inl ⟨rfl, q4⟩⟩
  cases ho : wd_Q w (B + 1 + 3) x with
  | some q =>
    rw [hrd _ ho, wd_b2_s, wd_on_S, wd_b2_s, wd_on_N]
    exact thr w rfl
  | none =>
    rw [hrd _ ho, wd_b2_s, wd_on_N, Option.bind_some, f_X3_addNextPort, p2]
    by_cases e : p < 4
    · rw [if_pos (by rw [show (4 : Int32) = Int32.ofNat 4 from rfl, j_lx (by omega) (by omega)]; exact e)]
      have hroom : ¬ (wd_M w = 0 ∨ wd_S w < 4) := by
        have g1 := h.2.2.2.2.2.2.2.2.2.2.2.1
        have g2 := h.2.2.2.2.2.2.2.2.2.2.2.2
        have g3 := h.2.1.2.1.2.2.2.2.2.2.2.1
        have g4 := h.2.2.1.2.1.2.2.2.2.2.2.2.1
        have k1 : cn b1 ≤ 300000 := by unfold cn; omega
        have k2 : cn b2 ≤ 60000 := by unfold cn; omega
        omega
      have hmH : ∀ d, d < 9 → mA (B + 1) j + d ≠ wd_H w := fun d hd => by unfold mA; omega
      have hmH0 : mA (B + 1) j ≠ wd_H w := by unfold mA; omega
      have n302 : wd_R w 302 (mA (B + 1) j) = some (mA (B + 1) j + 1) := (a2 j j8).2.1
      -- down to the laying
      have run : ∀ (F : Option Nat → Wd → Option (Option (Option Int32) × Wd)), True := fun _ => trivial
      have e300 : wd_I (wd_nw w 8 0 4) 300 (mA (B + 1) j) = Int32.ofNat j := by rw [i_nw, if_neg hmH0]; exact c1
      have e303 : wd_I (wd_nw w 8 0 4) 303 (mA (B + 1) j) = Int32.ofNat p := by rw [i_nw, if_neg hmH0]; exact p2
      have emk : (4 : Int32) * Int32.ofNat j + Int32.ofNat p = Int32.ofNat (4 * j + p) := by rw [show (4 : Int32) = Int32.ofNat 4 from rfl, j_ml, j_ad]
      rw [j_gd hroom, wd_let, wd_let, e300, e303, emk, f_X7_init, wd_let, wd_let, wd_let, wd_let, Option.bind_some]
      have e302' : wd_R (wd_sI (wd_sI (wd_sI (wd_sI (wd_nw w 8 0 4) 700 (wd_H w) (Int32.ofNat (4 * j + p))) 701 (wd_H w) (Int32.ofNat cb)) 702 (wd_H w) (Int32.ofNat x)) 703 (wd_H w) 4) 302 (mA (B + 1) j) = some (mA (B + 1) j + 1) := by
        rw [r_sI, r_sI, r_sI, r_sI, r_nw, if_neg hmH0]; exact n302
      have e303' : wd_I (wd_sI (wd_sI (wd_sI (wd_sI (wd_nw w 8 0 4) 700 (wd_H w) (Int32.ofNat (4 * j + p))) 701 (wd_H w) (Int32.ofNat cb)) 702 (wd_H w) (Int32.ofNat x)) 703 (wd_H w) 4) 303 (mA (B + 1) j) = Int32.ofNat p := by
        rw [i_sI, if_neg (by omega), i_sI, if_neg (by omega), i_sI, if_neg (by omega), i_sI, if_neg (by omega)]; exact e303
      have eN' : wd_N (wd_sI (wd_sI (wd_sI (wd_sI (wd_nw w 8 0 4) 700 (wd_H w) (Int32.ofNat (4 * j + p))) 701 (wd_H w) (Int32.ofNat cb)) 702 (wd_H w) (Int32.ofNat x)) 703 (wd_H w) 4) (mA (B + 1) j + 1) = 4 := by
        rw [n_sI, n_sI, n_sI, n_sI, n_nw, if_neg (hmH 1 (by omega))]; exact (a3 j j8).1
      have eu : wd_sI (wd_sQ (wd_sI (wd_sI (wd_sI (wd_sI (wd_nw w 8 0 4) 700 (wd_H w) (Int32.ofNat (4 * j + p))) 701 (wd_H w) (Int32.ofNat cb)) 702 (wd_H w) (Int32.ofNat x)) 703 (wd_H w) 4) (mA (B + 1) j + 1) p (some (wd_H w))) 303 (mA (B + 1) j) (Int32.ofNat (p + 1)) = npW B j p cb x w := rfl
      rw [e302', Option.bind_some, e303', eN', j_gd (j_in e (by omega)), wd_let, j_nn (by omega)]
      have e303q : wd_I (wd_sQ (wd_sI (wd_sI (wd_sI (wd_sI (wd_nw w 8 0 4) 700 (wd_H w) (Int32.ofNat (4 * j + p))) 701 (wd_H w) (Int32.ofNat cb)) 702 (wd_H w) (Int32.ofNat x)) 703 (wd_H w) 4) (mA (B + 1) j + 1) p (some (wd_H w))) 303 (mA (B + 1) j) = Int32.ofNat p := e303'
      rw [e303q, j_a1, wd_let, eu]
      have uI : ∀ g a, wd_I (npW B j p cb x w) g a = _ := fun g a => np_I
      obtain ⟨uR, uQ, uN, uA, uH, uM, uS⟩ := np_o (B := B) (j := j) (p := p) (cb := cb) (x := x) (w := w)
      clear eu e303q eN' e303' e302' e300 e303 run
      generalize npW B j p cb x w = U at *
      -- the old stays
      have sR : ∀ g a, a ≠ wd_H w → wd_R U g a = wd_R w g a := fun g a ha => by rw [uR, if_neg ha]
      have sN : ∀ a, a ≠ wd_H w → wd_N U a = wd_N w a := fun a ha => by rw [uN, if_neg ha]
      have sA : ∀ a y, a ≠ wd_H w → wd_A U a y = wd_A w a y := fun a y ha => by rw [uA, if_neg ha]
      have sI : ∀ g a, a ≠ wd_H w → g ≠ 303 ∨ a ≠ mA (B + 1) j → wd_I U g a = wd_I w g a := fun g a ha hg => by rw [uI, if_neg (by omega), if_neg (by omega), if_neg (by omega), if_neg (by omega), if_neg (by omega), if_neg ha]
      have sQ : ∀ a k, a ≠ wd_H w → a ≠ mA (B + 1) j + 1 ∨ k ≠ p → wd_Q U a k = wd_Q w a k := fun a k ha hk => by rw [uQ, if_neg (by omega), if_neg ha]
      have st : ∀ a, a < B + 233 → a ≠ wd_H w := fun a ha => by omega
      have sm : ∀ i d, i < 8 → d < 9 → mA (B + 1) i + d ≠ wd_H w := fun i d hi hd => st _ (by unfold mA; omega)
      have sm0 : ∀ i, i < 8 → mA (B + 1) i ≠ wd_H w := fun i hi => st _ (by unfold mA; omega)
      have hAU : PA (B + 1) U := by
        refine ⟨by rw [sR _ _ (st _ (by omega)), sR _ _ (st _ (by omega)), sR _ _ (st _ (by omega)), sN _ (st _ (by omega)), sN _ (st _ (by omega)), sN _ (st _ (by omega))]; exact a1, fun k hk => ?_, fun k hk => ?_⟩
        · rw [sQ _ _ (st _ (by omega)) (Or.inl (by unfold mA; omega)), sR _ _ (sm0 k hk), sR _ _ (sm0 k hk), sR _ _ (sm0 k hk), sR _ _ (sm0 k hk), sR _ _ (sm0 k hk), sR _ _ (sm0 k hk), sR _ _ (sm0 k hk), sR _ _ (sm0 k hk)]; exact a2 k hk
        · rw [sN _ (sm k 1 hk (by omega)), sN _ (sm k 2 hk (by omega)), sN _ (sm k 3 hk (by omega)), sN _ (sm k 4 hk (by omega)), sN _ (sm k 5 hk (by omega)), sN _ (sm k 6 hk (by omega)), sN _ (sm k 7 hk (by omega)), sN _ (sm k 8 hk (by omega))]; exact a3 k hk
      have qlt : ∀ i k q, i < 8 → k < 4 → wd_Q w (mA (B + 1) i + 1) k = some q → q ≠ wd_H w := fun i k q hi hk hq e => by
        have := hlt q (pl_q hi hk hq)
        omega
      have hCj : PC (B + 1) U j := by
        refine ⟨by rw [sI _ _ hmH0 (Or.inl (by omega))]; exact c1, ⟨tk, tk1, by rw [sI _ _ hmH0 (Or.inl (by omega))]; exact tk2, fun t ht => by rw [sA _ _ (hmH 5 (by omega))]; exact tk3 t ht⟩, ⟨p + 1, by omega, by rw [uI, if_pos ⟨rfl, rfl⟩], fun k hk => ?_, fun k hk1 hk2 => ?_⟩, rc, rc1, by rw [sI _ _ hmH0 (Or.inl (by omega))]; exact rc2, fun t ht => by rw [sA _ _ (hmH 3 (by omega)), sA _ _ (hmH 4 (by omega)), sI _ _ hmH0 (Or.inl (by omega))]; exact rc3 t ht⟩
        · by_cases d : k = p
          · exact ⟨wd_H w, 4, by rw [uQ, if_pos ⟨rfl, d⟩], by omega, by rw [uI, if_neg (by omega), if_pos ⟨rfl, rfl⟩]; rfl⟩
          · obtain ⟨q, l, q1, q2, q3⟩ := p3 k (by omega)
            exact ⟨q, l, by rw [sQ _ _ (hmH 1 (by omega)) (Or.inr d)]; exact q1, q2, by rw [sI _ _ (qlt j k q j8 (by omega) q1) (Or.inl (by omega))]; exact q3⟩
        · rw [sQ _ _ (hmH 1 (by omega)) (Or.inr (by omega))]; exact p4 k (by omega) hk2
      obtain ⟨V, V1, V2, V3⟩ := x_layWays (n := n) hAU hCj j8 hn
      rw [V1, Option.bind_some, wd_b2_s, wd_on_S, if_neg (j_n0 (by omega)), if_neg (by rw [show (256 : Int32) = Int32.ofNat 256 from rfl, j_ll (by omega) (by omega)]; omega)]
      have hAV := V2.pa hAU
      obtain ⟨l1, l2, l3, l4, ⟨l5, l6, l7⟩, l8⟩ := id V2
      rw [hAV.1.2.2.1, Option.bind_some, j_gd (by rw [hAV.1.2.2.2.2.2]; exact j_in hx (by omega)), wd_let, j_nn (by omega), f_X5_putPort_j44, wd_b2_s, wd_on_S]
      -- the end
      have yQ : ∀ a k, wd_Q (wd_sQ V (B + 1 + 3) x (some (wd_H w))) a k = if a = B + 1 + 3 ∧ k = x then some (wd_H w) else wd_Q U a k := fun a k => by rw [q_sQ, l3]
      have yR : ∀ g a, wd_R (wd_sQ V (B + 1 + 3) x (some (wd_H w))) g a = wd_R U g a := fun g a => by rw [r_sQ, l2]
      have yI : ∀ g a, wd_I (wd_sQ V (B + 1 + 3) x (some (wd_H w))) g a = wd_I U g a := fun g a => by rw [i_sQ, l1]
      have yN : ∀ a, wd_N (wd_sQ V (B + 1 + 3) x (some (wd_H w))) a = wd_N U a := fun a => by rw [n_sQ, l4]
      have yA : ∀ a y, wd_A (wd_sQ V (B + 1 + 3) x (some (wd_H w))) a y = wd_A V a y := fun a y => by rw [a_sQ]
      have yH : wd_H (wd_sQ V (B + 1 + 3) x (some (wd_H w))) = wd_H w + 1 := by rw [h_sQ, l5, uH]
      have yM : wd_M (wd_sQ V (B + 1 + 3) x (some (wd_H w))) = wd_M w - 1 := by rw [m_sQ, l6, uM]
      have yS : wd_S (wd_sQ V (B + 1 + 3) x (some (wd_H w))) = wd_S w - 4 := by rw [s_sQ, l7, uS]
      rw [show wd_I (wd_sQ V (B + 1 + 3) x (some (wd_H w))) 700 (wd_H w) = Int32.ofNat (4 * j + p) by rw [yI, uI, if_neg (by omega), if_neg (by omega), if_neg (by omega), if_neg (by omega), if_pos ⟨rfl, rfl⟩]]
      generalize wd_sQ V (B + 1 + 3) x (some (wd_H w)) = Y at *
      have mQ : ∀ i k, i < 8 → (i ≠ j ∨ k ≠ p) → wd_Q Y (mA (B + 1) i + 1) k = wd_Q w (mA (B + 1) i + 1) k := fun i k hi hk => by
        rw [yQ, if_neg (by unfold mA; omega), sQ _ _ (sm i 1 hi (by omega)) ?_]
        rcases hk with hk | hk
        · exact Or.inl (m_ne hi j8 hk (by omega) (by omega))
        · exact Or.inr hk
      have mQp : wd_Q Y (mA (B + 1) j + 1) p = some (wd_H w) := by rw [yQ, if_neg (by unfold mA; omega), uQ, if_pos ⟨rfl, rfl⟩]
      have oQ : ∀ y, y ≠ x → wd_Q Y (B + 1 + 3) y = wd_Q w (B + 1 + 3) y := fun y hy => by rw [yQ, if_neg (fun q => hy q.2), sQ _ _ (st _ (by omega)) (Or.inl (by unfold mA; omega))]
      have oQx : wd_Q Y (B + 1 + 3) x = some (wd_H w) := by rw [yQ, if_pos ⟨rfl, rfl⟩]
      have sIo : ∀ g a, a ≠ wd_H w → g ≠ 303 → wd_I Y g a = wd_I w g a := fun g a ha hg => by rw [yI]; exact sI g a ha (Or.inl hg)
      have i700 : wd_I Y 700 (wd_H w) = Int32.ofNat (4 * j + p) := by rw [yI, uI, if_neg (by omega), if_neg (by omega), if_neg (by omega), if_neg (by omega), if_pos ⟨rfl, rfl⟩]
      have i701 : wd_I Y 701 (wd_H w) = Int32.ofNat cb := by rw [yI, uI, if_neg (by omega), if_neg (by omega), if_neg (by omega), if_pos ⟨rfl, rfl⟩]
      have i702 : wd_I Y 702 (wd_H w) = Int32.ofNat x := by rw [yI, uI, if_neg (by omega), if_neg (by omega), if_pos ⟨rfl, rfl⟩]
      have hpn : wd_Q w (mA (B + 1) j + 1) p = none := p4 p (Nat.le_refl _) e
      have hport : ∀ i k q, i < 8 → k < 4 → wd_Q Y (mA (B + 1) i + 1) k = some q → (i = j ∧ k = p ∧ q = wd_H w) ∨ (wd_Q w (mA (B + 1) i + 1) k = some q ∧ (i ≠ j ∨ k ≠ p)) := fun i k q hi hk hq => by
        by_cases d : i = j ∧ k = p
        · rw [d.1, d.2, mQp] at hq
          exact Or.inl ⟨d.1, d.2, (Option.some.inj hq).symm⟩
        · have d' : i ≠ j ∨ k ≠ p := by
            by_cases f : i = j
            · exact Or.inr (fun g => d ⟨f, g⟩)
            · exact Or.inl f
          rw [mQ i k hi d'] at hq
          exact Or.inr ⟨hq, d'⟩
      have hP : PSs (B + 1) 2 nm Y := by
        refine ⟨⟨by rw [yR, yR, yR, yN, yN, yN]; exact hAU.1, fun k hk => by rw [yQ, if_neg (by omega), yR, yR, yR, yR, yR, yR, yR, yR]; exact hAU.2.1 k hk, fun k hk => by rw [yN, yN, yN, yN, yN, yN, yN, yN]; exact hAU.2.2 k hk⟩, ⟨by rw [sIo _ _ (st _ (by omega)) (by omega)]; exact b1', fun t ht => by rw [yA, l8 _ _ (by unfold mA; omega) (by unfold mA; omega) (by unfold mA; omega), sA _ _ (st _ (by omega))]; exact b2' t ht, by rw [sIo _ _ (st _ (by omega)) (by omega)]; exact b3', b4', b5'⟩, fun i hi => ?_, ⟨fun i k q hi hk hq => ?_, fun y q hy hq => ?_⟩, fun i y hi hy => ?_⟩
        · by_cases d : i = j
          · rw [d]
            have hCV := V2.pc hCj
            exact hCV.cg (by rw [yI, l1]) (by rw [yI, l1]) (by rw [yI, l1]) (by rw [yI, l1]) (fun k q _ _ => by rw [yI, l1]) (fun k => by rw [yQ, if_neg (by unfold mA; omega), l3]) (fun d y h1 h2 => yA _ y)
          · refine (hC i hi).cg (sIo _ _ (sm0 i hi) (by omega)) ?_ (sIo _ _ (sm0 i hi) (by omega)) (sIo _ _ (sm0 i hi) (by omega)) (fun k q hk hq => sIo _ _ (qlt i k q hi hk hq) (by omega)) (fun k => mQ i k hi (Or.inl d)) (fun f y h1 h2 => ?_)
            · rw [yI]; exact sI _ _ (sm0 i hi) (Or.inr (by unfold mA; omega))
            · rw [yA, l8 _ _ (by unfold mA; omega) (by unfold mA; omega) (by unfold mA; omega), sA _ _ (sm i f hi (by omega))]
        · rcases hport i k q hi hk hq with ⟨d1, d2, d3⟩ | ⟨d1, d2⟩
          · rw [d1, d2, d3, i700, i701, i702]
            refine ⟨rfl, ?_, x, hx, rfl, oQx⟩
            have : cb = 0 ∨ cb = 1 := by omega
            rcases this with rfl | rfl
            · exact Or.inl rfl
            · exact Or.inr rfl
          · have hqH := qlt i k q hi hk d1
            rw [sIo _ _ hqH (by omega), sIo _ _ hqH (by omega), sIo _ _ hqH (by omega)]
            obtain ⟨g1, g2, y, g3, g4, g5⟩ := hD.1 i k q hi hk d1
            refine ⟨g1, g2, y, g3, g4, ?_⟩
            rw [oQ y (fun e => by rw [e, ho] at g5; cases g5)]; exact g5
        · by_cases d : y = x
          · rw [d, oQx] at hq
            rw [← Option.some.inj hq]
            exact ⟨j, p, j8, e, mQp, by rw [d]; exact i702⟩
          · rw [oQ y d] at hq
            obtain ⟨i, k, g1, g2, g3, g4⟩ := hD.2 y q hy hq
            refine ⟨i, k, g1, g2, ?_, by rw [sIo _ _ (qlt i k q g1 g2 g3) (by omega)]; exact g4⟩
            rw [mQ i k g1 ?_]
            · exact g3
            · by_cases f : i = j
              · refine Or.inr (fun g => ?_)
                rw [f, g, hpn] at g3; cases g3
              · exact Or.inl f
        · by_cases d : i = j
          · rw [d]
            exact (V3 y hy).cg (by rw [yI, l1]) (fun k _ => by rw [yQ, if_neg (by unfold mA; omega), l3]) (fun f _ _ => yA _ y)
          · refine (hE i y hi hy).cg (sIo _ _ (sm0 i hi) (by omega)) (fun k _ => mQ i k hi (Or.inl d)) (fun f h1 h2 => ?_)
            rw [yA, l8 _ _ (by unfold mA; omega) (by unfold mA; omega) (by unfold mA; omega), sA _ _ (sm i f hi (by omega))]
      have hag : ∀ a, a < wd_H w → ¬ pl (B + 1) w a → ag w Y a := fun a ha hnp => by
        have ne : ∀ k, k < 76 → a ≠ B + 1 + k := fun k hk e => hnp (Or.inl ⟨by omega, by omega⟩)
        have nem : ∀ d, d < 9 → a ≠ mA (B + 1) j + d := fun d hd e => hnp (e ▸ Or.inl (m_in j8 hd))
        have nem0 : a ≠ mA (B + 1) j := fun e => hnp (e ▸ Or.inl (m_in0 j8))
        refine ⟨fun g => ?_, fun g => ?_, fun y => ?_, fun k => ?_, ?_⟩
        · rw [yI]; exact sI g a (by omega) (Or.inr nem0)
        · rw [yR]; exact sR g a (by omega)
        · rw [yA, l8 _ _ (nem 6 (by omega)) (nem 7 (by omega)) (nem 8 (by omega))]; exact sA a y (by omega)
        · rw [yQ, if_neg (fun q => ne 3 (by omega) q.1)]; exact sQ a k (by omega) (Or.inl (nem 1 (by omega)))
        · rw [yN]; exact sN a (by omega)
      have hpl : ∀ a, pl (B + 1) Y a → pl (B + 1) w a ∨ wd_H w ≤ a := fun a ha => by
        rcases ha with ha | ⟨i, k, hi, hk, ha⟩
        · exact Or.inl (Or.inl ha)
        · have ha' : wd_Q Y (mA (B + 1) i + 1) k = some a := by rw [show mA (B + 1) i + 1 = B + 1 + 5 + 9 * i by unfold mA; omega]; exact ha
          rcases hport i k a hi hk ha' with ⟨-, -, d⟩ | ⟨d, -⟩
          · exact Or.inr (by omega)
          · exact Or.inl (pl_q hi hk d)
      have hlt' : ∀ a, pl (B + 1) Y a → a < wd_H Y := fun a ha => by
        rcases ha with ha | ⟨i, k, hi, hk, ha⟩
        · omega
        · have ha' : wd_Q Y (mA (B + 1) i + 1) k = some a := by rw [show mA (B + 1) i + 1 = B + 1 + 5 + 9 * i by unfold mA; omega]; exact ha
          rcases hport i k a hi hk ha' with ⟨-, -, d⟩ | ⟨d, -⟩
          · omega
          · have := hlt a (pl_q hi hk d)
            omega
      obtain ⟨q1, q2⟩ := h.op hP hag hpl hlt' (by omega) (by omega) (by omega)
      refine ⟨_, Y, rfl, q1, q2, ⟨fun i k q hq => ?_, fun y q hy hq => ?_⟩, fun i hi => sIo _ _ (sm0 i hi) (by omega), Or.inr ⟨p, wd_H w, e, rfl, hpn, mQp, i701, i702, fun i k' hi hk => mQ i k' hi hk⟩⟩
      · obtain ⟨hi, hk, hq'⟩ := hq
        have hqH := qlt i k q hi hk hq'
        refine ⟨⟨hi, hk, ?_⟩, sIo _ _ hqH (by omega), sIo _ _ hqH (by omega), sIo _ _ hqH (by omega)⟩
        rw [mQ i k hi ?_]
        · exact hq'
        · by_cases f : i = j
          · refine Or.inr (fun g => ?_)
            rw [f, g, hpn] at hq'; cases hq'
          · exact Or.inl f
      · obtain ⟨i, k, g1, g2, g3, g4⟩ := hD.2 y q hy hq
        exact ⟨by rw [oQ y (fun e => by rw [e, ho] at hq; cases hq)]; exact hq, sIo _ _ (qlt i k q g1 g2 g3) (by omega)⟩
    · rw [if_neg (by rw [show (4 : Int32) = Int32.ofNat 4 from rfl, j_lx (by omega) (by omega)]; exact e), wd_b2_s, wd_on_N, f_X5_putPort_j44, wd_b2_s, wd_on_N]
      exact thr w rfl
end AP
