/-! ===== PURE: an act ===== -/
section AC1
variable {i j n c B nm g q K G s : Nat} {z w u v : Wd} {b1 b2 : Be} {A1 A2 : Ta}
theorem ox_N {ρ : Type} (A : Option ρ) (F : Int32 → Option ρ) : wd_ox none A F = A := rfl
theorem ox_S {ρ : Type} (a : Int32) (A : Option ρ) (F : Int32 → Option ρ) : wd_ox (some a) A F = F a := rfl
/-- an act done well: all it left -/
def Ae (B g q K G s : Nat) (w : Wd) (F : Option (Int32 × Wd)) : Prop := ∃ v nm z b1 A1 b2 A2, F = some ((1 : Int32), v) ∧ Ls B nm (g + 1) q K G s z v b1 A1 b2 A2 ∧ ∀ a, a < B → ag w v a
theorem a_exc (h : Ls B nm g q K G s z w b1 A1 b2 A2) : (wd_b2 (f_X11_packets n w B) fun r56 w54 => if r56 = Int32.ofNat (tN A1 901 0) then wd_b2 (f_X11_frames n w54 B) fun r60 w58 => if r60 = Int32.ofNat (tF A1).length then some ((1 : Int32), w58) else f_L_act_j764 n w58 else f_L_act_j764 n w54) = some (1, w) := by
  rw [h.pack, wd_b2_s, if_pos rfl, h.fram, wd_b2_s, if_pos rfl]
theorem Nw.oth {nc : Nat} (h : Nw B nc nm s z w b1 A1 b2 A2) (hag : ∀ a, ¬ (B + 200 ≤ a ∧ a < B + 233) → ag w v a) (hHMS : wd_H v = wd_H w ∧ wd_M v = wd_M w ∧ wd_S v = wd_S w) : Nw B nc nm s z v b1 A1 b2 A2 := by
  have ho := fun a (ha : Ot B a) => h.out (Or.inl ha)
  obtain ⟨h1, h2, h3, h4, h5, h6, h7, h8, h9, h10, h11, h12, h13⟩ := h
  have n1 : ∀ a, Dm (B + 77) b1 a → ag w v a := fun a ha => hag a (fun x => (ho a (Or.inr x)).2.1 ha)
  have n2 : ∀ a, Dm (B + 139) b2 a → ag w v a := fun a ha => hag a (fun x => ((ho a (Or.inr x)).2.2.2 (Or.inr x)).1 ha)
  have n3 : ∀ a, pl (B + 1) z a → ag w v a := fun a ha => hag a (fun x => (ho a (Or.inr x)).2.2.1 ha)
  have e0 := hag B (by omega)
  have e1 := hag (B + 138) (by omega)
  obtain ⟨m1, m2, m3⟩ := hHMS
  exact ⟨h1, h2.out h4.1 n1 n3 (by omega) (by rw [m2]; exact h2.2.1.2.2.2.2.2.2.2.1.2.2.1) (by rw [m3]; exact h2.2.1.2.2.2.2.2.2.2.1.2.2.2), h3.out h4.2 n2 n3 (by omega) (by rw [m2]; exact h3.2.1.2.2.2.2.2.2.2.1.2.2.1) (by rw [m3]; exact h3.2.1.2.2.2.2.2.2.2.1.2.2.2), h4, ⟨by rw [e0.2.1]; exact h5.1, by rw [e0.2.1]; exact h5.2.1, by rw [e0.2.1]; exact h5.2.2.1, by rw [e1.2.1]; exact h5.2.2.2⟩, h6, h7, h8, h9, h10, by omega, by omega, by omega⟩
theorem lt_ot {a : Nat} (h : a < B) : Ot B a := Or.inl (by omega)
/-- a port asked for -/
theorem a_port (h : Ls B nm g q K G (s + 1) z w b1 A1 b2 A2) (hg : g ≤ 43) (hj : j < nm) (hn : 200000 ≤ n) (x : Int32) : Ae B g q K G s w (f_L_act_j96 n (some B) x (some (B + 200)) (Int32.ofNat j) (Int32.ofNat (tN A1 901 0)) (Int32.ofNat (tF A1).length) w) := by
  have hN := h.now
  have h8 := hN.1.mm.2
  obtain ⟨cb, cb1, cb2⟩ := x_below (n := n) (w := w) (x >>> ((6 : Int32) &&& 31)) (m := 2) (by omega) (by omega)
  obtain ⟨r, r1, r2⟩ := x_below (n := n) (w := w) (x >>> ((8 : Int32) &&& 31)) (m := 12) (by omega) (by omega)
  have ea : (16 : Int32) * ((1 : Int32) + Int32.ofNat cb) + Int32.ofNat r = Int32.ofNat (16 * (1 + cb) + r) := by
    rw [show (16 : Int32) = Int32.ofNat 16 from rfl, show (1 : Int32) = Int32.ofNat 1 from rfl, j_ad, j_ml, j_ad]
  rw [f_L_act_j96, show f_L_below n w (x >>> ((6 : Int32) &&& 31)) 2 = some (Int32.ofNat cb, w) from cb2, wd_b2_s, show f_L_below n w (x >>> ((8 : Int32) &&& 31)) 12 = some (Int32.ofNat r, w) from r2, wd_b2_s, wd_let, ea, Option.bind_some]
  obtain ⟨o, v, v1, v2, v3, v4, v5, v6⟩ := x_addPort (n := n) hN.1 hj (cb := cb) (x := 16 * (1 + cb) + r) cb1 (by omega) (by omega)
  have hF : Fw B v := fun i hi => by rw [v5 i hi]; exact hN.2.2.2.1 i hi
  rw [v1, wd_b2_s]
  rcases v6 with ⟨e, v7⟩ | ⟨k, qq, k4, e, p1, p2, p3, p4, p5⟩
  · rw [e, ox_N]
    have hL := hN.mut (mm := nm) hN.2.1 v2 v3 v4 v7 hF
    exact ⟨v, nm, v, b1, A1, b2, A2, a_exc hL, hL.up hg, fun a ha => v3 a (lt_ot ha)⟩
  · rw [e, ox_S, Option.bind_some]
    have hk : 4 * j + k < 32 := by omega
    obtain ⟨t1, t2, t3⟩ := hN.2.2.1.ot (v := v) (fun a x y => v3 a (ot_of x y))
    obtain ⟨t4, t5⟩ := t2 _ hk
    have tn : wd_A v (B + 201 + (4 * j + k)) 1 = -1 := by
      rcases t3 j k (by omega) k4 with ⟨q', x', q1, -⟩ | ⟨-, q2⟩
      · rw [p1] at q1; cases q1
      · exact q2
    have ediv : Int32.ofNat (4 * j + k) / (4 : Int32) = Int32.ofNat j := by rw [show (4 : Int32) = Int32.ofNat 4 from rfl, j_di (by omega) (by omega), show (4 * j + k) / 4 = j by omega]
    have g1 : ∀ {ρ : Type} (u : Wd) (F : Option ρ), wd_N u (B + 200) = 32 → wd_gd (Int32.ofNat (4 * j + k) < 0 ∨ wd_N u (B + 200) ≤ (Int32.ofNat (4 * j + k)).toNatClampNeg) F = F := fun u F hu => j_gd (by rw [hu]; exact j_in hk (by omega))
    have g2 : ∀ {ρ : Type} (u : Wd) (F : Option ρ), wd_N u (B + 201 + (4 * j + k)) = 2 → wd_gd ((1 : Int32) < 0 ∨ wd_N u (B + 201 + (4 * j + k)) ≤ (1 : Int32).toNatClampNeg) F = F := fun u F hu => j_gd (by rw [hu]; decide)
    have g3 : ∀ {ρ : Type} (u : Wd) (F : Option ρ), wd_N u (B + 201 + (4 * j + k)) = 2 → wd_gd ((0 : Int32) < 0 ∨ wd_N u (B + 201 + (4 * j + k)) ≤ (0 : Int32).toNatClampNeg) F = F := fun u F hu => j_gd (by rw [hu]; decide)
    have e1 : (1 : Int32).toNatClampNeg = 1 := by decide
    have e0 : (0 : Int32).toNatClampNeg = 0 := by decide
    have ek : (Int32.ofNat (4 * j + k)).toNatClampNeg = 4 * j + k := j_nn (by omega)
    rw [g1 v _ t1, ek, t4, Option.bind_some, g2 v _ t5, e1, tn, if_neg (by decide), ediv, if_pos rfl]
    have g1' : ∀ {ρ : Type} (u : Wd) (F : Option ρ), wd_N u (B + 200) = 32 → wd_gd (Int32.ofNat (4 * j + k) < 0 ∨ wd_N u (B + 200) ≤ 4 * j + k) F = F := fun u F hu => j_gd (by rw [hu]; exact j_ix hk (by omega))
    have g2' : ∀ {ρ : Type} (u : Wd) (F : Option ρ), wd_N u (B + 201 + (4 * j + k)) = 2 → wd_gd ((1 : Int32) < 0 ∨ wd_N u (B + 201 + (4 * j + k)) ≤ 1) F = F := fun u F hu => j_gd (by rw [hu]; decide)
    rw [g1' v _ t1, Option.bind_some, g3 v _ t5, e0, wd_let]
    have n46 : wd_N (wd_sA v (B + 201 + (4 * j + k)) 0 (Int32.ofNat cb)) (B + 200) = 32 := t1
    have n46' : wd_N (wd_sA v (B + 201 + (4 * j + k)) 0 (Int32.ofNat cb)) (B + 201 + (4 * j + k)) = 2 := t5
    have q46 : wd_Q (wd_sA v (B + 201 + (4 * j + k)) 0 (Int32.ofNat cb)) (B + 200) (4 * j + k) = some (B + 201 + (4 * j + k)) := t4
    rw [g1' _ _ n46, q46, Option.bind_some, g2' _ _ n46', wd_let]
    -- the table written
    have hag : ∀ a, ¬ (B + 200 ≤ a ∧ a < B + 233) → ag v (wd_sA (wd_sA v (B + 201 + (4 * j + k)) 0 (Int32.ofNat cb)) (B + 201 + (4 * j + k)) 1 (Int32.ofNat (16 * (1 + cb) + r))) a := fun a ha => ⟨fun _ => rfl, fun _ => rfl, fun y => by rw [a_sA, if_neg (by omega), a_sA, if_neg (by omega)], fun _ => rfl, rfl⟩
    have hA : ∀ a y, wd_A (wd_sA (wd_sA v (B + 201 + (4 * j + k)) 0 (Int32.ofNat cb)) (B + 201 + (4 * j + k)) 1 (Int32.ofNat (16 * (1 + cb) + r))) a y = if a = B + 201 + (4 * j + k) ∧ y = 1 then Int32.ofNat (16 * (1 + cb) + r) else if a = B + 201 + (4 * j + k) ∧ y = 0 then Int32.ofNat cb else wd_A v a y := fun a y => by rw [a_sA, a_sA]
    have hQN : (∀ a y, wd_Q (wd_sA (wd_sA v (B + 201 + (4 * j + k)) 0 (Int32.ofNat cb)) (B + 201 + (4 * j + k)) 1 (Int32.ofNat (16 * (1 + cb) + r))) a y = wd_Q v a y) ∧ ∀ a, wd_N (wd_sA (wd_sA v (B + 201 + (4 * j + k)) 0 (Int32.ofNat cb)) (B + 201 + (4 * j + k)) 1 (Int32.ofNat (16 * (1 + cb) + r))) a = wd_N v a := ⟨fun _ _ => rfl, fun _ => rfl⟩
    have hNw : Nw B 2 nm s v (wd_sA (wd_sA v (B + 201 + (4 * j + k)) 0 (Int32.ofNat cb)) (B + 201 + (4 * j + k)) 1 (Int32.ofNat (16 * (1 + cb) + r))) b1 A1 b2 A2 := v2.oth hag ⟨rfl, rfl, rfl⟩
    refine ⟨_, nm, v, b1, A1, b2, A2, rfl, ?_, fun a ha => (v3 a (lt_ot ha)).tr (hag a (by omega))⟩
    generalize wd_sA (wd_sA v (B + 201 + (4 * j + k)) 0 (Int32.ofNat cb)) (B + 201 + (4 * j + k)) 1 (Int32.ofNat (16 * (1 + cb) + r)) = W at *
    have hTb : Tb B v W := by
      refine ⟨by rw [hQN.2]; exact t1, fun y hy => by rw [hQN.1, hQN.2]; exact t2 y hy, fun i y hi hy => ?_⟩
      by_cases d : i = j ∧ y = k
      · rw [d.1, d.2]
        refine Or.inl ⟨qq, 16 * (1 + cb) + r, p2, by omega, p4, ?_, ?_⟩
        · rw [hA, if_neg (by omega), if_pos ⟨rfl, rfl⟩]; exact p3.symm
        · rw [hA, if_pos ⟨rfl, rfl⟩]
      · have hne : B + 201 + (4 * i + y) ≠ B + 201 + (4 * j + k) := by omega
        have d' : i ≠ j ∨ y ≠ k := by omega
        rw [hA, if_neg (fun x => hne x.1), if_neg (fun x => hne x.1), hA, if_neg (fun x => hne x.1), if_neg (fun x => hne x.1)]
        rcases t3 i y hi hy with ⟨q', x', q1, q2, q3, q4, q5⟩ | ⟨q1, q2⟩
        · obtain ⟨s1, s2, s3, s4⟩ := v4.1 i y q' ⟨hi, hy, q1⟩
          exact Or.inl ⟨q', x', s1.2.2, q2, s4.trans q3, q4.trans s3.symm, q5⟩
        · exact Or.inr ⟨by rw [p5 i y hi d']; exact q1, q2⟩
    obtain ⟨l1, l2, l3, l4, l5, l6, l7, l8', l9⟩ := hN
    exact Ls.up ⟨hNw, l2, hTb, hF, l5.zz v4.1 v4.2, l6, l7, l8', l9.1.sq v4, l9.2⟩ hg
/-- a route asked for -/
theorem a_route (h : Ls B nm g q K G (s + 1) z w b1 A1 b2 A2) (hg : g ≤ 43) (hj : j < nm) (hn : 200000 ≤ n) {x l : Nat} {via : Int32} (hx : x < 256) (hl : l ≤ 8) (hv : (∃ y, y < 256 ∧ via = Int32.ofNat y) ∨ (via = -1 ∧ 0 < wd_I w 309 (mA (B + 1) j))) (F : Wd → Option (Int32 × Wd)) :
    Ae B g q K G s w (wd_b2 (f_X11_addRoute n w B (Int32.ofNat j) (Int32.ofNat x) (Int32.ofNat l) via) fun o w73 => wd_ox o (wd_b2 (f_X11_packets n w73 B) fun r82 w80 => if r82 = Int32.ofNat (tN A1 901 0) then wd_b2 (f_X11_frames n w80 B) fun r86 w84 => if r86 = Int32.ofNat (tF A1).length then some ((1 : Int32), w84) else f_L_act_j764 n w84 else f_L_act_j764 n w80) (fun r76 => if (6 : Int32) ≤ r76 then F w73 else some ((1 : Int32), w73))) := by
  have hN := h.now
  obtain ⟨o, v, v1, v2, v3, v4, v5, v6, v7⟩ := x_addRoute (n := n) hN.1 hj hx hl hv (by omega)
  have hF : Fw B v := fun i hi => by rw [v7 i hi]; exact hN.2.2.2.1 i hi
  have hL := hN.mut (mm := nm) hN.2.1 v2 v3 v4 v5 hF
  rw [v1, wd_b2_s]
  refine ⟨v, nm, v, b1, A1, b2, A2, ?_, hL.up hg, fun a ha => v3 a (lt_ot ha)⟩
  rcases v6 with e | ⟨k, k6, e⟩
  · rw [e, ox_N]; exact a_exc hL
  · rw [e, ox_S, if_neg (by rw [show (6 : Int32) = Int32.ofNat 6 from rfl, j_ll (by omega) (by omega)]; omega)]
end AC1
