/-! ===== PURE: packets come to be ===== -/
/-- packets in frames, and wrapped in, are there -/
def Iy (A : Ta) : Prop := (∀ f, f ∈ tF A → ∀ i, f.2 = some i → i < tN A 1 0) ∧ (∀ i, i < tN A 1 0 → ∀ c, tR A 410 i = some c → c < tN A 1 0)
/-- a new packet's header -/
def uHd (A : Ta) (i : Nat) (hd : Nat → Int32) (ins : Option Nat) : Ta := (fun g x => if x = i then hd g else tI A g x, fun g x => if x = i then ins else tR A g x, A.2.2)
def nwA (A : Ta) (hd : Nat → Int32) (ins : Option Nat) : Ta := uN (uHd A (tN A 1 0) hd ins) 1 0 (tN A 1 0 + 1)
theorem mp_c {pa pb : Nat → Nat} {N : Nat} (h : ∀ i, i < N → pb i = pa i) {o : Option Nat} (ho : ∀ i, o = some i → i < N) : o.map pb = o.map pa := by
  cases o with
  | none => rfl
  | some i => rw [Option.map_some, Option.map_some, h i (ho i rfl)]
section PO
variable {P T X n : Nat} {z w u : Wd} {b : Be} {A A' : Ta}
def v_pp (b : Be) (pa : Nat → Nat) (pn : Nat) : Be := v_pa (v_pn b pn) pa
/-- all but the pool: where the pool alone was changed, and a packet that is not handed out -/
theorem tm_wk (hT : Tm P T X z w b A) (hI : Ix A) (hJ : Iy A) (pb : Nat → Nat) (pm : Nat) (hpb : ∀ i, i < tN A 1 0 → pb i = b_pa b i)
    (hd : ∀ a, Dm T b a → (∀ i, tN A 1 0 ≤ i → i < b_pn b → a ≠ b_pa b i) → ∀ g, g ≠ 414 → g ≠ 600 → g ≠ 601 → wd_I u g a = wd_I w g a ∧ wd_R u g a = wd_R w g a)
    (hY : ∀ a, Dm T b a → (∀ i, wd_A u a i = wd_A w a i) ∧ (∀ i, wd_Q u a i = wd_Q w a i) ∧ wd_N u a = wd_N w a) (hp : ∀ a, pl P z a → ag w u a)
    (hF : ∀ g a, a ∈ b_fl b ++ (b_fh b ++ b_fs b) → g < 400 → wd_I u g a = wd_I w g a ∧ wd_R u g a = wd_R w g a) :
    PW P z u ∧ Sc u T P (v_pp b pb pm) A ∧ Sk u (v_pp b pb pm) A ∧ Sr u (T + 1) (v_pp b pb pm) A ∧ ∀ i, i < 8 → Sg u P (hA T i) i (v_pp b pb pm) A := by
  have hge := hT.2.1.2.1
  have hnp : ∀ a, a < T + 61 → ∀ i, tN A 1 0 ≤ i → i < b_pn b → a ≠ b_pa b i := fun a ha i _ hi => by have := hge i hi; omega
  have hpp : ∀ k, k < tN A 1 0 → ∀ i, tN A 1 0 ≤ i → i < b_pn b → b_pa b k ≠ b_pa b i := fun k hk i hi hi2 e => by
    have := hT.2.1.2.2.2.1 k i (hT.pn hk) hi2 e
    omega
  have hpn : ∀ {i : Nat}, i < tN A 1 0 → ∀ g, g ≠ 414 → g ≠ 600 → g ≠ 601 → wd_I u g (b_pa b i) = wd_I w g (b_pa b i) ∧ wd_R u g (b_pa b i) = wd_R w g (b_pa b i) := fun hi => hd _ (dm_p (hT.pn hi)) (hpp _ hi)
  have hDk : ∀ k, k < 61 → Dm T b (T + k) := fun k hk => Or.inl ⟨by omega, by omega⟩
  have hin : ∀ k, k < 61 → ∀ g, g ≠ 414 → g ≠ 600 → g ≠ 601 → wd_I u g (T + k) = wd_I w g (T + k) ∧ wd_R u g (T + k) = wd_R w g (T + k) := fun k hk => hd _ (hDk k hk) (hnp _ (by omega))
  have h0 := hin 0 (by omega)
  rw [Nat.add_zero] at h0
  obtain ⟨t1, t2, t3, t4, t5, t6, t7⟩ := hT
  refine ⟨fun a ha => (t1 a ha).tr (hp a ha), ?_, ?_, ?_, fun i hi => ?_⟩
  · obtain ⟨⟨c1, c2, c3, c4, c5, c6, c7, c8⟩, c9, c10, c11, c12⟩ := t3
    refine ⟨⟨?_, ?_, ?_, ?_, ?_, ?_, ?_, fun i hi => ?_⟩, ?_, ?_, ?_, fun c hc' => ?_⟩
    · rw [(h0 900 (by omega) (by omega) (by omega)).2]; exact c1
    · rw [(h0 904 (by omega) (by omega) (by omega)).2]; exact c2
    · rw [(h0 905 (by omega) (by omega) (by omega)).2]; exact c3
    · rw [(h0 906 (by omega) (by omega) (by omega)).2]; exact c4
    · rw [(h0 907 (by omega) (by omega) (by omega)).2]; exact c5
    · rw [(hY _ (hDk 3 (by omega))).2.2]; exact c6
    · rw [(hY _ (hDk 4 (by omega))).2.2]; exact c7
    · rw [(hY _ (hDk 3 (by omega))).2.1]; exact c8 i hi
    · rw [(h0 901 (by omega) (by omega) (by omega)).1]; exact c9
    · rw [(h0 902 (by omega) (by omega) (by omega)).1]; exact c10
    · rw [(h0 903 (by omega) (by omega) (by omega)).1]; exact c11
    · rw [(hY _ (hDk 4 (by omega))).1]; exact c12 c hc'
  · intro i hi
    show (∀ g, 400 ≤ g → g ≤ 409 → wd_I u g (pb i) = _) ∧ wd_R u 410 (pb i) = (tR A 410 i).map pb
    rw [hpb i hi]
    refine ⟨fun g g1 g2 => ?_, ?_⟩
    · rw [(hpn hi g (by omega) (by omega) (by omega)).1]; exact (t4 i hi).1 g g1 g2
    · rw [(hpn hi 410 (by omega) (by omega) (by omega)).2, mp_c hpb (hJ.2 i hi)]; exact (t4 i hi).2
  · obtain ⟨r1, r2, r3, r4, r5⟩ := t6
    refine ⟨?_, ?_, ?_, ?_, ?_⟩
    · rw [(hin 1 (by omega) 800 (by omega) (by omega) (by omega)).2]
      exact ls_cong (fun a ha => (hF 6 a (List.mem_append_left _ ha) (by omega)).2) r1
    · rw [(hin 1 (by omega) 802 (by omega) (by omega) (by omega)).2]; exact r2
    · rw [(hin 1 (by omega) 803 (by omega) (by omega) (by omega)).2]
      exact ls_cong (fun a ha => (hF 6 a (List.mem_append_right _ (List.mem_append_right _ ha)) (by omega)).2) r3
    · rw [(hin 1 (by omega) 801 (by omega) (by omega) (by omega)).1]; exact r4
    · have hJ1 := hJ.1
      have key : ∀ (l : List Nat) (m : List ((Nat → Int32) × Option Nat)), (∀ a, a ∈ l → a ∈ b_fl b) → (∀ f, f ∈ m → ∀ i, f.2 = some i → i < tN A 1 0) → ls_2 (fun a f => (∀ g, g < 5 → wd_I w g a = f.1 g) ∧ wd_R w 5 a = f.2.map (b_pa b)) l m → ls_2 (fun a f => (∀ g, g < 5 → wd_I u g a = f.1 g) ∧ wd_R u 5 a = f.2.map pb) l m := by
        intro l
        induction l with
        | nil => intro m _ _ h; cases m with
          | nil => trivial
          | cons x m => exact h.elim
        | cons a l ih =>
          intro m h1 h2 h
          cases m with
          | nil => exact h.elim
          | cons x m =>
            have ha := h1 a (List.mem_cons_self ..)
            refine ⟨⟨fun g hg => ?_, ?_⟩, ih m (fun c hc => h1 c (List.mem_cons_of_mem _ hc)) (fun f hf => h2 f (List.mem_cons_of_mem _ hf)) h.2⟩
            · rw [(hF g a (List.mem_append_left _ ha) (by omega)).1]; exact h.1.1 g hg
            · rw [(hF 5 a (List.mem_append_left _ ha) (by omega)).2, mp_c hpb (h2 x (List.mem_cons_self ..))]; exact h.1.2
      exact key _ _ (fun a ha => ha) hJ1 r5
  · obtain ⟨s1, s2, s3, s4, s5⟩ := t7 i hi
    have g0 : ∀ g, g ≠ 414 → g ≠ 600 → g ≠ 601 → wd_I u g (hA T i) = wd_I w g (hA T i) ∧ wd_R u g (hA T i) = wd_R w g (hA T i) := hd _ (dm_h0 hi) (hnp _ (by unfold hA; omega))
    have gA : ∀ k, k < 7 → (∀ x, wd_A u (hA T i + k) x = wd_A w (hA T i + k) x) ∧ (∀ x, wd_Q u (hA T i + k) x = wd_Q w (hA T i + k) x) ∧ wd_N u (hA T i + k) = wd_N w (hA T i + k) := fun k hk => hY _ (dm_h hi hk)
    have em : ((tW A i).map fun e => pb e.1) = ((tW A i).map fun e => b_pa b e.1) := List.map_congr_left fun e he => hpb _ ((hI.1 i hi).1 e he).1
    refine ⟨⟨?_, ?_, ?_, ?_, ?_, ?_, ?_⟩, ⟨fun x hx => ?_, ?_⟩, ⟨?_, ?_, ?_, fun e he => ?_⟩, ⟨?_, s4.2.1, fun k hk => ?_, s4.2.2.2.1, fun k e he => ?_⟩, ⟨?_, s5.2.1, fun k f hk hf x hx => ?_⟩⟩
    · rw [(g0 200 (by omega) (by omega) (by omega)).2]; exact s1.1
    · rw [(g0 205 (by omega) (by omega) (by omega)).2]; exact s1.2.1
    · rw [(g0 208 (by omega) (by omega) (by omega)).2]; exact s1.2.2.1
    · rw [(g0 209 (by omega) (by omega) (by omega)).2]; exact s1.2.2.2.1
    · rw [(gA 1 (by omega)).2.2]; exact s1.2.2.2.2.1
    · rw [(gA 2 (by omega)).2.2]; exact s1.2.2.2.2.2.1
    · rw [(gA 3 (by omega)).2.2]; exact s1.2.2.2.2.2.2
    · rw [(gA 1 (by omega)).1]; exact s2.1 x hx
    · rw [(g0 204 (by omega) (by omega) (by omega)).1]; exact s2.2
    · rw [(g0 201 (by omega) (by omega) (by omega)).1]; exact s3.1
    · show ls_c (wd_R u 413) (wd_R u 206 (hA T i)) ((tW A i).map fun e => pb e.1)
      rw [(g0 206 (by omega) (by omega) (by omega)).2, em]
      refine ls_cong (fun a ha => ?_) s3.2.1
      obtain ⟨e, he, rfl⟩ := List.mem_map.mp ha
      exact (hpn ((hI.1 i hi).1 e he).1 413 (by omega) (by omega) (by omega)).2
    · show wd_R u 207 (hA T i) = ((tW A i).map fun e => pb e.1).getLast?
      rw [(g0 207 (by omega) (by omega) (by omega)).2, em]; exact s3.2.2.1
    · have h1 := ((hI.1 i hi).1 e he).1
      show wd_I u 411 (pb e.1) = _ ∧ wd_R u 412 (pb e.1) = _
      rw [hpb _ h1, (hpn h1 411 (by omega) (by omega) (by omega)).1, (hpn h1 412 (by omega) (by omega) (by omega)).2]; exact s3.2.2.2 e he
    · rw [(g0 202 (by omega) (by omega) (by omega)).1]; exact s4.1
    · rw [(gA 2 (by omega)).2.1]; exact s4.2.2.1 k hk
    · have k3 : k < 3 := Nat.lt_of_lt_of_le (List.getElem?_eq_some_iff.mp he).1 s4.2.1
      have q := s4.2.2.1 k k3
      have r := s4.2.2.2.2 k e he
      have gq := hd (b_kh b i k) (Or.inl ⟨by have := q.2.1; unfold hA at this; omega, by have := q.2.2; unfold hA at this; omega⟩) (hnp _ (by have := q.2.2; unfold hA at this; omega))
      have hl : ∀ p, p ∈ e.2.2 → p < tN A 1 0 := fun p hp => ((hI.2 i hi e (List.mem_of_getElem? he)).1 p hp).1
      show wd_I u 100 (b_kh b i k) = _ ∧ wd_I u 101 (b_kh b i k) = _ ∧ ls_c (wd_R u 413) (wd_R u 102 (b_kh b i k)) (e.2.2.map pb)
      rw [(gq 100 (by omega) (by omega) (by omega)).1, (gq 101 (by omega) (by omega) (by omega)).1, (gq 102 (by omega) (by omega) (by omega)).2, show e.2.2.map pb = e.2.2.map (b_pa b) from List.map_congr_left fun p hp => hpb _ (hl p hp)]
      refine ⟨r.1, r.2.1, ls_cong (fun a ha => ?_) r.2.2⟩
      obtain ⟨p, hp, rfl⟩ := List.mem_map.mp ha
      exact (hpn (hl p hp) 413 (by omega) (by omega) (by omega)).2
    · rw [(g0 203 (by omega) (by omega) (by omega)).1]; exact s5.1
    · rw [(gA 3 (by omega)).1]; exact s5.2.2 k f hk hf x hx
end PO
