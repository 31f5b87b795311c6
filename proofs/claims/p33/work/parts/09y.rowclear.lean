/-! ===== PURE: the row cleared ===== -/
theorem ls_cat {F G : Nat → Option Nat} {l m : List Nat} {z : Nat} (hm : ls_c G (G z) m) (h : ∀ a, a ∈ l → G a = F a) : ∀ {o : Option Nat}, ls_c F o (l ++ [z]) → ls_c G o (l ++ [z] ++ m) := by
  induction l with
  | nil => intro o h1; exact ⟨h1.1, hm⟩
  | cons a l ih =>
    intro o h1
    refine ⟨h1.1, ?_⟩
    rw [h a (List.mem_cons_self ..)]
    exact ih (fun b hb => h b (List.mem_cons_of_mem _ hb)) h1.2
section RC
variable {P T X n : Nat} {z w u : Wd} {b : Be} {A A' : Ta}
theorem o_clear (hT : Tm P T X z w b A) (hh : b_fh b = []) :
    ∃ v, f_X8_clear n w (T + 1) = some v ∧ Tm P T X z v (v_rw b [] [] (b_fl b ++ b_fs b)) (uN (uF A []) 3 0 0) ∧ Rl T w b v (v_rw b [] [] (b_fl b ++ b_fs b)) := by
  obtain ⟨r1, r2, r3, r4, r5⟩ := hT.2.2.2.2.2.1
  have hnd := hT.2.1.2.2.2.2.1
  rw [hh, List.nil_append] at hnd
  have hperm : (([] : List Nat) ++ ([] ++ (b_fl b ++ b_fs b))).Perm (b_fl b ++ (b_fh b ++ b_fs b)) := by
    rw [hh]; exact List.Perm.refl _
  have hE : tI (uN (uF A []) 3 0 0) = tI A ∧ tR (uN (uF A []) 3 0 0) = tR A ∧ tW (uN (uF A []) 3 0 0) = tW A ∧ tK (uN (uF A []) 3 0 0) = tK A ∧ tM (uN (uF A []) 3 0 0) = tM A ∧ tO (uN (uF A []) 3 0 0) = tO A ∧ ∀ g x, g ≠ 3 → tN (uN (uF A []) 3 0 0) g x = tN A g x :=
    ⟨rfl, rfl, rfl, rfl, rfl, rfl, fun g x hg => by rw [tN_uN, if_neg (fun q => hg q.1)]; rfl⟩
  rcases List.eq_nil_or_concat (b_fl b) with hn | ⟨l0, e0, hn⟩
  · have h2 : wd_R w 802 (T + 1) = none := by rw [r2, hn]; rfl
    have H := row_op (u := wd_sI (wd_sR (wd_sR w 800 (T + 1) none) 802 (T + 1) none) 801 (T + 1) 0) (A' := uN (uF A []) 3 0 0) hT [] [] (b_fl b ++ b_fs b)
      (fun g c h1 h2 => ⟨by rw [i_sI, if_neg (by omega), i_sR, i_sR], by rw [r_sI, r_sR, if_neg (by omega), r_sR, if_neg (by omega)]⟩) rfl rfl rfl rfl rfl rfl (ag_sI dm_r (ag_sR dm_r (ag_sR dm_r fun c _ => ag.rf _ _))) hperm hE
      ⟨by
        show wd_R (wd_sR (wd_sR w 800 (T + 1) none) 802 (T + 1) none) 800 (T + 1) = none
        rw [r_sR, if_neg (by omega), r_sR, if_pos ⟨rfl, rfl⟩], by
        rw [r_sI, r_sR, if_pos ⟨rfl, rfl⟩]; rfl, by
        show ls_c _ _ (b_fl b ++ b_fs b)
        rw [hn]; exact r3, by rw [i_sI, if_pos ⟨rfl, rfl⟩]; rfl, trivial⟩ (Nat.zero_le _)
    refine ⟨_, ?_, H.1, H.2, hh.symm, by rw [hh]; exact fun _ h => absurd h List.not_mem_nil⟩
    rw [f_X8_clear, h2, wd_on_N]; rfl
  · have hgl : wd_R w 802 (T + 1) = some e0 := by rw [r2, hn]; simp
    have he0 : e0 ∈ b_fl b := by rw [hn]; simp
    have hfl : b_fl b = l0 ++ [e0] := by rw [hn, List.concat_eq_append]
    have hns : ∀ c, c ∈ b_fs b → c ≠ e0 := fun c hc d => (List.nodup_append.mp hnd).2.2 e0 he0 c hc d.symm
    have hnl : ∀ c, c ∈ l0 → c ≠ e0 := fun c hc d => by
      have h9 := (List.nodup_append.mp hnd).1
      rw [hfl, List.nodup_append] at h9
      exact h9.2.2 c hc e0 (List.mem_singleton.mpr rfl) d
    have H := row_op (u := wd_sI (wd_sR (wd_sR (wd_sR (wd_sR w 6 e0 (wd_R w 803 (T + 1))) 803 (T + 1) (wd_R w 800 (T + 1))) 800 (T + 1) none) 802 (T + 1) none) 801 (T + 1) 0) (A' := uN (uF A []) 3 0 0) hT [] [] (b_fl b ++ b_fs b)
      (fun g c h1 h2 => ⟨by rw [i_sI, if_neg (by omega), i_sR, i_sR, i_sR, i_sR], by rw [r_sI, r_sR, if_neg (by omega), r_sR, if_neg (by omega), r_sR, if_neg (by omega), r_sR, if_neg (by omega)]⟩) rfl rfl rfl rfl rfl rfl (ag_sI dm_r (ag_sR dm_r (ag_sR dm_r (ag_sR dm_r (ag_sR (dm_f (List.mem_append_left _ he0)) fun c _ => ag.rf _ _))))) hperm hE
      ⟨by
        show wd_R (wd_sR (wd_sR (wd_sR (wd_sR w 6 e0 (wd_R w 803 (T + 1))) 803 (T + 1) (wd_R w 800 (T + 1))) 800 (T + 1) none) 802 (T + 1) none) 800 (T + 1) = none
        rw [r_sR, if_neg (by omega), r_sR, if_pos ⟨rfl, rfl⟩], by
        rw [r_sI, r_sR, if_pos ⟨rfl, rfl⟩]; rfl, by
        show ls_c _ _ (b_fl b ++ b_fs b)
        rw [r_sI, r_sR, if_neg (by omega), r_sR, if_neg (by omega), r_sR, if_pos ⟨rfl, rfl⟩, hfl]
        have h8 := r1
        rw [hfl] at h8
        have hF : ∀ c, c ≠ e0 → wd_R (wd_sI (wd_sR (wd_sR (wd_sR (wd_sR w 6 e0 (wd_R w 803 (T + 1))) 803 (T + 1) (wd_R w 800 (T + 1))) 800 (T + 1) none) 802 (T + 1) none) 801 (T + 1) 0) 6 c = wd_R w 6 c := fun c hc => by
          rw [r_sI, r_sR, if_neg (by omega), r_sR, if_neg (by omega), r_sR, if_neg (by omega), r_sR, if_neg (fun q => hc q.2)]
        refine ls_cat ?_ (fun c hc => hF c (hnl c hc)) h8
        rw [r_sI, r_sR, if_neg (by omega), r_sR, if_neg (by omega), r_sR, if_neg (by omega), r_sR, if_pos ⟨rfl, rfl⟩]
        exact ls_cong (fun c hc => hF c (hns c hc)) r3, by rw [i_sI, if_pos ⟨rfl, rfl⟩]; rfl, trivial⟩ (Nat.zero_le _)
    refine ⟨_, ?_, H.1, H.2, hh.symm, by rw [hh]; exact fun _ h => absurd h List.not_mem_nil⟩
    rw [f_X8_clear, hgl, wd_on_S, Option.bind_some]; rfl
end RC
