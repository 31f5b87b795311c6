/-! what the printed start of this claim lacks: a state whose tables have no class "[Ljava/lang/StackTraceElement;" doesn't meet 'given_1 and narrow_1' -/
def zz_has (p : Jvm.Cond → Bool) : Jvm.Cond → Bool
  | .and a b => zz_has p a || zz_has p b
  | c => p c
theorem zz_of (p : Jvm.Cond → Bool) (args : Array Jvm.Value) (s : Jvm.State) :
    ∀ c : Jvm.Cond, zz_has p c = true → c.before args s = true → ∃ d, p d = true ∧ d.before args s = true := by
  intro c
  induction c with
  | and a b iha ihb =>
    intro h1 h2
    rw [Jvm.Cond.before_and] at h2
    have h3 : (zz_has p a || zz_has p b) = true := h1
    have h4 := (Bool.and_eq_true _ _).mp h2
    rcases (Bool.or_eq_true _ _).mp h3 with h | h
    · exact iha h h4.1
    · exact ihb h h4.2
  | _ => intro h1 h2; exact ⟨_, h1, h2⟩
def zz_p : Jvm.Cond → Bool
  | .not (.castable a b) => a == "[Ljava/lang/StackTraceElement;" && b == "java/lang/Integer"
  | _ => false
theorem zz_p_ok (args : Array Jvm.Value) (s : Jvm.State) (hn : s.vm.findClass "[Ljava/lang/StackTraceElement;" = none) (d : Jvm.Cond) (h : zz_p d = true) : d.before args s = false := by
  unfold zz_p at h
  split at h
  · rename_i a b
    simp only [Bool.and_eq_true, beq_iff_eq] at h
    obtain ⟨ha, hb⟩ := h
    subst ha hb
    simp only [Jvm.Cond.before, Jvm.Cond.holds, Jvm.Cond.value, hn]
    rfl
  · cases h
theorem zz_narrow : zz_has zz_p narrow_1 = true := by decide +kernel
theorem zz_start (args : Array Jvm.Value) (s : Jvm.State) (hn : s.vm.findClass "[Ljava/lang/StackTraceElement;" = none) : (Jvm.Cond.and given_1 narrow_1).before args s = false := by
  rw [Jvm.Cond.before_and]
  cases h : narrow_1.before args s with
  | false => rw [Bool.and_false]
  | true =>
    obtain ⟨d, h1, h2⟩ := zz_of _ _ _ _ zz_narrow h
    rw [zz_p_ok args s hn d h1] at h2
    cases h2
