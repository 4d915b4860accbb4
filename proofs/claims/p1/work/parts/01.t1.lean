/-- REPORT T1: where the table of classes has no class of that name, the Statement's own premise of the start is false, whatever else the state holds -/
theorem t1_no_start {args : Array Value} {s : State} (h : s.vm.findClass "[Ljava/lang/StackTraceElement;" = none) : (Jvm.Cond.and given_1 narrow_1).before args s = false := by
  cases hb : (Jvm.Cond.and given_1 narrow_1).before args s with
  | false => rfl
  | true =>
    exfalso
    have hs := flat_of_before _ hb
    have hc : (Cond.not (Cond.castable "[Ljava/lang/StackTraceElement;" "java/lang/String")).before args s = true := hs _ (by decide +kernel)
    simp [Cond.before, Cond.holds, Cond.value, h] at hc
/-- so a start of the claim has that class in its table -/
theorem t1_start_has {args : Array Value} {s : State} (h : (Jvm.Cond.and given_1 narrow_1).before args s = true) : ∃ c, s.vm.findClass "[Ljava/lang/StackTraceElement;" = some c := by
  cases hc : s.vm.findClass "[Ljava/lang/StackTraceElement;" with
  | some c => exact ⟨c, rfl⟩
  | none => rw [t1_no_start hc] at h; exact absurd h (by decide)
