/-- what the printed premises ask of every start: the class of arrays of StackTraceElement stands in the table of classes. (The printed witness's table has no such class: so its own row 'given_1 and narrow_1' can't hold.) -/
theorem needs_trace_class (args : Array Value) (s : State) (h : (Jvm.Cond.and given_1 narrow_1).before args s = true) : ∃ c : ClassId, s.vm.findClass "[Ljava/lang/StackTraceElement;" = some c := by
  have hs := flat_of_before _ h
  obtain ⟨c, t, h1, -, -⟩ := va_Nc.of (hs (.not (.castable "[Ljava/lang/StackTraceElement;" "java/lang/String")) (by decide +kernel))
  exact ⟨c, h1⟩
/-- so a state whose table lacks that class is no start of the claim -/
theorem no_start_without (args : Array Value) (s : State) (h : s.vm.findClass "[Ljava/lang/StackTraceElement;" = none) : ¬ (Jvm.Cond.and given_1 narrow_1).before args s = true := by
  intro q
  obtain ⟨c, hc⟩ := needs_trace_class args s q
  rw [h] at hc
  cases hc
