/-- what every start that the Statement allows must have among its classes: the array class of stack trace elements -/
theorem wf_needs {args : Array Value} {s : State} (h : (Cond.and given_1 narrow_1).before args s = true) : ∃ c : ClassId, s.vm.findClass "[Ljava/lang/StackTraceElement;" = some c := by
  have hs := flat_of_before _ h
  have h1 : (Cond.not (.castable "[Ljava/lang/StackTraceElement;" "MillPaper$Sealed")).before args s = true := hs _ (by decide +kernel)
  obtain ⟨c, t, hc, -, -⟩ := va_Nc.of h1
  exact ⟨c, hc⟩
/-- so a start whose tables lack that class meets the premises in no way -/
theorem wf_none {args : Array Value} {s : State} (h0 : s.vm.findClass "[Ljava/lang/StackTraceElement;" = none) : (Cond.and given_1 narrow_1).before args s ≠ true := by
  intro h
  obtain ⟨c, hc⟩ := wf_needs h
  rw [h0] at hc
  cases hc
