/-! What the printed premises ask of a start: that the array class of StackTraceElement is there. (Evidence for REPORT.md, TRANSLATOR 1; no step towards i_vc.) -/
theorem wl_needs {args : Array Value} {s : State} (h : (Jvm.Cond.and given_1 narrow_1).before args s = true) : s.vm.findClass "[Ljava/lang/StackTraceElement;" ≠ none := by
  have hs := flat_of_before _ h
  have hc : (Jvm.Cond.not (Jvm.Cond.castable "[Ljava/lang/StackTraceElement;" "java/lang/String")).before args s = true := hs _ (by decide +kernel)
  intro hn
  simp [Cond.before, Cond.holds, Cond.value, hn] at hc
