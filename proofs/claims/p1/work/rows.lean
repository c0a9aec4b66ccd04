section
/-! Every start that meets this claim's premises has a class of the name "[Ljava/lang/StackTraceElement;": three of the premises are worth nothing where there is none. -/
theorem sn_mem_String : Jvm.Cond.not (Jvm.Cond.castable "[Ljava/lang/StackTraceElement;" "java/lang/String") ∈ flatC narrow_1 := List.mem_of_elem_eq_true (by decide +kernel)
theorem sn_mem_Integer : Jvm.Cond.not (Jvm.Cond.castable "[Ljava/lang/StackTraceElement;" "java/lang/Integer") ∈ flatC narrow_1 := List.mem_of_elem_eq_true (by decide +kernel)
theorem sn_mem_List : Jvm.Cond.not (Jvm.Cond.castable "[Ljava/lang/StackTraceElement;" "java/util/List") ∈ flatC narrow_1 := List.mem_of_elem_eq_true (by decide +kernel)
theorem sn_worth {cls target : String} {args : Array Value} {s : State} (hno : s.vm.findClass cls = none) : (Jvm.Cond.not (Jvm.Cond.castable cls target)).before args s ≠ true := by
  intro h
  simp [Jvm.Cond.before, Jvm.Cond.holds, Jvm.Cond.value, hno] at h
theorem sn_start_needs_the_array_class {args : Array Value} {s : State} (h : (Jvm.Cond.and given_1 narrow_1).before args s = true) : s.vm.findClass "[Ljava/lang/StackTraceElement;" ≠ none := by
  intro hno
  rw [Cond.before_and, Bool.and_eq_true] at h
  exact sn_worth hno (flat_of_before narrow_1 h.2 _ sn_mem_String)
end
