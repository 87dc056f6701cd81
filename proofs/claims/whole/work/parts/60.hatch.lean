/-! t -/
theorem zzt : 1 = 1 := rfl
