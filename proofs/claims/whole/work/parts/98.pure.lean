/-- what is still owed -/
theorem rb_pure : rb_Pure := sorry
