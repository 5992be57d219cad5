/-! the reduction ends within a million rounds (owed) -/
theorem rndA : RND := by
  sorry
