/-! the reduction ends within a million rounds (owed) -/
theorem rnd : RND := by
  sorry
