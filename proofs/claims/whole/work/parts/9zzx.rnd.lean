/-! the reduction ends within a million rounds: owed is LW (9zzv) -/
theorem lw_owed : LW := by
  sorry
theorem rndA : RND := rnd_of_LW lw_owed
