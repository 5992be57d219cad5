/-! the reduction ends within a million rounds: owed above 249,999 -/
theorem rnd_big {t u : S6} {n : Nat} (ho : OKs t) (ev : Ev t) (h1 : 249999 < tT t) (h2 : tT t ≤ 4400000) (h : Red n t u) : n < 1000000 := by
  sorry
theorem rndA : RND := fun t n u ho ev hT h => by
  by_cases q : tT t ≤ 249999
  · exact rnd_small ho q h
  · exact rnd_big ho ev (by omega) hT h
