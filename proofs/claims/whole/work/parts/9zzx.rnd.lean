/-! the reduction ends within a million rounds -/
theorem rndA : RND := rnd_of_tree tre
