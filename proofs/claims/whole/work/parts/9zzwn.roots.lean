/-! the roots of the tree, printed by wip/red/lp/roots.py -/
theorem ro_l0 : cxN tx_l0_12 = (2, false, 0, (1, 0, 0), (0, 1, 0), (0, 0, 1), [(1, 0, 0, 0, 0, 0, (-1300)), (0, (-1), 1, 0, 0, 0, 0), (1, 1, 1, 0, 0, 0, (-120001)), (0, 0, 0, 0, 0, (-1), 0), (0, 0, 0, 0, (-1), 0, 0), (0, 0, 0, (-1), 0, 0, 0), ((-1), 1, 0, 0, 0, 0, 0)], [tR0]) := cbq_e (by decide +kernel)
theorem ro_l1 : cxN tx_l1_17 = (2, true, 0, (1, 0, 0), (0, 1, 0), (0, 0, 1), [(1, 0, 0, 0, 0, 0, (-1300)), (0, (-1), 1, 0, 0, 0, 0), (1, 1, 1, 0, 0, 0, (-120001)), (0, 0, 0, 0, 0, 1, (-1)), (0, 0, 0, 0, 1, 0, (-1)), (0, 0, 0, 1, 0, 0, (-1)), ((-1), 1, 0, 0, 0, 0, 0)], [tR0]) := cbq_e (by decide +kernel)
theorem ro_m0 : cxN tx_m0_3 = (2, false, 0, (1, 0, 0), (0, 1, 0), (0, 0, 1), [(0, 1, 0, 0, 0, 0, (-4300)), ((-1), 0, 0, 0, 0, 0, 1300), (1, 0, 0, 0, 0, 0, (-20)), (0, (-1), 1, 0, 0, 0, 0), (1, 1, 1, 0, 0, 0, (-120001)), (0, 0, 0, 0, 0, (-1), 0), (0, 0, 0, 0, (-1), 0, 0), (0, 0, 0, (-1), 0, 0, 0), ((-1), 1, 0, 0, 0, 0, 0)], [tR0]) := cbq_e (by decide +kernel)
theorem ro_m1 : cxN tx_m1_2 = (2, true, 0, (1, 0, 0), (0, 1, 0), (0, 0, 1), [(0, 1, 0, 0, 0, 0, (-4300)), ((-1), 0, 0, 0, 0, 0, 1300), (1, 0, 0, 0, 0, 0, (-20)), (0, (-1), 1, 0, 0, 0, 0), (1, 1, 1, 0, 0, 0, (-120001)), (0, 0, 0, 0, 0, 1, (-1)), (0, 0, 0, 0, 1, 0, (-1)), (0, 0, 0, 1, 0, 0, (-1)), ((-1), 1, 0, 0, 0, 0, 0)], [tR0]) := cbq_e (by decide +kernel)
theorem ro_t0 : cxN tx_t0_5 = (2, false, 0, (1, 0, 0), (0, 1, 0), (0, 0, 1), [(0, 1, 0, 0, 0, 0, (-4300)), ((-1), 0, 0, 0, 0, 0, 19), (1, 0, 0, 0, 0, 0, (-4)), (0, (-1), 1, 0, 0, 0, 0), (1, 1, 1, 0, 0, 0, (-120001)), (0, 0, 0, 0, 0, (-1), 0), (0, 0, 0, 0, (-1), 0, 0), (0, 0, 0, (-1), 0, 0, 0), ((-1), 1, 0, 0, 0, 0, 0)], [tR0]) := cbq_e (by decide +kernel)
theorem ro_t1 : cxN tx_t1_4 = (2, true, 0, (1, 0, 0), (0, 1, 0), (0, 0, 1), [(0, 1, 0, 0, 0, 0, (-4300)), ((-1), 0, 0, 0, 0, 0, 19), (1, 0, 0, 0, 0, 0, (-4)), (0, (-1), 1, 0, 0, 0, 0), (1, 1, 1, 0, 0, 0, (-120001)), (0, 0, 0, 0, 0, 1, (-1)), (0, 0, 0, 0, 1, 0, (-1)), (0, 0, 0, 1, 0, 0, (-1)), ((-1), 1, 0, 0, 0, 0, 0)], [tR0]) := cbq_e (by decide +kernel)
theorem ro_u0 : cxN tx_u0_16 = (2, false, 0, (1, 0, 0), (0, 1, 0), (0, 0, 1), [(0, 1, 0, 0, 0, 0, (-4300)), ((-1), 0, 0, 0, 0, 0, 3), (1, 0, 0, 0, 0, 0, (-1)), (0, (-1), 1, 0, 0, 0, 0), (1, 1, 1, 0, 0, 0, (-120001)), (0, 0, 0, 0, 0, (-1), 0), (0, 0, 0, 0, (-1), 0, 0), (0, 0, 0, (-1), 0, 0, 0), ((-1), 1, 0, 0, 0, 0, 0)], [tR0]) := cbq_e (by decide +kernel)
theorem ro_u1 : cxN tx_u1_14 = (2, true, 0, (1, 0, 0), (0, 1, 0), (0, 0, 1), [(0, 1, 0, 0, 0, 0, (-4300)), ((-1), 0, 0, 0, 0, 0, 3), (1, 0, 0, 0, 0, 0, (-1)), (0, (-1), 1, 0, 0, 0, 0), (1, 1, 1, 0, 0, 0, (-120001)), (0, 0, 0, 0, 0, 1, (-1)), (0, 0, 0, 0, 1, 0, (-1)), (0, 0, 0, 1, 0, 0, (-1)), ((-1), 1, 0, 0, 0, 0, 0)], [tR0]) := cbq_e (by decide +kernel)
theorem tre : TRE := fun t m u n ho ev hm r far big => by
  refine Classical.byContradiction fun np => ?_
  obtain ⟨g, ng, E, F⟩ := root_F ho ev hm r far np
  obtain ⟨om, eT, n1, n2, _, evm, _⟩ := hm.k ho
  have u0 := tT_pos (Red.k r ho).1
  have ev := evm ev
  obtain ⟨a, b, c, x, y, z⟩ := m
  have n1 : ¬ (b < a ∨ (a = b ∧ sz y < sz x)) := n1
  have n2 : ¬ (c < b ∨ (b = c ∧ sz z < sz y)) := n2
  have eT : a + b + c = tT t := eT
  have big : 1300 ≤ a ∨ 4300 ≤ b := big
  have a0 := om.bd.1.1
  obtain ⟨e1, e2, e3⟩ := ev
  cases g
  · have ng : x ≤ 0 ∧ y ≤ 0 ∧ z ≤ 0 := ng
    by_cases q1 : 1300 ≤ a
    · have w := tr_l0_12 E
      unfold Rf at w
      rw [ro_l0] at w
      refine w ⟨⟨?_, ?_, ?_, ?_, ?_, ?_, ?_, trivial⟩, F⟩ <;> simp only [hf, rwv] <;> omega
    · by_cases q2 : 20 ≤ a
      · have w := tr_m0_3 E
        unfold Rf at w
        rw [ro_m0] at w
        refine w ⟨⟨?_, ?_, ?_, ?_, ?_, ?_, ?_, ?_, ?_, trivial⟩, F⟩ <;> simp only [hf, rwv] <;> omega
      · by_cases q3 : 4 ≤ a
        · have w := tr_t0_5 E
          unfold Rf at w
          rw [ro_t0] at w
          refine w ⟨⟨?_, ?_, ?_, ?_, ?_, ?_, ?_, ?_, ?_, trivial⟩, F⟩ <;> simp only [hf, rwv] <;> omega
        · have w := tr_u0_16 E
          unfold Rf at w
          rw [ro_u0] at w
          refine w ⟨⟨?_, ?_, ?_, ?_, ?_, ?_, ?_, ?_, ?_, trivial⟩, F⟩ <;> simp only [hf, rwv] <;> omega
  · have ng : 0 < x ∧ 0 < y ∧ 0 < z := ng
    by_cases q1 : 1300 ≤ a
    · have w := tr_l1_17 E
      unfold Rf at w
      rw [ro_l1] at w
      refine w ⟨⟨?_, ?_, ?_, ?_, ?_, ?_, ?_, trivial⟩, F⟩ <;> simp only [hf, rwv] <;> omega
    · by_cases q2 : 20 ≤ a
      · have w := tr_m1_2 E
        unfold Rf at w
        rw [ro_m1] at w
        refine w ⟨⟨?_, ?_, ?_, ?_, ?_, ?_, ?_, ?_, ?_, trivial⟩, F⟩ <;> simp only [hf, rwv] <;> omega
      · by_cases q3 : 4 ≤ a
        · have w := tr_t1_4 E
          unfold Rf at w
          rw [ro_t1] at w
          refine w ⟨⟨?_, ?_, ?_, ?_, ?_, ?_, ?_, ?_, ?_, trivial⟩, F⟩ <;> simp only [hf, rwv] <;> omega
        · have w := tr_u1_14 E
          unfold Rf at w
          rw [ro_u1] at w
          refine w ⟨⟨?_, ?_, ?_, ?_, ?_, ?_, ?_, ?_, ?_, trivial⟩, F⟩ <;> simp only [hf, rwv] <;> omega
