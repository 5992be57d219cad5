/-! a round seen from a normalized state -/
/-- the three products have one sign -/
def Nrm (g : Bool) : S6 → Prop := fun (_, _, _, x, y, z) => if g then 0 < x ∧ 0 < y ∧ 0 < z else x ≤ 0 ∧ y ≤ 0 ∧ z ≤ 0
theorem sgR_ex (s : S6) : ∃ w, sgR s w := by
  by_cases h : cg s
  · exact ⟨_, Or.inl ⟨h, rfl⟩⟩
  · exact ⟨_, Or.inr ⟨h, rfl⟩⟩
theorem sgR_nrm {s w : S6} (h : sgR s w) : ∃ g, Nrm g w := by
  obtain ⟨a, b, c, x, y, z⟩ := s
  have := sz_c x; have := sz_c y; have := sz_c z
  rcases h with ⟨q, e⟩ | ⟨_, e⟩ <;> subst e
  · obtain ⟨_, h1, h2, h3⟩ := (show posi x y z from q)
    exact ⟨true, show 0 < sz x ∧ 0 < sz y ∧ 0 < sz z by omega⟩
  · exact ⟨false, show -sz x ≤ 0 ∧ -sz y ≤ 0 ∧ -sz z ≤ 0 by omega⟩
/-- what a state and its normal form share -/
def Abs (s w : S6) : Prop := s.1 = w.1 ∧ s.2.1 = w.2.1 ∧ s.2.2.1 = w.2.2.1 ∧ sz s.2.2.2.1 = sz w.2.2.2.1 ∧ sz s.2.2.2.2.1 = sz w.2.2.2.2.1 ∧ sz s.2.2.2.2.2 = sz w.2.2.2.2.2
theorem sgR_abs {s w : S6} (h : sgR s w) : Abs s w := by
  obtain ⟨a, b, c, x, y, z⟩ := s
  rcases h with ⟨q, e⟩ | ⟨_, e⟩ <;> subst e
  · exact ⟨rfl, rfl, rfl, (sz_sz x).symm, (sz_sz y).symm, (sz_sz z).symm⟩
  · exact ⟨rfl, rfl, rfl, (sz_nz x).symm, (sz_nz y).symm, (sz_nz z).symm⟩
theorem Abs.c1 {s w : S6} (h : Abs s w) : c1 s ↔ c1 w := by
  obtain ⟨a, b, c, x, y, z⟩ := s; obtain ⟨a', b', c', x', y', z'⟩ := w
  obtain ⟨h1, h2, h3, h4, h5, h6⟩ := h
  simp only at h1 h2 h3 h4 h5 h6
  show (b < a ∨ (a = b ∧ sz y < sz x)) ↔ (b' < a' ∨ (a' = b' ∧ sz y' < sz x'))
  rw [h1, h2, h4, h5]
theorem Abs.c2 {s w : S6} (h : Abs s w) : c2 s ↔ c2 w := by
  obtain ⟨a, b, c, x, y, z⟩ := s; obtain ⟨a', b', c', x', y', z'⟩ := w
  obtain ⟨h1, h2, h3, h4, h5, h6⟩ := h
  simp only at h1 h2 h3 h4 h5 h6
  show (c < b ∨ (b = c ∧ sz z < sz y)) ↔ (c' < b' ∨ (b' = c' ∧ sz z' < sz y'))
  rw [h2, h3, h5, h6]
theorem posi_sw1 {x y z : Int} : posi y x z ↔ posi x y z := by unfold posi; constructor <;> intro h <;> omega
theorem posi_sw2 {x y z : Int} : posi x z y ↔ posi x y z := by unfold posi; constructor <;> intro h <;> omega
theorem sgR_s1 {s w : S6} (h : sgR s w) : sgR (s1F s) (s1F w) := by
  obtain ⟨a, b, c, x, y, z⟩ := s
  rcases h with ⟨q, e⟩ | ⟨q, e⟩ <;> subst e
  · exact Or.inl ⟨posi_sw1.mpr q, rfl⟩
  · exact Or.inr ⟨fun k => q (posi_sw1.mp k), rfl⟩
theorem sgR_s2 {s w : S6} (h : sgR s w) : sgR (s2F s) (s2F w) := by
  obtain ⟨a, b, c, x, y, z⟩ := s
  rcases h with ⟨q, e⟩ | ⟨q, e⟩ <;> subst e
  · exact Or.inl ⟨posi_sw2.mpr q, rfl⟩
  · exact Or.inr ⟨fun k => q (posi_sw2.mp k), rfl⟩
theorem nrm_sgR {g : Bool} {w : S6} (h : Nrm g w) : sgR w w := by
  obtain ⟨a, b, c, x, y, z⟩ := w
  cases g
  · have h : x ≤ 0 ∧ y ≤ 0 ∧ z ≤ 0 := h
    refine Or.inr ⟨fun k => ?_, ?_⟩
    · have k : posi x y z := k
      unfold posi at k
      omega
    · show (a, b, c, x, y, z) = (a, b, c, -sz x, -sz y, -sz z)
      rw [szn h.1, szn h.2.1, szn h.2.2, Int.neg_neg, Int.neg_neg, Int.neg_neg]
  · have h : 0 < x ∧ 0 < y ∧ 0 < z := h
    refine Or.inl ⟨?_, ?_⟩
    · show posi x y z
      unfold posi
      omega
    · show (a, b, c, x, y, z) = (a, b, c, sz x, sz y, sz z)
      rw [szp (by omega : 0 ≤ x), szp (by omega : 0 ≤ y), szp (by omega : 0 ≤ z)]
/-- signs of three vectors that make a normal form -/
theorem flip_sgR {a b c x y z s u v : Int} (hs : U1 s) (hu : U1 u) (hv : U1 v) {g : Bool} (h : Nrm g (a, b, c, u * v * x, s * v * y, s * u * z)) : sgR (a, b, c, x, y, z) (a, b, c, u * v * x, s * v * y, s * u * z) := by
  have zx := sz_c x; have zy := sz_c y; have zz := sz_c z
  cases g
  · have h : u * v * x ≤ 0 ∧ s * v * y ≤ 0 ∧ s * u * z ≤ 0 := h
    have np : ¬ posi x y z := by
      intro k
      unfold posi at k
      rcases hs with e1 | e1 <;> rcases hu with e2 | e2 <;> rcases hv with e3 | e3 <;> subst e1 e2 e3 <;> omega
    refine Or.inr ⟨np, ?_⟩
    show (a, b, c, u * v * x, s * v * y, s * u * z) = (a, b, c, -sz x, -sz y, -sz z)
    have e1 : u * v * x = -sz x := by rcases hu with e2 | e2 <;> rcases hv with e3 | e3 <;> subst e2 e3 <;> omega
    have e2 : s * v * y = -sz y := by rcases hs with e2 | e2 <;> rcases hv with e3 | e3 <;> subst e2 e3 <;> omega
    have e3 : s * u * z = -sz z := by rcases hs with e2 | e2 <;> rcases hu with e3 | e3 <;> subst e2 e3 <;> omega
    rw [e1, e2, e3]
  · have h : 0 < u * v * x ∧ 0 < s * v * y ∧ 0 < s * u * z := h
    have np : posi x y z := by
      unfold posi
      rcases hs with e1 | e1 <;> rcases hu with e2 | e2 <;> rcases hv with e3 | e3 <;> subst e1 e2 e3 <;> omega
    refine Or.inl ⟨np, ?_⟩
    show (a, b, c, u * v * x, s * v * y, s * u * z) = (a, b, c, sz x, sz y, sz z)
    have e1 : u * v * x = sz x := by rcases hu with e2 | e2 <;> rcases hv with e3 | e3 <;> subst e2 e3 <;> omega
    have e2 : s * v * y = sz y := by rcases hs with e2 | e2 <;> rcases hv with e3 | e3 <;> subst e2 e3 <;> omega
    have e3 : s * u * z = sz z := by rcases hs with e2 | e2 <;> rcases hu with e3 | e3 <;> subst e2 e3 <;> omega
    rw [e1, e2, e3]
/-- the round behind the swap of the first two -/
theorem rnd_s1 {s w v : S6} {g : Bool} (h : sgR s w) (n : Nrm g w) (r : stR s v True) : ∃ s1 w1, ((c1 w ∧ w1 = s1F w) ∨ (¬ c1 w ∧ w1 = w)) ∧ sgR s1 w1 ∧ Nrm g w1 ∧ ((c2 w1 ∧ sgR v (s2F w1) ∧ tT v = tT w1) ∨ (¬ c2 w1 ∧ lsR w1 v True)) := by
  obtain ⟨s1, h1, r⟩ := r
  have key : ∀ w1, sgR s1 w1 → ((c2 w1 ∧ sgR v (s2F w1) ∧ tT v = tT w1) ∨ (¬ c2 w1 ∧ lsR w1 v True)) := fun w1 q => by
    rcases r with ⟨k, e, _⟩ | ⟨k, w2, hw, l⟩
    · subst e
      refine Or.inl ⟨(sgR_abs q).c2.mp k, sgR_s2 q, ?_⟩
      have a := sgR_abs q
      obtain ⟨a1, b1, c1, x1, y1, z1⟩ := s1
      obtain ⟨a2, b2, c2, x2, y2, z2⟩ := w1
      obtain ⟨q1, q2, q3, _⟩ := a
      show a1 + c1 + b1 = a2 + b2 + c2
      simp only at q1 q2 q3
      omega
    · have e := sgR_fn q hw
      subst e
      exact Or.inr ⟨fun w => k ((sgR_abs q).c2.mpr w), l⟩
  rcases h1 with ⟨k, e⟩ | ⟨k, e⟩ <;> subst e
  · refine ⟨_, s1F w, Or.inl ⟨(sgR_abs h).c1.mp k, rfl⟩, sgR_s1 h, ?_, key _ (sgR_s1 h)⟩
    obtain ⟨a, b, c, x, y, z⟩ := w
    cases g
    · have n : x ≤ 0 ∧ y ≤ 0 ∧ z ≤ 0 := n
      exact ⟨n.2.1, n.1, n.2.2⟩
    · have n : 0 < x ∧ 0 < y ∧ 0 < z := n
      exact ⟨n.2.1, n.1, n.2.2⟩
  · exact ⟨_, w, Or.inr ⟨fun q => k ((sgR_abs h).c1.mpr q), rfl⟩, h, n, key _ h⟩
