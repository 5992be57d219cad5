/-! the root of the tree: a sorted state, far, every beginning cheap -/
/-- some rounds pay for themselves and one more -/
def Prg (t : S6) : Prop := ∃ k v, 1 ≤ k ∧ Rn k t v ∧ 10 * (k : Int) + 10 ≤ tT t - tT v
/-- the sorted and signed form of a state, no swap of the last two at hand -/
def Nf (t m : S6) : Prop := ∃ v, s1R t v ∧ ¬ c2 v ∧ sgR v m
theorem Nf.k {t m : S6} (h : Nf t m) (ho : OKs t) : OKs m ∧ tT m = tT t ∧ ¬ c1 m ∧ ¬ c2 m ∧ (∃ g, Nrm g m) ∧ (Ev t → Ev m) ∧ sgR m m := by
  obtain ⟨v, hv, n2, hm⟩ := h
  have o1 : OKs v ∧ tT v = tT t ∧ ¬ c1 v := by
    rcases hv with ⟨p, e⟩ | ⟨p, e⟩ <;> subst e
    · refine ⟨OK_s1 ho, ?_, c1_s1 p⟩
      obtain ⟨a, b, c, x, y, z⟩ := t
      show b + a + c = a + b + c
      omega
    · exact ⟨ho, rfl, p⟩
  have ab := sgR_abs hm
  obtain ⟨g, ng⟩ := sgR_nrm hm
  refine ⟨?_, ?_, fun w => o1.2.2 (ab.c1.mpr w), fun w => n2 (ab.c2.mpr w), ⟨g, ng⟩, fun q => (sgR_k hm).1 ((s1R_k hv).1 q), nrm_sgR ng⟩
  · rcases hm with ⟨p, e⟩ | ⟨p, e⟩ <;> subst e
    · exact OK_p o1.1 p
    · exact OK_n o1.1 p
  · rw [← o1.2.1]
    obtain ⟨a, b, c, x, y, z⟩ := v
    obtain ⟨a', b', c', x', y', z'⟩ := m
    obtain ⟨q1, q2, q3, _⟩ := ab
    simp only at q1 q2 q3
    show a' + b' + c' = a + b + c
    omega
theorem Nf.st {t m v : S6} {M : Prop} (h : Nf t m) (r : stR t v M) : lsR m v M := by
  obtain ⟨w, hw, n2, hm⟩ := h
  obtain ⟨w', hw', r⟩ := r
  have e := s1R_fn hw hw'
  subst e
  rcases r with ⟨p, _⟩ | ⟨_, w2, hw2, l⟩
  · exact absurd p n2
  · rw [sgR_fn hm hw2]; exact l
theorem Nf.of {t m v : S6} {M : Prop} (h : Nf t m) (r : lsR m v M) : stR t v M := by
  obtain ⟨w, hw, n2, hm⟩ := h
  exact ⟨w, hw, Or.inr ⟨n2, m, hm, r⟩⟩
theorem db_hfm {m : S6} (h : Ev m) : db (hf m) = m := by
  obtain ⟨a, b, c, x, y, z⟩ := m
  obtain ⟨h1, h2, h3⟩ := h
  show (a, b, c, 2 * (x / 2), 2 * (y / 2), 2 * (z / 2)) = (a, b, c, x, y, z)
  rw [show 2 * (x / 2) = x by omega, show 2 * (y / 2) = y by omega, show 2 * (z / 2) = z by omega]
theorem onB_1 (m : S6) : onB m (1, 0, 0) (0, 1, 0) (0, 0, 1) = m := by
  obtain ⟨a, b, c, x, y, z⟩ := m
  simp only [onB, qv, bv]
  refine Prod.ext (by simp) (Prod.ext (by simp) (Prod.ext (by simp) (Prod.ext (by simp) (Prod.ext (by simp) (by simp)))))
theorem root_F {t m u : S6} {n : Nat} (ho : OKs t) (ev : Ev t) (hm : Nf t m) (r : Red n t u) (far : 120000 < tT t - tT u) (np : ¬ Prg t) : ∃ g, Nrm g m ∧ Env t (hf m) u ∧ Fz2 t (hf m) u g 0 (1, 0, 0) (0, 1, 0) (0, 0, 1) [tR0] := by
  obtain ⟨om, eT, n1, n2, ⟨g, ng⟩, evm, _⟩ := hm.k ho
  have e := db_hfm (evm ev)
  refine ⟨g, ng, ⟨by rw [e]; exact om, ho, by rw [e, eT], far, fun k v hk hr => Int.not_le.mp fun w => np ⟨k, v, hk, hr, w⟩⟩, ?_⟩
  unfold Fz2
  rw [e, onB_1]
  cases n with
  | zero =>
    have := red0_T r
    omega
  | succ n =>
    obtain ⟨v, h1, h2⟩ := r
    refine ⟨om, n, v, ⟨v, h1, rfl⟩, h2, ng, n1, Or.inr ⟨n2, hm.st h1⟩, ⟨by omega, by omega⟩, ⟨t, ho, ?_, ⟨v, h1, rfl⟩⟩, trivial⟩
    rw [← eT]
    obtain ⟨a, b, c, x, y, z⟩ := m
    show a + b + c = 1 * a + 1 * b + 1 * c + 0 * (x / 2) + 0 * (y / 2) + 0 * (z / 2) + 0
    omega
