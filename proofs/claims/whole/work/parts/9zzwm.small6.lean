/-! the two stretches together -/
theorem rn_red : ∀ {k n : Nat} {t v u : S6}, Rn k t v → Red n t u → ∃ j, n = k + j ∧ Red j v u
  | 0, n, t, v, u, h, r => by
    have h : t = v := h
    subst h
    exact ⟨n, by omega, r⟩
  | k + 1, 0, t, v, u, ⟨w, g, h⟩, r => absurd trivial (stR_fn g (show stR t u False from r)).2.mp
  | k + 1, n + 1, t, v, u, ⟨w, g, h⟩, ⟨w', g', r⟩ => by
    have e := (stR_fn g g').1
    subst e
    obtain ⟨j, e, r⟩ := rn_red h r
    exact ⟨j, by omega, r⟩
/-- sorted, or sorted behind one swap of the last two -/
theorem srt_dec (t : S6) : (∃ m, Nf t m) ∨ ∃ v, stR t v True ∧ tT v = tT t ∧ ∃ m, Nf v m := by
  obtain ⟨a, b, c, x, y, z⟩ := t
  have key : ∀ a1 b1 x1 y1 : Int, s1R (a, b, c, x, y, z) (a1, b1, c, x1, y1, z) → (((b < a ∨ (a = b ∧ sz y < sz x)) ∧ a1 = b ∧ b1 = a ∧ x1 = y ∧ y1 = x) ∨ (¬ (b < a ∨ (a = b ∧ sz y < sz x)) ∧ a1 = a ∧ b1 = b ∧ x1 = x ∧ y1 = y)) → (∃ m, Nf (a, b, c, x, y, z) m) ∨ ∃ v, stR (a, b, c, x, y, z) v True ∧ tT v = tT (a, b, c, x, y, z) ∧ ∃ m, Nf v m := by
    intro a1 b1 x1 y1 h s
    by_cases q : c2 (a1, b1, c, x1, y1, z)
    · right
      refine ⟨(a1, c, b1, x1, z, y1), ⟨_, h, Or.inl ⟨q, rfl, trivial⟩⟩, ?_, ?_⟩
      · show a1 + c + b1 = a + b + c
        omega
      · have S : ((b < a ∨ (a = b ∧ sz y < sz x)) ∧ a1 = b ∧ b1 = a ∧ sz x1 = sz y ∧ sz y1 = sz x) ∨ (¬ (b < a ∨ (a = b ∧ sz y < sz x)) ∧ a1 = a ∧ b1 = b ∧ sz x1 = sz x ∧ sz y1 = sz y) :=
          s.imp (fun ⟨q, r1, r2, r3, r4⟩ => ⟨q, r1, r2, by rw [r3], by rw [r4]⟩) (fun ⟨q, r1, r2, r3, r4⟩ => ⟨q, r1, r2, by rw [r3], by rw [r4]⟩)
        by_cases q2 : c < a1 ∨ (a1 = c ∧ sz z < sz x1)
        · obtain ⟨m, hm⟩ := sgR_ex (c, a1, b1, z, x1, y1)
          exact ⟨m, (c, a1, b1, z, x1, y1), Or.inl ⟨q2, rfl⟩, fun p' => swsw S q (Or.inl ⟨q2, rfl, rfl, rfl, rfl⟩) p', hm⟩
        · obtain ⟨m, hm⟩ := sgR_ex (a1, c, b1, x1, z, y1)
          exact ⟨m, (a1, c, b1, x1, z, y1), Or.inr ⟨q2, rfl⟩, fun p' => swsw S q (Or.inr ⟨q2, rfl, rfl, rfl, rfl⟩) p', hm⟩
    · left
      obtain ⟨m, hm⟩ := sgR_ex (a1, b1, c, x1, y1, z)
      exact ⟨m, _, h, q, hm⟩
  by_cases q : b < a ∨ (a = b ∧ sz y < sz x)
  · exact key b a y x (Or.inl ⟨q, rfl⟩) (Or.inl ⟨q, rfl, rfl, rfl, rfl⟩)
  · exact key a b x y (Or.inr ⟨q, rfl⟩) (Or.inr ⟨q, rfl, rfl, rfl, rfl⟩)
/-- what the tree shows -/
def TRE : Prop := ∀ (t m u : S6) (n : Nat), OKs t → Ev t → Nf t m → Red n t u → 120000 < tT t - tT u → (1300 ≤ m.1 ∨ 4300 ≤ m.2.1) → Prg t
theorem srt_small {t m u : S6} {n : Nat} (ho : OKs t) (ev : Ev t) (hm : Nf t m) (r : Red n t u) (nb : ¬ (1300 ≤ m.1 ∨ 4300 ≤ m.2.1)) : 7 * (n : Int) ≤ tT t - tT u + 2520205 := by
  obtain ⟨om, eT, n1, n2, ⟨g, ng⟩, evm, _⟩ := hm.k ho
  have r' := nf_red hm ho r
  obtain ⟨a, b, c, x, y, z⟩ := m
  have n1 : ¬ (b < a ∨ (a = b ∧ sz y < sz x)) := n1
  have nb : ¬ (1300 ≤ a ∨ 4300 ≤ b) := nb
  have eT : a + b + c = tT t := eT
  have sg : (0 < x ∧ 0 < y ∧ 0 < z) ∨ (x ≤ 0 ∧ y ≤ 0 ∧ z ≤ 0) := by
    cases g
    · exact Or.inr ng
    · exact Or.inl ng
  have s := small_end (a := a) (b := b) (c := c) (x := x) (y := y) (z := z) ⟨om, evm ev, by omega, by omega, by omega, by omega, sg⟩ r'
  omega
theorem all_end (T : TRE) (u : S6) : ∀ (N n : Nat), n < N → ∀ (t : S6), OKs t → Ev t → tT t ≤ 4400000 → Red n t u → 10 * (n : Int) ≤ tT t - tT u + 5486100
  | 0, n, h, _, _, _, _, _ => absurd h (by omega)
  | N + 1, n, h, t, ho, ev, hT, r => by
    have u0 := tT_pos (Red.k r ho).1
    have D0 := (Red.k r ho).2.1
    by_cases far : tT t - tT u ≤ 120000
    · have := (red5 n t u ho r).1
      omega
    rcases srt_dec t with ⟨m, hm⟩ | ⟨v, g, eT, m, hm⟩
    · by_cases big : 1300 ≤ m.1 ∨ 4300 ≤ m.2.1
      · obtain ⟨k, w, k1, hr, dr⟩ := T t m u n ho ev hm r (by omega) big
        obtain ⟨j, e, r'⟩ := rn_red hr r
        have ok := hr.ok ho
        have := all_end T u N j (by omega) w ok.1 (ok.2.2 ev) (by omega) r'
        omega
      · have := srt_small ho ev hm r big
        omega
    · obtain ⟨j, e, r'⟩ := rn_red (k := 1) ⟨v, g, rfl⟩ r
      have ok := stR_ok g ho
      have evv := (stR_k g).1 ev
      by_cases big : 1300 ≤ m.1 ∨ 4300 ≤ m.2.1
      · obtain ⟨k, w, k1, hr, dr⟩ := T v m u j ok.1 evv hm r' (by omega) big
        obtain ⟨j2, e2, r2⟩ := rn_red hr r'
        have ok2 := hr.ok ok.1
        have := all_end T u N j2 (by omega) w ok2.1 (ok2.2.2 evv) (by omega) r2
        omega
      · have := srt_small ok.1 evv hm r' big
        omega
theorem rnd_of_tree (T : TRE) : RND := fun t n u ho ev hT r => by
  have a := all_end T u (n + 1) n (by omega) t ho ev hT r
  have b := tT_pos (Red.k r ho).1
  omega
