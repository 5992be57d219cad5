/-! the last stretch: a = b; any state; the end -/
theorem stepC {u : S6} {n : Nat} (ihS : ∀ k, k < n → clS u k) (ihC : ∀ k, k < n → clC u k) : clC u n := by
  intro a c x y z E h r E0 hE
  have a0 := h.1.bd.1.1
  have D0 : tT u ≤ a + a + c := (Red.k r h.1).2.1
  by_cases far : a + a + c - tT u ≤ 60000
  · have := near_n h.1 r far; omega
  obtain ⟨fr, bc, f0⟩ := sm_far h r far
  obtain ⟨k, a', b', c', x', y', z', rfl, L, r', o', e'⟩ := sm_rnd h bc f0 r
  have a1 := h.2.2.2.2.1
  have xy := h.2.2.2.1 rfl
  rcases ls_cases h L with ⟨hcx, hx, ea, eb, ec, ez, hd⟩ | ⟨ncx, hx, hcy, hy, ea, eb, ec, ez, hd⟩ | ⟨_, ncy, hx, hy, ea, eb, ec⟩ | ⟨_, ncy, hx, hy, hz⟩
  · -- an x-step
    rw [ea, eb, ec, ez] at r' o' e'
    rw [ez] at L
    rcases nxS o' e' r' (by omega) (by omega) (by omega) with w | ⟨a2, b2, x1, y1, z1, h1, r1, sw, sz1, sg1⟩
    · omega
    have e2 : a2 = a ∧ b2 = a := by omega
    obtain ⟨e2, e2'⟩ := e2
    subst e2' e2
    have xs : sz x' = sz x - 2 * a2 ∨ (sz x' = 2 * a2 - sz x ∧ sz x ≤ 2 * a2) := by
      have s1 := sz_c x; have s2 := sz_c x'
      omega
    have le : sz x1 ≤ sz x' := by omega
    have tie : cx (a2, a2, a2 + c - sz x, x1, y1, z1) → ¬ sz x = a2 := fun w t => by
      have w2 : a2 < sz x1 ∨ (x1 = a2 ∧ 2 * y1 < z1) ∨ (x1 = -a2 ∧ z1 < 0) := w
      have s3 := sz_c x1
      rcases sw with ⟨_, _, _, e3, e4⟩ | ⟨q, _, _, e3, e4⟩
      · exact tieX a0 hcx t hd e3 e4 sz1 sg1 w
      · omega
    have big : cx (a2, a2, a2 + c - sz x, x1, y1, z1) → sz x1 ≤ sz x - 2 * a2 := fun w => by
      have t := tie w
      have w2 : a2 < sz x1 ∨ (x1 = a2 ∧ 2 * y1 < z1) ∨ (x1 = -a2 ∧ z1 < 0) := w
      have s3 := sz_c x1
      omega
    by_cases q : sz x + a2 < 2 * (a2 * E) + 2 * a2
    · have E1 : 0 < E := by
        apply mlt (a := a2) (by omega)
        omega
      have eE : a2 * (E - 1) = a2 * E - a2 := by grind
      have s := ihC k (by omega) a2 _ x1 y1 z1 (E - 1) h1 r1 (by omega) (fun w => by have := big w; omega)
      omega
    · have q12 : 12 ≤ E := by
        have := hE hcx
        omega
      have m12 : a2 * 12 ≤ a2 * E := Int.mul_le_mul_of_nonneg_left q12 (by omega)
      have s := ihC k (by omega) a2 _ x1 y1 z1 E h1 r1 (by omega) (fun w => Or.inr q12)
      omega
  · -- a y-step
    rw [ea, eb, ec, ez] at r' o' e'
    rcases nxS o' e' r' (by omega) (by omega) (by omega) with w | ⟨a2, b2, x1, y1, z1, h1, r1, sw, sz1, sg1⟩
    · omega
    have e2 : a2 = a ∧ b2 = a := by omega
    obtain ⟨e2, e2'⟩ := e2
    subst e2' e2
    by_cases dear : a2 + 91 ≤ sz y
    · have s := ihC k (by omega) a2 _ x1 y1 z1 12 h1 r1 (by omega) (fun w => Or.inr (by omega))
      omega
    · -- a cheap one: the next is dear
      have hP : 0 < 4 * (a2 * a2) - z * z := by have ho : PD a2 a2 c x y z := h.1; have := ho.2.2.2.1; omega
      have zev := (sz_ev h.2.1.2.2).1
      have sx := sz_c x; have sy := sz_c y; have szz := sz_c z; have sx' := sz_c x'; have sy' := sz_c y'
      have big : a2 + 200 ≤ sz x' := by
        rcases hd with ⟨g1, g2, g3, h1, h2⟩ | ⟨g1, g2, g3, h1, h2⟩
        · have := (sm_c (X := x) (Y := y) (Z := z) (by omega) a1 (by omega) (by omega) (by omega) (by omega) (by omega) hP (by omega)).1 fr
          omega
        · have ee : ∀ v : Int, v * v = -v * -v := fun v => by grind
          have e3 : x * y * z = -(-x * -y * -z) := by grind
          rw [ee z] at hP
          rw [ee z, ee y, ee x, e3] at fr
          have := (sm_c (X := -x) (Y := -y) (Z := -z) (by omega) a1 (by omega) (by omega) (by omega) (by omega) (by omega) hP (by omega)).2 (by omega)
          omega
      have zlt : sz z < 2 * a2 := by
        refine Int.not_le.mp fun w => ?_
        have s1 := sq_le (show 0 ≤ 2 * a2 by omega) w
        have s3 : 2 * a2 * (2 * a2) = 4 * (a2 * a2) := by grind
        rw [sz_mul z] at hP
        omega
      have a100 : 100 < a2 := by omega
      have yl : sz y' ≤ a2 := by omega
      rcases sw with ⟨q, _⟩ | ⟨q, _, _, e3, e4⟩
      · omega
      have ncx1 : ¬ cx (a2, a2, a2 + c - sz y, x1, y1, z1) := by
        by_cases t : sz y = a2
        · refine tieY (x1 := y1) a0 hcy t hd e4 e3 sz1 ?_
          rcases sg1 with ⟨p, k1, k2, k3⟩ | ⟨p, k1, k2, k3⟩
          · exact Or.inl ⟨p, k2, k1, k3⟩
          · exact Or.inr ⟨p, k2, k1, k3⟩
        · intro w
          have w : a2 < sz x1 ∨ (x1 = a2 ∧ 2 * y1 < z1) ∨ (x1 = -a2 ∧ z1 < 0) := w
          have s3 := sz_c x1
          omega
      by_cases far1 : a2 + a2 + (a2 + c - sz y) - tT u ≤ 60000
      · have := near_n h1.1 r1 far1
        omega
      obtain ⟨_, bc1, f1⟩ := sm_far h1 r1 far1
      obtain ⟨k2, a'', b'', c'', x'', y'', z'', rfl, L2, r'', o'', e''⟩ := sm_rnd h1 bc1 f1 r1
      have ncy1 : cy (a2, a2, a2 + c - sz y, x1, y1, z1) := Or.inl (by omega)
      rcases ls_cases h1 L2 with ⟨w, _⟩ | ⟨_, hx1, _, hy1, ea, eb, ec, ez, hd2⟩ | ⟨_, w, _⟩ | ⟨_, w, _⟩
      · exact absurd w ncx1
      · rw [ea, eb, ec, ez] at r'' o'' e''
        rcases nxS o'' e'' r'' (by omega) (by omega) (by omega) with w | ⟨a3, b3, x2, y2, z2, h2, r2, sw2, sz2, sg2⟩
        · omega
        have e5 : a3 = a2 ∧ b3 = a2 := by omega
        obtain ⟨e5, e5'⟩ := e5
        subst e5' e5
        have s := ihC k2 (by omega) a3 _ x2 y2 z2 12 h2 r2 (by omega) (fun w => Or.inr (by omega))
        omega
      · exact absurd ncy1 w
      · exact absurd ncy1 w
  · have hz := stepZ ihS (by omega) h fr hx hy ea eb ec f0 r' o' e'
    omega
  · have := sm_z h fr hx hy
    omega
theorem stepS {u : S6} {n : Nat} (ihS : ∀ k, k < n → clS u k) (B : clB u n) (C : clC u n) : clS u n := by
  intro a b c x y z E h r E0 hE
  have a0 := h.1.bd.1.1
  have a1 := h.2.2.2.2.1
  have b1 := h.2.2.2.2.2.1
  have ab := h.2.2.1
  by_cases e : a = b
  · subst e
    have := C a c x y z E h r E0 hE
    omega
  by_cases q : cx (a, b, c, x, y, z)
  · have D0 : tT u ≤ a + b + c := (Red.k r h.1).2.1
    by_cases far : a + b + c - tT u ≤ 60000
    · have := near_n h.1 r far; omega
    obtain ⟨fr, bc, f0⟩ := sm_far h r far
    obtain ⟨k, a', b', c', x', y', z', rfl, L, r', o', e'⟩ := sm_rnd h bc f0 r
    rcases ls_cases h L with ⟨hcx, hx, ea, eb, ec, ez, hd⟩ | ⟨w, _⟩ | ⟨w, _⟩ | ⟨w, _⟩
    · rw [ea, eb, ec, ez] at r' o' e'
      rcases nxS o' e' r' (by omega) (by omega) (by omega) with w | ⟨a2, b2, x1, y1, z1, h1, r1, sw, sz1, sg1⟩
      · omega
      rcases sw with ⟨_, e1, e2, e3, e4⟩ | ⟨w, _⟩
      · subst e1 e2
        have xs : sz x' = sz x - 2 * b2 ∨ (sz x' = 2 * b2 - sz x ∧ sz x ≤ 2 * b2) := by
          have s1 := sz_c x; have s2 := sz_c x'
          omega
        have big : cx (a2, b2, b2 + c - sz x, x1, y1, z1) → sz x1 ≤ sz x - 2 * b2 := fun w => by
          have w2 : b2 < sz x1 ∨ (x1 = b2 ∧ 2 * y1 < z1) ∨ (x1 = -b2 ∧ z1 < 0) := w
          have t : ¬ sz x = b2 := fun t => tieX (by omega) hcx t hd e3 e4 sz1 sg1 w
          have s3 := sz_c x1
          omega
        by_cases q : sz x + b2 < 2 * (b2 * E) + 2 * b2
        · have E1 : 0 < E := by
            apply mlt (a := b2) (by omega)
            omega
          have eE : b2 * (E - 1) = b2 * E - b2 := by grind
          have s := ihS k (by omega) a2 b2 _ x1 y1 z1 (E - 1) h1 r1 (by omega) (fun w => by have := big w; omega)
          omega
        · have q12 : 12 ≤ E := by
            have := hE hcx
            omega
          have m12 : b2 * 12 ≤ b2 * E := Int.mul_le_mul_of_nonneg_left q12 (by omega)
          have s := ihS k (by omega) a2 b2 _ x1 y1 z1 E h1 r1 (by omega) (fun w => Or.inr q12)
          omega
      · omega
    · exact absurd q w
    · exact absurd q w
    · exact absurd q w
  · obtain ⟨qq, k1, k3⟩ := fl_ex (y * y) (a := a) (by omega)
    obtain ⟨N, n1, n2⟩ := fl2_ex (sz y + a) (a := a) (by omega)
    have N0 : 0 ≤ N := by
      have : (0 : Int) < N + 1 := by
        apply mlt (a := a) (by omega)
        have e : a * (N + 1) = a * N + a := by grind
        have := sz_0 y
        omega
      omega
    have use := fun G w1 w2 => B a b c x y z N qq G h (by omega) q r N0 (fun _ => n2) k1 w1 w2
    have low : 7 * N - qq < 68 := by
      apply mlt (a := a) (by omega)
      have e : a * (7 * N - qq) = 7 * (a * N) - a * qq := by grind
      have s := sq_nn (sz y - 7)
      have e2 : (sz y - 7) * (sz y - 7) = sz y * sz y - 14 * sz y + 49 := by grind
      rw [← sz_mul y] at e2
      omega
    by_cases t : qq - 7 * N ≤ 400
    · have := use (qq - 7 * N) (Int.le_refl _) t
      omega
    · have := use 400 (by omega) (Int.le_refl _)
      omega
theorem cl_all (u : S6) : ∀ n k : Nat, k < n → clS u k ∧ clB u k ∧ clC u k
  | 0, k, h => absurd h (by omega)
  | n + 1, k, h => by
    have ih : ∀ j, j < k → clS u j ∧ clB u j ∧ clC u j := fun j hj => cl_all u n j (by omega)
    have B := stepB (n := k) (fun j hj => (ih j hj).1) (fun j hj => (ih j hj).2.1)
    have C := stepC (n := k) (fun j hj => (ih j hj).1) (fun j hj => (ih j hj).2.2)
    exact ⟨stepS (fun j hj => (ih j hj).1) B C, B, C⟩
/-- b below 4,300: the rounds to the end -/
theorem small_end {a b c x y z : Int} {n : Nat} {u : S6} (h : Sm a b c x y z) (r : Red n (a, b, c, x, y, z) u) : 7 * (n : Int) ≤ a + b + c - tT u + 2520205 := by
  have s := (cl_all u (n + 1) n (by omega)).1 a b c x y z 12 h r (by omega) (fun _ => Or.inr (by omega))
  have a1 := h.2.2.2.2.1
  have b1 := h.2.2.2.2.2.1
  omega
