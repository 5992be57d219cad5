/-! the last stretch: states, rounds -/
theorem nf_red {t m u : S6} (h : Nf t m) (ho : OKs t) : ∀ {k : Nat}, Red k t u → Red k m u := by
  obtain ⟨_, _, n1, n2, _, _, sm⟩ := h.k ho
  have hm : Nf m m := ⟨m, Or.inr ⟨n1, rfl⟩, n2, sm⟩
  intro k r
  cases k with
  | zero => exact hm.of (h.st (show stR t u False from r))
  | succ k =>
    obtain ⟨v, h1, h2⟩ := r
    exact ⟨v, hm.of (h.st h1), h2⟩
/-- sorted and signed, the first two small -/
def Sm (a b c x y z : Int) : Prop := OKs (a, b, c, x, y, z) ∧ Ev (a, b, c, x, y, z) ∧ a ≤ b ∧ (a = b → sz x ≤ sz y) ∧ a < 1300 ∧ b < 4300 ∧ ((0 < x ∧ 0 < y ∧ 0 < z) ∨ (x ≤ 0 ∧ y ≤ 0 ∧ z ≤ 0))
theorem Sm.nf {a b c x y z : Int} (h : Sm a b c x y z) (bc : b < c) : Nf (a, b, c, x, y, z) (a, b, c, x, y, z) := by
  obtain ⟨_, _, ab, e, _, _, g⟩ := h
  refine ⟨_, Or.inr ⟨?_, rfl⟩, ?_, ?_⟩
  · intro w
    have w : b < a ∨ (a = b ∧ sz y < sz x) := w
    omega
  · intro w
    have w : c < b ∨ (b = c ∧ sz z < sz y) := w
    omega
  · rcases g with g | g
    · exact nrm_sgR (g := true) g
    · exact nrm_sgR (g := false) g
theorem near_n {t u : S6} {k : Nat} (ho : OKs t) (r : Red k t u) (h : tT t - tT u ≤ 60000) : 7 * (k : Int) ≤ 1680021 := by
  have := (red5 k t u ho r).1
  omega
theorem sm_rnd {a b c x y z : Int} {n : Nat} {u : S6} (h : Sm a b c x y z) (bc : b < c) (far : 0 < a + b + c - tT u) (r : Red n (a, b, c, x, y, z) u) : ∃ k a' b' c' x' y' z', n = k + 1 ∧ LsN a b c x y z a' b' c' x' y' z' ∧ Red k (a', b', c', x', y', z') u ∧ OKs (a', b', c', x', y', z') ∧ Ev (a', b', c', x', y', z') := by
  cases n with
  | zero =>
    have e := red0_T r
    have e : tT u = a + b + c := e
    omega
  | succ k =>
    obtain ⟨v, h1, h2⟩ := r
    have l := (h.nf bc).st h1
    have bd := h.1.bd
    obtain ⟨a', b', c', x', y', z', rfl, L⟩ := ls_lin bd.1.1 bd.1.2.1 l
    exact ⟨k, a', b', c', x', y', z', rfl, L, h2, (stR_ok h1 h.1).1, (stR_k h1).1 h.2.1⟩
theorem sm_nx {a b c x y z : Int} {k : Nat} {u : S6} (ho : OKs (a, b, c, x, y, z)) (ev : Ev (a, b, c, x, y, z)) (r : Red k (a, b, c, x, y, z) u) (ha : a < c) (hb : b < c) (h1 : a < 4300) (h2 : b < 4300) (h3 : a < 1300 ∨ b < 1300) :
    ∃ a1 b1 x1 y1 z1, Sm a1 b1 c x1 y1 z1 ∧ Red k (a1, b1, c, x1, y1, z1) u ∧ ((¬ (b < a ∨ (a = b ∧ sz y < sz x)) ∧ a1 = a ∧ b1 = b ∧ sz x1 = sz x ∧ sz y1 = sz y) ∨ ((b < a ∨ (a = b ∧ sz y < sz x)) ∧ a1 = b ∧ b1 = a ∧ sz x1 = sz y ∧ sz y1 = sz x)) ∧ sz z1 = sz z ∧ ((posi x y z ∧ 0 < x1 ∧ 0 < y1 ∧ 0 < z1) ∨ (¬ posi x y z ∧ x1 ≤ 0 ∧ y1 ≤ 0 ∧ z1 ≤ 0)) := by
  by_cases q : b < a ∨ (a = b ∧ sz y < sz x)
  · have n2 : ¬ c2 (b, a, c, y, x, z) := fun w => by
      have w : c < a ∨ (a = c ∧ sz z < sz x) := w
      omega
    have sx := sz_c x; have sy := sz_c y; have szz := sz_c z
    by_cases p : posi x y z
    · have nf : Nf (a, b, c, x, y, z) (b, a, c, sz y, sz x, sz z) := ⟨_, Or.inl ⟨q, rfl⟩, n2, Or.inl ⟨posi_sw1.mpr p, rfl⟩⟩
      obtain ⟨o, _, _, _, _, e, _⟩ := nf.k ho
      have pp : 0 < sz x ∧ 0 < sz y ∧ 0 < sz z := by unfold posi at p; omega
      exact ⟨b, a, sz y, sz x, sz z, ⟨o, e ev, by omega, fun w => by rw [sz_sz, sz_sz]; omega, by omega, h1, Or.inl ⟨pp.2.1, pp.1, pp.2.2⟩⟩, nf_red nf ho r, Or.inr ⟨q, rfl, rfl, sz_sz y, sz_sz x⟩, sz_sz z, Or.inl ⟨p, pp.2.1, pp.1, pp.2.2⟩⟩
    · have nf : Nf (a, b, c, x, y, z) (b, a, c, -sz y, -sz x, -sz z) := ⟨_, Or.inl ⟨q, rfl⟩, n2, Or.inr ⟨fun w => p (posi_sw1.mp w), rfl⟩⟩
      obtain ⟨o, _, _, _, _, e, _⟩ := nf.k ho
      have pp : -sz x ≤ 0 ∧ -sz y ≤ 0 ∧ -sz z ≤ 0 := by omega
      exact ⟨b, a, -sz y, -sz x, -sz z, ⟨o, e ev, by omega, fun w => by rw [sz_nz, sz_nz]; omega, by omega, h1, Or.inr ⟨pp.2.1, pp.1, pp.2.2⟩⟩, nf_red nf ho r, Or.inr ⟨q, rfl, rfl, sz_nz y, sz_nz x⟩, sz_nz z, Or.inr ⟨p, pp.2.1, pp.1, pp.2.2⟩⟩
  · have n2 : ¬ c2 (a, b, c, x, y, z) := fun w => by
      have w : c < b ∨ (b = c ∧ sz z < sz y) := w
      omega
    have sx := sz_c x; have sy := sz_c y; have szz := sz_c z
    by_cases p : posi x y z
    · have nf : Nf (a, b, c, x, y, z) (a, b, c, sz x, sz y, sz z) := ⟨_, Or.inr ⟨q, rfl⟩, n2, Or.inl ⟨p, rfl⟩⟩
      obtain ⟨o, _, _, _, _, e, _⟩ := nf.k ho
      have pp : 0 < sz x ∧ 0 < sz y ∧ 0 < sz z := by unfold posi at p; omega
      exact ⟨a, b, sz x, sz y, sz z, ⟨o, e ev, by omega, fun w => by rw [sz_sz, sz_sz]; omega, by omega, h2, Or.inl pp⟩, nf_red nf ho r, Or.inl ⟨q, rfl, rfl, sz_sz x, sz_sz y⟩, sz_sz z, Or.inl ⟨p, pp⟩⟩
    · have nf : Nf (a, b, c, x, y, z) (a, b, c, -sz x, -sz y, -sz z) := ⟨_, Or.inr ⟨q, rfl⟩, n2, Or.inr ⟨p, rfl⟩⟩
      obtain ⟨o, _, _, _, _, e, _⟩ := nf.k ho
      have pp : -sz x ≤ 0 ∧ -sz y ≤ 0 ∧ -sz z ≤ 0 := by omega
      exact ⟨a, b, -sz x, -sz y, -sz z, ⟨o, e ev, by omega, fun w => by rw [sz_nz, sz_nz]; omega, by omega, h2, Or.inr pp⟩, nf_red nf ho r, Or.inl ⟨q, rfl, rfl, sz_nz x, sz_nz y⟩, sz_nz z, Or.inr ⟨p, pp⟩⟩
/-- the next state: near, or sorted and signed again -/
theorem nxS {a b c x y z : Int} {k : Nat} {u : S6} (ho : OKs (a, b, c, x, y, z)) (ev : Ev (a, b, c, x, y, z)) (r : Red k (a, b, c, x, y, z) u) (h1 : a < 4300) (h2 : b < 4300) (h3 : a < 1300 ∨ b < 1300) : 7 * (k : Int) ≤ 1680021 ∨
    ∃ a1 b1 x1 y1 z1, Sm a1 b1 c x1 y1 z1 ∧ Red k (a1, b1, c, x1, y1, z1) u ∧ ((¬ (b < a ∨ (a = b ∧ sz y < sz x)) ∧ a1 = a ∧ b1 = b ∧ sz x1 = sz x ∧ sz y1 = sz y) ∨ ((b < a ∨ (a = b ∧ sz y < sz x)) ∧ a1 = b ∧ b1 = a ∧ sz x1 = sz y ∧ sz y1 = sz x)) ∧ sz z1 = sz z ∧ ((posi x y z ∧ 0 < x1 ∧ 0 < y1 ∧ 0 < z1) ∨ (¬ posi x y z ∧ x1 ≤ 0 ∧ y1 ≤ 0 ∧ z1 ≤ 0)) := by
  by_cases w : a + b + c - tT u ≤ 60000
  · exact Or.inl (near_n ho r w)
  · have := tT_pos (Red.k r ho).1
    exact Or.inr (sm_nx ho ev r (by omega) (by omega) h1 h2 h3)
/-- far from the end -/
theorem sm_far {a b c x y z : Int} {n : Nat} {u : S6} (h : Sm a b c x y z) (r : Red n (a, b, c, x, y, z) u) (far : ¬ a + b + c - tT u ≤ 60000) : (4 * (a * b) - z * z) * 54400 ≤ b * (y * y) + a * (x * x) - x * y * z ∧ b < c ∧ 0 < a + b + c - tT u := by
  obtain ⟨ho, _, _, _, a1, b1, _⟩ := h
  have u0 := tT_pos (Red.k r ho).1
  have ep := end_plane ho (Red.bas (Bas.refl _) r)
  have hP : 0 < 4 * (a * b) - z * z := by have ho : PD a b c x y z := ho; have := ho.2.2.2.1; omega
  have e : pD a b c x y z = (4 * (a * b) - z * z) * c - (b * (y * y) + a * (x * x) - x * y * z) := by unfold pD; grind
  have e2 : (4 * (a * b) - z * z) * (c - tT u) = (4 * (a * b) - z * z) * c - (4 * (a * b) - z * z) * tT u := by grind
  have h1 : (4 * (a * b) - z * z) * 54400 ≤ (4 * (a * b) - z * z) * (c - tT u) := Int.mul_le_mul_of_nonneg_left (by omega) (by omega)
  refine ⟨by omega, by omega, by omega⟩
theorem sz_mul (x : Int) : x * x = sz x * sz x := (sz_sq x).symm
/-- a z-step far from the end is long -/
theorem sm_z {a b c x y z : Int} (h : Sm a b c x y z) (fr : (4 * (a * b) - z * z) * 54400 ≤ b * (y * y) + a * (x * x) - x * y * z) (hx : sz x ≤ b) (hy : sz y ≤ a) : a + 6 ≤ sz z := by
  obtain ⟨ho, _, ab, _, a1, b1, g⟩ := h
  have a0 := ho.bd.1.1
  refine Int.not_lt.mp fun w => ?_
  have hP : 0 < 4 * (a * b) - z * z := by have ho : PD a b c x y z := ho; have := ho.2.2.2.1; omega
  rw [sz_mul x, sz_mul y] at fr
  rw [sz_mul z] at fr hP
  have x0 := sz_0 x; have y0 := sz_0 y; have z0 := sz_0 z
  have t : -(x * y * z) ≤ sz x * sz y * sz z := by
    have sx := sz_c x; have sy := sz_c y; have szz := sz_c z
    rcases g with g | g
    · have := Int.mul_pos (Int.mul_pos g.1 g.2.1) g.2.2
      have := Int.mul_nonneg (Int.mul_nonneg x0 y0) z0
      omega
    · rw [szn g.1, szn g.2.1, szn g.2.2]
      have e : -x * -y * -z = -(x * y * z) := by grind
      omega
  generalize sz x = X at *
  generalize sz y = Y at *
  generalize sz z = Z at *
  have h1 : b * (Y * Y) ≤ b * (a * a) := Int.mul_le_mul_of_nonneg_left (sq_le y0 hy) (by omega)
  have h2 : a * (X * X) ≤ a * (b * b) := Int.mul_le_mul_of_nonneg_left (sq_le x0 hx) (by omega)
  have h3 : X * Y * Z ≤ b * a * Z := Int.mul_le_mul_of_nonneg_right (Int.mul_le_mul hx hy y0 (by omega)) z0
  have h4 : b * (a * a) + a * (b * b) + b * a * Z = (a * b) * (a + b + Z) := by grind
  have h5 : (a * b) * (a + b + Z) ≤ (a * b) * (2 * a + b + 5) := Int.mul_le_mul_of_nonneg_left (by omega) (Int.mul_nonneg (by omega) (by omega))
  have hz := sq_le z0 (show Z ≤ a + 5 by omega)
  have e5 : (a + 5) * (a + 5) = a * a + 10 * a + 25 := by grind
  have hab : 0 < a * b := Int.mul_pos a0 (by omega)
  by_cases c : (a + 5) * (a + 5) ≤ 2 * (a * b)
  · have h6 : (a * b) * (2 * a + b + 5) ≤ (a * b) * 6905 := Int.mul_le_mul_of_nonneg_left (by omega) (by omega)
    omega
  · have h7 : a * a ≤ a * b := Int.mul_le_mul_of_nonneg_left ab (by omega)
    have a12 : a ≤ 12 := by
      refine Int.not_lt.mp fun w => ?_
      have := Int.mul_le_mul_of_nonneg_left (show 13 ≤ a by omega) (show 0 ≤ a by omega)
      omega
    have s := sq_le (show 0 ≤ a by omega) a12
    have hb : 1 * b ≤ a * b := Int.mul_le_mul_of_nonneg_right (by omega) (by omega)
    have h8 : (a * b) * (2 * a + b + 5) ≤ 144 * 173 := Int.mul_le_mul (by omega) (by omega) (by omega) (by omega)
    omega
/-- a = b: a cheap y-step far from the end makes a long product -/
theorem sm_c {a X Y Z : Int} (a0 : 1 ≤ a) (a1 : a < 1300) (x0 : 0 ≤ X) (hx : X ≤ a) (hy : a ≤ Y) (hy2 : Y ≤ a + 90) (z0 : 0 ≤ Z) (hP : 0 < 4 * (a * a) - Z * Z) (ze : Z % 2 = 0) :
    ((4 * (a * a) - Z * Z) * 54400 ≤ a * (Y * Y) + a * (X * X) - X * Y * Z → a + 200 ≤ Z - X) ∧ ((4 * (a * a) - Z * Z) * 54400 ≤ a * (Y * Y) + a * (X * X) + X * Y * Z → a + 200 ≤ X + Z) := by
  have f1 : 2 ≤ 2 * a - Z := by
    have : Z < 2 * a := by
      refine Int.not_le.mp fun w => ?_
      have := sq_le (show 0 ≤ 2 * a by omega) w
      have e : 2 * a * (2 * a) = 4 * (a * a) := by grind
      omega
    omega
  obtain ⟨f, ef⟩ : ∃ f, f = 2 * a - Z := ⟨_, rfl⟩
  have eZ : Z = 2 * a - f := by omega
  subst eZ
  have hP2 : 2 * (a * f) ≤ 4 * (a * a) - (2 * a - f) * (2 * a - f) := by
    have h := Int.mul_nonneg (show 0 ≤ f by omega) (show 0 ≤ 2 * a - f by omega)
    have e : f * (2 * a - f) = 2 * (a * f) - f * f := by grind
    have e2 : (2 * a - f) * (2 * a - f) = 4 * (a * a) - 4 * (a * f) + f * f := by grind
    omega
  have core : ∀ S, S ≤ (f + 290) * (f + 290) + f * (a + 90) → ¬ (4 * (a * a) - (2 * a - f) * (2 * a - f)) * 54400 ≤ a * S := by
    intro S hS w
    have h1 : a * S ≤ a * ((f + 290) * (f + 290) + f * (a + 90)) := Int.mul_le_mul_of_nonneg_left hS (by omega)
    have h2 : a * (108800 * f) ≤ a * ((f + 290) * (f + 290) + f * (a + 90)) := by
      have e : a * (108800 * f) = 108800 * (a * f) := by grind
      omega
    have h3 : 108800 * f ≤ (f + 290) * (f + 290) + f * (a + 90) := Int.le_of_mul_le_mul_left h2 (by omega)
    have h4 : f * f ≤ f * 2600 := Int.mul_le_mul_of_nonneg_left (by omega) (by omega)
    have h5 : f * (a + 90) ≤ f * 1390 := Int.mul_le_mul_of_nonneg_left (by omega) (by omega)
    have e : (f + 290) * (f + 290) = f * f + 580 * f + 84100 := by grind
    omega
  constructor
  · intro fr
    refine Int.not_lt.mp fun w => ?_
    have e : a * (Y * Y) + a * (X * X) - X * Y * (2 * a - f) = a * ((Y - X) * (Y - X)) + X * Y * f := by grind
    have h1 := sq_le (show 0 ≤ Y - X by omega) (show Y - X ≤ f + 290 by omega)
    have h2 : X * Y * f ≤ a * (a + 90) * f := Int.mul_le_mul_of_nonneg_right (Int.mul_le_mul hx hy2 (by omega) (by omega)) (by omega)
    have e2 : a * (a + 90) * f = a * (f * (a + 90)) := by grind
    have e3 : a * ((Y - X) * (Y - X)) + a * (f * (a + 90)) = a * ((Y - X) * (Y - X) + f * (a + 90)) := by grind
    exact core ((Y - X) * (Y - X) + f * (a + 90)) (by omega) (by omega)
  · intro fr
    refine Int.not_lt.mp fun w => ?_
    have e : a * (Y * Y) + a * (X * X) + X * Y * (2 * a - f) = a * ((X + Y) * (X + Y)) - X * Y * f := by grind
    have h0 := Int.mul_nonneg (Int.mul_nonneg x0 (show 0 ≤ Y by omega)) (show 0 ≤ f by omega)
    have h1 := sq_le (show 0 ≤ X + Y by omega) (show X + Y ≤ f + 290 by omega)
    have h2 := Int.mul_nonneg (show 0 ≤ f by omega) (show 0 ≤ a + 90 by omega)
    exact core ((X + Y) * (X + Y)) (by omega) (by omega)
