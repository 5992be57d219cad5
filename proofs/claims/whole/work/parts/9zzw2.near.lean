/-! a form of three that is nearly reduced: the end is near -/
theorem sg_sz (v : Int) : sg v * sz v = v := by
  rcases sg_c v with ⟨h, e⟩ | ⟨h, e⟩ <;> rw [e] <;> have := sz_c v <;> omega
theorem sz_0 (v : Int) : 0 ≤ sz v := by have := sz_c v; omega
theorem sz_ne {v : Int} (h : v ≠ 0) : 1 ≤ sz v := by have := sz_c v; omega
theorem near3_mag {a b c x y z e s : Int} (ho : OKs (a, b, c, x, y, z)) (ab : a ≤ b) (bc : b ≤ c) (e0 : 0 ≤ e) (hx : sz x ≤ b + e) (hy : sz y ≤ a + e) (hz : sz z ≤ a + e) (s0 : 0 ≤ s) (hsa : s + 5 * e ≤ a)
    (h1 : -s ≤ a + b + x + y + z) (h2 : -s ≤ a + b + x - y - z) (h3 : -s ≤ a + b - x + y - z) (h4 : -s ≤ a + b - x - y + z) (i j k : Int) :
    (k ≠ 0 → c - (s + 8 * e) ≤ qv (a, b, c, x, y, z) (i, j, k)) ∧ (j ≠ 0 → b - (s + 8 * e) ≤ qv (a, b, c, x, y, z) (i, j, k)) ∧ (i ≠ 0 → a - (s + 8 * e) ≤ qv (a, b, c, x, y, z) (i, j, k)) := by
  have ei := sg_sz i; have ej := sg_sz j; have ek := sg_sz k
  have i0 := sz_0 i; have j0 := sz_0 j; have k0 := sz_0 k
  have ki : i ≠ 0 → 1 ≤ sz i := sz_ne
  have kj : j ≠ 0 → 1 ≤ sz j := sz_ne
  have kk : k ≠ 0 → 1 ≤ sz k := sz_ne
  have si := sg_c i; have sj := sg_c j; have sk := sg_c k
  have zx := sz_c x; have zy := sz_c y; have zz := sz_c z
  have posQ : ¬ (i = 0 ∧ j = 0 ∧ k = 0) → 0 < qv (a, b, c, x, y, z) (i, j, k) := fun w => qv_pos ho w
  generalize hI : sz i = I at *
  generalize hJ : sz j = J at *
  generalize hK : sz k = K at *
  -- the signs of the three products
  have gen : ∀ X Y Z : Int, X ≤ b + e → Y ≤ a + e → Z ≤ a + e → X + Y + Z ≤ a + b + s → (∀ m : Int, (1 : Int) ≤ m → 0 ≤ a * (m * m) + b * (m * m) + c * (m * m) - X * (m * m) - Y * (m * m) - Z * (m * m) → c - s ≤ a * (m * m) + b * (m * m) + c * (m * m) - X * (m * m) - Y * (m * m) - Z * (m * m)) → qv (a, b, c, x, y, z) (i, j, k) = a * (I * I) + b * (J * J) + c * (K * K) - X * (J * K) - Y * (I * K) - Z * (I * J) →
      (k ≠ 0 → c - (s + 8 * e) ≤ qv (a, b, c, x, y, z) (i, j, k)) ∧ (j ≠ 0 → b - (s + 8 * e) ≤ qv (a, b, c, x, y, z) (i, j, k)) ∧ (i ≠ 0 → a - (s + 8 * e) ≤ qv (a, b, c, x, y, z) (i, j, k)) := by
    intro X Y Z hX hY hZ hS eqm eQ
    by_cases n : I = J ∧ J = K
    · obtain ⟨rfl, rfl⟩ := n
      by_cases m1 : 1 ≤ I
      · have p : 0 < qv (a, b, c, x, y, z) (i, j, k) := posQ (fun w => by
          have : sz i = 0 := by rw [w.1]; rfl
          omega)
        rw [eQ] at p
        have := eqm I m1 (by omega)
        rw [eQ]
        refine ⟨fun _ => by omega, fun _ => by omega, fun _ => by omega⟩
      · refine ⟨fun w => absurd (kk w) m1, fun w => absurd (kj w) m1, fun w => absurd (ki w) m1⟩
    · have w := three_mag (a := a) (b := b) (c := c) (X := X) (Y := Y) (Z := Z) (e := e) (s := s) (i := I) (j := J) (k := K) e0 hX hY hZ s0 hS hsa i0 j0 k0 n
      rw [eQ]
      refine ⟨fun q => ?_, fun q => ?_, fun q => ?_⟩
      · have f1 : 1 ≤ J * J + K * K - J * K := mag_E (fun w => by have := kk q; omega)
        have f2 : 1 ≤ K * K := sq1 (by have := kk q; omega)
        have g1 : 0 ≤ (b - a) * (J * J + K * K - J * K - 1) := Int.mul_nonneg (by omega) (by omega)
        have g2 : 0 ≤ (c - b) * (K * K - 1) := Int.mul_nonneg (by omega) (by omega)
        have e1 : (b - a) * (J * J + K * K - J * K) = (b - a) * (J * J + K * K - J * K - 1) + (b - a) := by grind
        have e2 : (c - b) * (K * K) = (c - b) * (K * K - 1) + (c - b) := by grind
        omega
      · have f1 : 1 ≤ J * J + K * K - J * K := mag_E (fun w => by have := kj q; omega)
        have g1 : 0 ≤ (b - a) * (J * J + K * K - J * K - 1) := Int.mul_nonneg (by omega) (by omega)
        have g2 : 0 ≤ (c - b) * (K * K) := Int.mul_nonneg (by omega) (sq_nn K)
        have e1 : (b - a) * (J * J + K * K - J * K) = (b - a) * (J * J + K * K - J * K - 1) + (b - a) := by grind
        omega
      · have f1 : 0 ≤ J * J + K * K - J * K := by
          by_cases w : J = 0 ∧ K = 0
          · rw [w.1, w.2]; decide
          · have := mag_E w; omega
        have g1 : 0 ≤ (b - a) * (J * J + K * K - J * K) := Int.mul_nonneg (by omega) f1
        have g2 : 0 ≤ (c - b) * (K * K) := Int.mul_nonneg (by omega) (sq_nn K)
        omega
  have eqm : ∀ X Y Z : Int, X + Y + Z ≤ a + b + s → (∀ m : Int, (1 : Int) ≤ m → 0 ≤ a * (m * m) + b * (m * m) + c * (m * m) - X * (m * m) - Y * (m * m) - Z * (m * m) → c - s ≤ a * (m * m) + b * (m * m) + c * (m * m) - X * (m * m) - Y * (m * m) - Z * (m * m)) := by
    intro X Y Z hS m m1 p
    have M1 : 1 ≤ m * m := sq1 (by omega)
    have e1 : a * (m * m) + b * (m * m) + c * (m * m) - X * (m * m) - Y * (m * m) - Z * (m * m) = (a + b + c - X - Y - Z) * (m * m) := by grind
    rw [e1] at p ⊢
    have q : 0 ≤ a + b + c - X - Y - Z := by
      refine Int.not_lt.mp fun w => ?_
      have := Int.mul_neg_of_neg_of_pos w (show 0 < m * m by omega)
      omega
    have := Int.mul_le_mul_of_nonneg_left M1 q
    omega
  rcases si with ⟨_, s1⟩ | ⟨_, s1⟩ <;> rcases sj with ⟨_, s2⟩ | ⟨_, s2⟩ <;> rcases sk with ⟨_, s3⟩ | ⟨_, s3⟩ <;> rw [s1] at ei <;> rw [s2] at ej <;> rw [s3] at ek
  · exact gen (-x) (-y) (-z) (by omega) (by omega) (by omega) (by omega) (eqm _ _ _ (by omega)) (by rw [← ei, ← ej, ← ek]; simp only [qv]; grind)
  · exact gen x y (-z) (by omega) (by omega) (by omega) (by omega) (eqm _ _ _ (by omega)) (by rw [← ei, ← ej, ← ek]; simp only [qv]; grind)
  · exact gen x (-y) z (by omega) (by omega) (by omega) (by omega) (eqm _ _ _ (by omega)) (by rw [← ei, ← ej, ← ek]; simp only [qv]; grind)
  · exact gen (-x) y z (by omega) (by omega) (by omega) (by omega) (eqm _ _ _ (by omega)) (by rw [← ei, ← ej, ← ek]; simp only [qv]; grind)
  · exact gen (-x) y z (by omega) (by omega) (by omega) (by omega) (eqm _ _ _ (by omega)) (by rw [← ei, ← ej, ← ek]; simp only [qv]; grind)
  · exact gen x (-y) z (by omega) (by omega) (by omega) (by omega) (eqm _ _ _ (by omega)) (by rw [← ei, ← ej, ← ek]; simp only [qv]; grind)
  · exact gen x y (-z) (by omega) (by omega) (by omega) (by omega) (eqm _ _ _ (by omega)) (by rw [← ei, ← ej, ← ek]; simp only [qv]; grind)
  · exact gen (-x) (-y) (-z) (by omega) (by omega) (by omega) (by omega) (eqm _ _ _ (by omega)) (by rw [← ei, ← ej, ← ek]; simp only [qv]; grind)
/-- C1 where a is large: the end is near -/
theorem near3 {a b c x y z e s : Int} {u : S6} (ho : OKs (a, b, c, x, y, z)) (h : Bas (a, b, c, x, y, z) u) (ab : a ≤ b) (bc : b ≤ c) (e0 : 0 ≤ e) (hx : sz x ≤ b + e) (hy : sz y ≤ a + e) (hz : sz z ≤ a + e) (s0 : 0 ≤ s) (hsa : s + 5 * e ≤ a)
    (h1 : -s ≤ a + b + x + y + z) (h2 : -s ≤ a + b + x - y - z) (h3 : -s ≤ a + b - x + y - z) (h4 : -s ≤ a + b - x - y + z) : a + b + c - tT u ≤ 3 * (s + 8 * e) := by
  have w := end3 h (mi := a - (s + 8 * e)) (mj := b - (s + 8 * e)) (mk := c - (s + 8 * e))
    (fun v hv => (near3_mag ho ab bc e0 hx hy hz s0 hsa h1 h2 h3 h4 v.1 v.2.1 v.2.2).2.2 hv)
    (fun v hv => (near3_mag ho ab bc e0 hx hy hz s0 hsa h1 h2 h3 h4 v.1 v.2.1 v.2.2).2.1 hv)
    (fun v hv => (near3_mag ho ab bc e0 hx hy hz s0 hsa h1 h2 h3 h4 v.1 v.2.1 v.2.2).1 hv)
  omega
