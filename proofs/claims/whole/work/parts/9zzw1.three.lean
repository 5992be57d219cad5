/-! lower bounds for the end: along a vector, and a form of three that is nearly reduced -/
theorem end3f {p q r : Vc} (d : U1 (dt3 p q r)) (f : Vc → Int) {mi mj mk : Int} (hi : ∀ v : Vc, v.1 ≠ 0 → mi ≤ f v) (hj : ∀ v : Vc, v.2.1 ≠ 0 → mj ≤ f v) (hk : ∀ v : Vc, v.2.2 ≠ 0 → mk ≤ f v) : mi + mj + mk ≤ f p + f q + f r := by
  rcases det_perm d with ⟨a, b, c⟩ | ⟨a, b, c⟩ | ⟨a, b, c⟩ | ⟨a, b, c⟩ | ⟨a, b, c⟩ | ⟨a, b, c⟩
  · have := hi p a; have := hj q b; have := hk r c; omega
  · have := hi p a; have := hk q b; have := hj r c; omega
  · have := hj p a; have := hi q b; have := hk r c; omega
  · have := hj p a; have := hk q b; have := hi r c; omega
  · have := hk p a; have := hi q b; have := hj r c; omega
  · have := hk p a; have := hj q b; have := hi r c; omega
theorem proj_b {a b c x y z t : Int} (hP : 2 * (2 * (a * x) - y * z) ≤ 4 * (a * b) - z * z + t) (hP' : -(2 * (2 * (a * x) - y * z)) ≤ 4 * (a * b) - z * z + t) (hQ : 2 * (2 * (a * x) - y * z) ≤ 4 * (a * c) - y * y + t) (hQ' : -(2 * (2 * (a * x) - y * z)) ≤ 4 * (a * c) - y * y + t) (t0 : 0 ≤ t) (tP : t ≤ 4 * (a * b) - z * z) (tQ : t ≤ 4 * (a * c) - y * y) (v : Vc) :
    (v.2.1 ≠ 0 → 4 * (a * b) - z * z - t ≤ 4 * (a * qv (a, b, c, x, y, z) v)) ∧ (v.2.2 ≠ 0 → 4 * (a * c) - y * y - t ≤ 4 * (a * qv (a, b, c, x, y, z) v)) := by
  obtain ⟨i, j, k⟩ := v
  have e := qv4 a b c x y z i j k
  have s := sq_nn (2 * (a * i) + z * j + y * k)
  have w := two_near (P := 4 * (a * b) - z * z) (R := 2 * (a * x) - y * z) (Q := 4 * (a * c) - y * y) (t := t) (j := j) (k := k) hP hP' hQ hQ' t0 tP tQ
  exact ⟨fun h => by have := w.1 h; omega, fun h => by have := w.2 h; omega⟩
/-- the end against the projection along the first -/
theorem end_proj {a b c x y z t : Int} {u : S6} (ho : OKs (a, b, c, x, y, z)) (h : Bas (a, b, c, x, y, z) u) (hP : 2 * (2 * (a * x) - y * z) ≤ 4 * (a * b) - z * z + t) (hP' : -(2 * (2 * (a * x) - y * z)) ≤ 4 * (a * b) - z * z + t) (hQ : 2 * (2 * (a * x) - y * z) ≤ 4 * (a * c) - y * y + t) (hQ' : -(2 * (2 * (a * x) - y * z)) ≤ 4 * (a * c) - y * y + t) (t0 : 0 ≤ t) (tP : t ≤ 4 * (a * b) - z * z) (tQ : t ≤ 4 * (a * c) - y * y) :
    4 * (a * (a + b + c)) ≤ 4 * (a * tT u) + 4 * (a * a) + y * y + z * z + 2 * t := by
  obtain ⟨p, q, r, e, d⟩ := h
  have a0 : 0 < a := (show PD a b c x y z from ho).1
  have w := end3f d (fun v => 4 * (a * qv (a, b, c, x, y, z) v)) (mi := 0) (mj := 4 * (a * b) - z * z - t) (mk := 4 * (a * c) - y * y - t)
    (fun v hv => by have := Int.mul_pos a0 (qv_pos ho (ne_of1 hv)); show 0 ≤ 4 * (a * qv (a, b, c, x, y, z) v); omega)
    (fun v hv => (proj_b hP hP' hQ hQ' t0 tP tQ v).1 hv) (fun v hv => (proj_b hP hP' hQ hQ' t0 tP tQ v).2 hv)
  have T : tT u = qv (a, b, c, x, y, z) p + qv (a, b, c, x, y, z) q + qv (a, b, c, x, y, z) r := by rw [e]; rfl
  have e1 : a * tT u = a * qv (a, b, c, x, y, z) p + a * qv (a, b, c, x, y, z) q + a * qv (a, b, c, x, y, z) r := by rw [T]; grind
  have e2 : a * (a + b + c) = a * a + a * b + a * c := by grind
  omega
theorem mag_G {m p q : Int} : (m + p) * (m + q) + m * (m + q) + m * (m + p) ≤ 4 * (m * m) + 5 * (p * p + q * q - p * q) := by
  have e : 4 * (m * m) + 5 * (p * p + q * q - p * q) - ((m + p) * (m + q) + m * (m + q) + m * (m + p)) = (m - p - q) * (m - p - q) + 4 * ((p - q) * (p - q)) := by grind
  have := sq_nn (m - p - q); have := sq_nn (p - q)
  omega
theorem mag_E {p q : Int} (h : ¬ (p = 0 ∧ q = 0)) : 1 ≤ p * p + q * q - p * q := by
  have e : 2 * (p * p + q * q - p * q) = (p - q) * (p - q) + p * p + q * q := by grind
  have := sq_nn (p - q); have := sq_nn p; have := sq_nn q
  by_cases hp : p = 0
  · have := sq1 (k := q) (fun w => h ⟨hp, w⟩); omega
  · have := sq1 hp; omega
/-- the core: J, K, I the three products, M the least square -/
theorem mag_core {a e s f g h E M I J K : Int} (e0 : 0 ≤ e) (hf : -e ≤ f) (hg : -e ≤ g) (hh : -e ≤ h) (hs : a - s ≤ f + g + h) (ha : s + 5 * e ≤ a) (s0 : 0 ≤ s) (E1 : 1 ≤ E) (M0 : 0 ≤ M) (iM : M ≤ I) (jM : M ≤ J) (kM : M ≤ K) (G : I + J + K ≤ 4 * M + 5 * E) : a - 8 * e ≤ a * E + f * I + g * J + h * K := by
  have a1 : 0 ≤ (f + e) * (I - M) := Int.mul_nonneg (by omega) (by omega)
  have a2 : 0 ≤ (g + e) * (J - M) := Int.mul_nonneg (by omega) (by omega)
  have a3 : 0 ≤ (h + e) * (K - M) := Int.mul_nonneg (by omega) (by omega)
  have a4 : 0 ≤ (f + g + h - (a - s)) * M := Int.mul_nonneg (by omega) M0
  have a5 : 0 ≤ (a - s - 4 * e) * M := Int.mul_nonneg (by omega) M0
  have a6 : 0 ≤ (a - 5 * e) * (E - 1) := Int.mul_nonneg (by omega) (by omega)
  have a7 : 0 ≤ e * (4 * M + 5 * E - (I + J + K)) := Int.mul_nonneg e0 (by omega)
  have a8 : 0 ≤ e * M := Int.mul_nonneg e0 M0
  have e1 : a * E + f * I + g * J + h * K = (f + e) * (I - M) + (g + e) * (J - M) + (h + e) * (K - M) + (f + g + h - (a - s)) * M + (a - s - 4 * e) * M + 3 * (e * M) + (a - 5 * e) * (E - 1) + e * (4 * M + 5 * E - (I + J + K)) + a - 5 * e := by grind
  omega
/-- three numbers not negative, not all the same: the form with X <= b + e, Y, Z <= a + e and X + Y + Z <= a + b + s -/
theorem three_mag {a b c X Y Z e s i j k : Int} (e0 : 0 ≤ e) (hX : X ≤ b + e) (hY : Y ≤ a + e) (hZ : Z ≤ a + e) (s0 : 0 ≤ s) (hs : X + Y + Z ≤ a + b + s) (hsa : s + 5 * e ≤ a)
    (i0 : 0 ≤ i) (j0 : 0 ≤ j) (k0 : 0 ≤ k) (n : ¬ (i = j ∧ j = k)) :
    a + (b - a) * (j * j + k * k - j * k) + (c - b) * (k * k) - 8 * e ≤ a * (i * i) + b * (j * j) + c * (k * k) - X * (j * k) - Y * (i * k) - Z * (i * j) := by
  have core : ∀ E M : Int, 1 ≤ E → 0 ≤ M → M ≤ j * k → M ≤ i * k → M ≤ i * j → j * k + i * k + i * j ≤ 4 * M + 5 * E → E = i * i + j * j + k * k - i * j - i * k - j * k → a + (b - a) * (j * j + k * k - j * k) + (c - b) * (k * k) - 8 * e ≤ a * (i * i) + b * (j * j) + c * (k * k) - X * (j * k) - Y * (i * k) - Z * (i * j) := by
    intro E M E1 M0 h1 h2 h3 G eE
    have w := mag_core (a := a) (e := e) (s := s) (f := b - X) (g := a - Y) (h := a - Z) e0 (by omega) (by omega) (by omega) (by omega) hsa s0 E1 M0 h1 h2 h3 G
    have id : a * (i * i) + b * (j * j) + c * (k * k) - X * (j * k) - Y * (i * k) - Z * (i * j) = a * E + (b - X) * (j * k) + (a - Y) * (i * k) + (a - Z) * (i * j) + (b - a) * (j * j + k * k - j * k) + (c - b) * (k * k) := by rw [eE]; grind
    omega
  have mono : ∀ m p q : Int, 0 ≤ m → 0 ≤ p → 0 ≤ q → m * m ≤ (m + p) * (m + q) ∧ m * m ≤ m * (m + q) ∧ m * m ≤ m * (m + p) := by
    intro m p q h1 h2 h3
    have a1 := Int.mul_nonneg h1 h2; have a2 := Int.mul_nonneg h1 h3; have a3 := Int.mul_nonneg h2 h3
    have e1 : (m + p) * (m + q) = m * m + m * q + m * p + p * q := by grind
    have e2 : m * (m + q) = m * m + m * q := by grind
    have e3 : m * (m + p) = m * m + m * p := by grind
    omega
  by_cases q1 : i ≤ j ∧ i ≤ k
  · obtain ⟨p, rfl⟩ : ∃ p, j = i + p := ⟨j - i, by omega⟩
    obtain ⟨q, rfl⟩ : ∃ q, k = i + q := ⟨k - i, by omega⟩
    obtain ⟨m1, m2, m3⟩ := mono i p q i0 (by omega) (by omega)
    exact core (p * p + q * q - p * q) (i * i) (mag_E (by omega)) (sq_nn i) m1 m2 m3 mag_G (by grind)
  · by_cases q2 : j ≤ i ∧ j ≤ k
    · obtain ⟨p, rfl⟩ : ∃ p, i = j + p := ⟨i - j, by omega⟩
      obtain ⟨q, rfl⟩ : ∃ q, k = j + q := ⟨k - j, by omega⟩
      obtain ⟨m1, m2, m3⟩ := mono j p q j0 (by omega) (by omega)
      have c1 : (j + p) * j = j * (j + p) := Int.mul_comm _ _
      exact core (p * p + q * q - p * q) (j * j) (mag_E (by omega)) (sq_nn j) m2 m1 (by omega) (by have := mag_G (m := j) (p := p) (q := q); omega) (by grind)
    · obtain ⟨p, rfl⟩ : ∃ p, i = k + p := ⟨i - k, by omega⟩
      obtain ⟨q, rfl⟩ : ∃ q, j = k + q := ⟨j - k, by omega⟩
      obtain ⟨m1, m2, m3⟩ := mono k p q k0 (by omega) (by omega)
      have c1 : (k + p) * k = k * (k + p) := Int.mul_comm _ _
      have c2 : (k + q) * k = k * (k + q) := Int.mul_comm _ _
      exact core (p * p + q * q - p * q) (k * k) (mag_E (by omega)) (sq_nn k) (by omega) (by omega) m1 (by have := mag_G (m := k) (p := p) (q := q); omega) (by grind)
