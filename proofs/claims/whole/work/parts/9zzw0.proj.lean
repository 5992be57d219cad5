/-! lower bounds for the end: projections -/
theorem qv4 (a b c x y z i j k : Int) : 4 * (a * qv (a, b, c, x, y, z) (i, j, k)) = (2 * (a * i) + z * j + y * k) * (2 * (a * i) + z * j + y * k) + ((4 * (a * b) - z * z) * (j * j) + 2 * ((2 * (a * x) - y * z) * (j * k)) + (4 * (a * c) - y * y) * (k * k)) := by
  simp only [qv]
  grind
theorem qvP (a b c x y z i j k : Int) : (4 * (a * b) - z * z) * ((4 * (a * b) - z * z) * (j * j) + 2 * ((2 * (a * x) - y * z) * (j * k)) + (4 * (a * c) - y * y) * (k * k)) = ((4 * (a * b) - z * z) * j + (2 * (a * x) - y * z) * k) * ((4 * (a * b) - z * z) * j + (2 * (a * x) - y * z) * k) + 4 * (a * (pD a b c x y z * (k * k))) := by
  unfold pD
  grind
theorem sq1 {k : Int} (h : k ≠ 0) : 1 ≤ k * k := by
  rcases Int.lt_trichotomy k 0 with q | q | q
  · have := Int.mul_le_mul (show (1 : Int) ≤ -k by omega) (show (1 : Int) ≤ -k by omega) (by omega) (by omega)
    have e : -k * -k = k * k := by grind
    omega
  · exact absurd q h
  · have := Int.mul_le_mul (show (1 : Int) ≤ k by omega) (show (1 : Int) ≤ k by omega) (by omega) (by omega)
    omega
/-- above the plane of the first two -/
theorem qv_pl {t : S6} (ho : OKs t) (v : Vc) : ∀ a b c x y z, t = (a, b, c, x, y, z) → pD a b c x y z * (v.2.2 * v.2.2) ≤ (4 * (a * b) - z * z) * qv t v := by
  rintro a b c x y z rfl
  obtain ⟨i, j, k⟩ := v
  have ho : PD a b c x y z := ho
  have hP : 0 < 4 * (a * b) - z * z := by have := ho.2.2.2.1; omega
  have e1 := qv4 a b c x y z i j k
  have e2 := qvP a b c x y z i j k
  generalize (4 * (a * b) - z * z) = P at *
  generalize pD a b c x y z = d at *
  generalize qv (a, b, c, x, y, z) (i, j, k) = q at *
  generalize (P * (j * j) + 2 * ((2 * (a * x) - y * z) * (j * k)) + (4 * (a * c) - y * y) * (k * k)) = m at *
  have s1 := sq_nn (2 * (a * i) + z * j + y * k)
  have s2 := sq_nn (P * j + (2 * (a * x) - y * z) * k)
  have m1 : P * m ≤ P * (4 * (a * q)) := Int.mul_le_mul_of_nonneg_left (by omega) (by omega)
  have m2 : 4 * (a * (d * (k * k))) ≤ 4 * (a * (P * q)) := by
    have e3 : P * (4 * (a * q)) = 4 * (a * (P * q)) := by grind
    omega
  have m3 : a * (d * (k * k)) ≤ a * (P * q) := by omega
  exact Int.le_of_mul_le_mul_left m3 ho.1
theorem qv_pos {t : S6} (ho : OKs t) {v : Vc} (h : ¬ (v.1 = 0 ∧ v.2.1 = 0 ∧ v.2.2 = 0)) : 0 < qv t v := by
  obtain ⟨a, b, c, x, y, z⟩ := t
  obtain ⟨i, j, k⟩ := v
  have h : ¬ (i = 0 ∧ j = 0 ∧ k = 0) := h
  have ho : PD a b c x y z := ho
  by_cases hk : k = 0
  · subst hk
    have hP : 0 < 4 * (a * b) - z * z := by have := ho.2.2.2.1; omega
    have e1 := qv4 a b c x y z i j 0
    have s1 := sq_nn (2 * (a * i) + z * j + y * 0)
    by_cases hj : j = 0
    · subst hj
      have hi : i ≠ 0 := fun w => h ⟨w, rfl, rfl⟩
      have e : qv (a, b, c, x, y, z) (i, 0, 0) = a * (i * i) := by simp only [qv]; grind
      rw [e]
      exact Int.mul_pos ho.1 (by have := sq1 hi; omega)
    · have e : (4 * (a * b) - z * z) * (j * j) + 2 * ((2 * (a * x) - y * z) * (j * 0)) + (4 * (a * c) - y * y) * (0 * 0) = (4 * (a * b) - z * z) * (j * j) := by grind
      rw [e] at e1
      have p : 0 < (4 * (a * b) - z * z) * (j * j) := Int.mul_pos hP (by have := sq1 hj; omega)
      exact mpos (a := a) (by omega) ho.1
  · have q := qv_pl (t := (a, b, c, x, y, z)) ho (i, j, k) a b c x y z rfl
    have p : 0 < pD a b c x y z * (k * k) := Int.mul_pos ho.2.2.2.2.2.2 (by have := sq1 hk; omega)
    have q : pD a b c x y z * (k * k) ≤ (4 * (a * b) - z * z) * qv (a, b, c, x, y, z) (i, j, k) := q
    exact mpos (a := 4 * (a * b) - z * z) (by omega) (by have := ho.2.2.2.1; omega)
/-- of three vectors of determinant 1 or -1 one has a first, another a second, the third a third number not 0 -/
theorem det_perm {p q r : Vc} (h : U1 (dt3 p q r)) :
    (p.1 ≠ 0 ∧ q.2.1 ≠ 0 ∧ r.2.2 ≠ 0) ∨ (p.1 ≠ 0 ∧ q.2.2 ≠ 0 ∧ r.2.1 ≠ 0) ∨ (p.2.1 ≠ 0 ∧ q.1 ≠ 0 ∧ r.2.2 ≠ 0) ∨ (p.2.1 ≠ 0 ∧ q.2.2 ≠ 0 ∧ r.1 ≠ 0) ∨ (p.2.2 ≠ 0 ∧ q.1 ≠ 0 ∧ r.2.1 ≠ 0) ∨ (p.2.2 ≠ 0 ∧ q.2.1 ≠ 0 ∧ r.1 ≠ 0) := by
  obtain ⟨a, b, c⟩ := p; obtain ⟨d, e, f⟩ := q; obtain ⟨g, u, i⟩ := r
  refine Classical.byContradiction fun n => ?_
  simp only [not_or, not_and, Classical.not_not] at n
  obtain ⟨n1, n2, n3, n4, n5, n6⟩ := n
  have z : dt3 (a, b, c) (d, e, f) (g, u, i) = 0 := by
    have k1 : a * e * i = 0 := by
      by_cases ha : a = 0
      · subst ha; simp
      · by_cases he : e = 0
        · subst he; simp
        · rw [n1 ha he]; simp
    have k2 : a * f * u = 0 := by
      by_cases ha : a = 0
      · subst ha; simp
      · by_cases he : f = 0
        · subst he; simp
        · rw [n2 ha he]; simp
    have k3 : b * d * i = 0 := by
      by_cases ha : b = 0
      · subst ha; simp
      · by_cases he : d = 0
        · subst he; simp
        · rw [n3 ha he]; simp
    have k4 : b * f * g = 0 := by
      by_cases ha : b = 0
      · subst ha; simp
      · by_cases he : f = 0
        · subst he; simp
        · rw [n4 ha he]; simp
    have k5 : c * d * u = 0 := by
      by_cases ha : c = 0
      · subst ha; simp
      · by_cases he : d = 0
        · subst he; simp
        · rw [n5 ha he]; simp
    have k6 : c * e * g = 0 := by
      by_cases ha : c = 0
      · subst ha; simp
      · by_cases he : e = 0
        · subst he; simp
        · rw [n6 ha he]; simp
    simp only [dt3]
    grind
  rw [z] at h
  rcases h with h | h <;> omega
/-- the end is no lower than three bounds -/
theorem end3 {t u : S6} (h : Bas t u) {mi mj mk : Int} (hi : ∀ v : Vc, v.1 ≠ 0 → mi ≤ qv t v) (hj : ∀ v : Vc, v.2.1 ≠ 0 → mj ≤ qv t v) (hk : ∀ v : Vc, v.2.2 ≠ 0 → mk ≤ qv t v) : mi + mj + mk ≤ tT u := by
  obtain ⟨p, q, r, e, d⟩ := h
  subst e
  show mi + mj + mk ≤ qv t p + qv t q + qv t r
  rcases det_perm d with ⟨a, b, c⟩ | ⟨a, b, c⟩ | ⟨a, b, c⟩ | ⟨a, b, c⟩ | ⟨a, b, c⟩ | ⟨a, b, c⟩
  · have := hi p a; have := hj q b; have := hk r c; omega
  · have := hi p a; have := hk q b; have := hj r c; omega
  · have := hj p a; have := hi q b; have := hk r c; omega
  · have := hj p a; have := hk q b; have := hi r c; omega
  · have := hk p a; have := hi q b; have := hj r c; omega
  · have := hk p a; have := hj q b; have := hi r c; omega
theorem ne_of1 {v : Vc} (h : v.1 ≠ 0) : ¬ (v.1 = 0 ∧ v.2.1 = 0 ∧ v.2.2 = 0) := fun w => h w.1
theorem ne_of2 {v : Vc} (h : v.2.1 ≠ 0) : ¬ (v.1 = 0 ∧ v.2.1 = 0 ∧ v.2.2 = 0) := fun w => h w.2.1
theorem ne_of3 {v : Vc} (h : v.2.2 ≠ 0) : ¬ (v.1 = 0 ∧ v.2.1 = 0 ∧ v.2.2 = 0) := fun w => h w.2.2
/-- F1: the end against the plane of the first two -/
theorem end_plane {a b c x y z : Int} {u : S6} (ho : OKs (a, b, c, x, y, z)) (h : Bas (a, b, c, x, y, z) u) : pD a b c x y z ≤ (4 * (a * b) - z * z) * tT u := by
  have hP : 0 < 4 * (a * b) - z * z := by have ho : PD a b c x y z := ho; have := ho.2.2.2.1; omega
  obtain ⟨p, q, r, e, d⟩ := h
  have key : ∀ v : Vc, v.2.2 ≠ 0 → pD a b c x y z ≤ (4 * (a * b) - z * z) * qv (a, b, c, x, y, z) v := fun v hv => by
    have k1 := qv_pl ho v a b c x y z rfl
    have k2 := Int.mul_le_mul_of_nonneg_left (sq1 hv) (Int.le_of_lt (show PD a b c x y z from ho).2.2.2.2.2.2)
    omega
  have p0 : ∀ v : Vc, ¬ (v.1 = 0 ∧ v.2.1 = 0 ∧ v.2.2 = 0) → 0 ≤ qv (a, b, c, x, y, z) v := fun v hv => Int.le_of_lt (qv_pos ho hv)
  have mon : ∀ m : Int, m ≤ tT u → (4 * (a * b) - z * z) * m ≤ (4 * (a * b) - z * z) * tT u := fun m hm => Int.mul_le_mul_of_nonneg_left hm (Int.le_of_lt hP)
  have T : tT u = qv (a, b, c, x, y, z) p + qv (a, b, c, x, y, z) q + qv (a, b, c, x, y, z) r := by rw [e]; rfl
  rcases det_perm d with ⟨a1, b1, c1⟩ | ⟨a1, b1, c1⟩ | ⟨a1, b1, c1⟩ | ⟨a1, b1, c1⟩ | ⟨a1, b1, c1⟩ | ⟨a1, b1, c1⟩
  · exact Int.le_trans (key r c1) (mon _ (by have := p0 p (ne_of1 a1); have := p0 q (ne_of2 b1); omega))
  · exact Int.le_trans (key q b1) (mon _ (by have := p0 p (ne_of1 a1); have := p0 r (ne_of2 c1); omega))
  · exact Int.le_trans (key r c1) (mon _ (by have := p0 p (ne_of2 a1); have := p0 q (ne_of1 b1); omega))
  · exact Int.le_trans (key q b1) (mon _ (by have := p0 p (ne_of2 a1); have := p0 r (ne_of1 c1); omega))
  · exact Int.le_trans (key p a1) (mon _ (by have := p0 q (ne_of1 b1); have := p0 r (ne_of2 c1); omega))
  · exact Int.le_trans (key p a1) (mon _ (by have := p0 q (ne_of2 b1); have := p0 r (ne_of1 c1); omega))
/-- a form of two, nearly reduced -/
theorem two_near {P R Q t j k : Int} (hP : 2 * R ≤ P + t) (hP' : -(2 * R) ≤ P + t) (hQ : 2 * R ≤ Q + t) (hQ' : -(2 * R) ≤ Q + t) (t0 : 0 ≤ t) (tP : t ≤ P) (tQ : t ≤ Q) :
    (j ≠ 0 → P - t ≤ P * (j * j) + 2 * (R * (j * k)) + Q * (k * k)) ∧ (k ≠ 0 → Q - t ≤ P * (j * j) + 2 * (R * (j * k)) + Q * (k * k)) := by
  have both : j ≠ 0 → k ≠ 0 → P - t ≤ P * (j * j) + 2 * (R * (j * k)) + Q * (k * k) ∧ Q - t ≤ P * (j * j) + 2 * (R * (j * k)) + Q * (k * k) := fun hj hk => by
    have gen : ∀ J K r : Int, 1 ≤ J → 1 ≤ K → r ≤ P + t → r ≤ Q + t → J * J = j * j → K * K = k * k → -(r * (J * K)) ≤ 2 * (R * (j * k)) → P - t ≤ P * (j * j) + 2 * (R * (j * k)) + Q * (k * k) ∧ Q - t ≤ P * (j * j) + 2 * (R * (j * k)) + Q * (k * k) := by
      intro J K r h1 h2 h3 h4 e1 e2 h5
      have JK : 1 ≤ J * K := by have := Int.mul_le_mul h1 h2 (by omega) (by omega); omega
      have d2 := sq_nn (J - K)
      have J2 : 1 ≤ J * J := sq1 (by omega)
      have K2 : 1 ≤ K * K := sq1 (by omega)
      have a1 : r * (J * K) ≤ (P + t) * (J * K) := Int.mul_le_mul_of_nonneg_right h3 (by omega)
      have a2 : r * (J * K) ≤ (Q + t) * (J * K) := Int.mul_le_mul_of_nonneg_right h4 (by omega)
      rw [← e1, ← e2]
      rcases Int.le_total P Q with w | w
      · have b1 : 0 ≤ (Q - P) * (K * K - 1) := Int.mul_nonneg (by omega) (by omega)
        have b2 : 0 ≤ (P - t) * (J * K - 1) := Int.mul_nonneg (by omega) (by omega)
        have b3 : 0 ≤ P * ((J - K) * (J - K)) := Int.mul_nonneg (by omega) d2
        have e : P * (J * J) - (P + t) * (J * K) + Q * (K * K) - (Q - t) = (Q - P) * (K * K - 1) + (P - t) * (J * K - 1) + P * ((J - K) * (J - K)) := by grind
        constructor <;> omega
      · have b1 : 0 ≤ (P - Q) * (J * J - 1) := Int.mul_nonneg (by omega) (by omega)
        have b2 : 0 ≤ (Q - t) * (J * K - 1) := Int.mul_nonneg (by omega) (by omega)
        have b3 : 0 ≤ Q * ((J - K) * (J - K)) := Int.mul_nonneg (by omega) d2
        have e : P * (J * J) - (Q + t) * (J * K) + Q * (K * K) - (P - t) = (P - Q) * (J * J - 1) + (Q - t) * (J * K - 1) + Q * ((J - K) * (J - K)) := by grind
        constructor <;> omega
    rcases Int.lt_or_lt_of_ne hj with q | q <;> rcases Int.lt_or_lt_of_ne hk with w | w
    · exact gen (-j) (-k) (-(2 * R)) (by omega) (by omega) hP' hQ' (by grind) (by grind) (Int.le_of_eq (show -(-(2 * R) * (-j * -k)) = 2 * (R * (j * k)) by grind))
    · exact gen (-j) k (2 * R) (by omega) (by omega) hP hQ (by grind) (by grind) (Int.le_of_eq (show -(2 * R * (-j * k)) = 2 * (R * (j * k)) by grind))
    · exact gen j (-k) (2 * R) (by omega) (by omega) hP hQ (by grind) (by grind) (Int.le_of_eq (show -(2 * R * (j * -k)) = 2 * (R * (j * k)) by grind))
    · exact gen j k (-(2 * R)) (by omega) (by omega) hP' hQ' (by grind) (by grind) (Int.le_of_eq (show -(-(2 * R) * (j * k)) = 2 * (R * (j * k)) by grind))
  constructor
  · intro hj
    by_cases hk : k = 0
    · subst hk
      have e : P * (j * j) + 2 * (R * (j * 0)) + Q * (0 * 0) = P * (j * j) := by grind
      rw [e]
      have := Int.mul_le_mul_of_nonneg_left (sq1 hj) (show 0 ≤ P by omega)
      omega
    · exact (both hj hk).1
  · intro hk
    by_cases hj : j = 0
    · subst hj
      have e : P * (0 * 0) + 2 * (R * (0 * k)) + Q * (k * k) = Q * (k * k) := by grind
      rw [e]
      have := Int.mul_le_mul_of_nonneg_left (sq1 hk) (show 0 ≤ Q by omega)
      omega
    · exact (both hj hk).2
