/-! the last stretch: b below 4,300. Seven rounds' worth of a + b + c: the numbers -/
theorem kap {P R M Q : Int} (hR : 0 ≤ R) (hM : 0 ≤ P + M) (h1 : Q ≤ 4 * (R * R)) (h2 : (P + M) * (P + M) ≤ Q) : P + M ≤ 2 * R := by
  refine Int.not_lt.mp fun w => ?_
  have e1 : 0 ≤ (P + M - 2 * R) * (P + M + 2 * R) := Int.mul_nonneg (by omega) (by omega)
  have e2 : (P + M - 2 * R) * (P + M + 2 * R) = (P + M) * (P + M) - 4 * (R * R) := by grind
  have e3 : (P + M - 2 * R) * (P + M + 2 * R) = 0 := by omega
  rcases Int.mul_eq_zero.mp e3 with e | e <;> omega
theorem sq3 (e f g : Int) : (e + f + g) * (e + f + g) ≤ 3 * (e * e + f * f + g * g) := by
  have h1 := sq_nn (e - f); have h2 := sq_nn (f - g); have h3 := sq_nn (e - g)
  have i : 3 * (e * e + f * f + g * g) - (e + f + g) * (e + f + g) = (e - f) * (e - f) + (f - g) * (f - g) + (e - g) * (e - g) := by grind
  omega
theorem sq_le {u v : Int} (h0 : 0 ≤ u) (h : u ≤ v) : u * u ≤ v * v := Int.mul_le_mul h h h0 (by omega)
theorem fl_ex (w : Int) {a : Int} (ha : 1 ≤ a) : ∃ q, 4 * (a * q) ≤ w ∧ w < 4 * (a * q) + 4 * a := by
  refine ⟨w / (4 * a), ?_, ?_⟩
  · have := Int.ediv_mul_le w (b := 4 * a) (by omega)
    have e : 4 * (a * (w / (4 * a))) = w / (4 * a) * (4 * a) := by grind
    omega
  · have := Int.lt_ediv_add_one_mul_self w (b := 4 * a) (by omega)
    have e : 4 * (a * (w / (4 * a))) + 4 * a = (w / (4 * a) + 1) * (4 * a) := by grind
    omega
theorem fl2_ex (w : Int) {a : Int} (ha : 1 ≤ a) : ∃ q, 2 * (a * q) ≤ w ∧ w < 2 * (a * q) + 2 * a := by
  refine ⟨w / (2 * a), ?_, ?_⟩
  · have := Int.ediv_mul_le w (b := 2 * a) (by omega)
    have e : 2 * (a * (w / (2 * a))) = w / (2 * a) * (2 * a) := by grind
    omega
  · have := Int.lt_ediv_add_one_mul_self w (b := 2 * a) (by omega)
    have e : 2 * (a * (w / (2 * a))) + 2 * a = (w / (2 * a) + 1) * (2 * a) := by grind
    omega
theorem mlt {a s t : Int} (ha : 1 ≤ a) (h : a * s < a * t) : s < t := Int.lt_of_mul_lt_mul_left h (by omega)
/-- P against a P -/
theorem p_sq {a b P Z M : Int} (a0 : 1 ≤ a) (b1 : b < 4300) (eP : P = 4 * (a * b) - Z * Z) (P0 : 0 < P) (M0 : 0 ≤ M) (hM : M ≤ 644 * a) : (P + M) * (P + M) ≤ 18488 * (a * P) + M * M := by
  have z := sq_nn Z
  have h1 : a * b ≤ a * 4300 := Int.mul_le_mul_of_nonneg_left (by omega) (by omega)
  have h2 : P * P ≤ (17200 * a) * P := Int.mul_le_mul_of_nonneg_right (by omega) (by omega)
  have h3 : M * P ≤ (644 * a) * P := Int.mul_le_mul_of_nonneg_right hM (by omega)
  have e : (P + M) * (P + M) = P * P + 2 * (M * P) + M * M := by grind
  have e2 : (17200 * a) * P = 17200 * (a * P) := by grind
  have e3 : (644 * a) * P = 644 * (a * P) := by grind
  omega
/-- the two rounds Y, X when Z <= 2 a -/
theorem kx_le {a b Y Z W R P dT q q2 N N2 : Int} (a0 : 1 ≤ a) (a1 : a < 1300) (ab : a < b) (b1 : b < 4300) (Y0 : a ≤ Y) (Z0 : 0 ≤ Z) (eP : P = 4 * (a * b) - Z * Z) (P0 : 0 < P) (R0 : 0 ≤ R) (fr : P * (217600 * a - Y * Y) ≤ R * R) (K : 2 * R - P = 4 * (a * dT) + W * W - Y * Y) (hW : W = Y + Z - 2 * a ∨ W = -(Y + Z - 2 * a)) (W0 : 0 ≤ W) (hq : 4 * (a * q) ≤ Y * Y) (hq2 : W * W < 4 * (a * q2) + 4 * a) (hN : Y + a < 2 * (a * N) + 2 * a) (hN2 : 2 * (a * N2) ≤ W + a) (t : q2 - 7 * N2 ≤ 400) (hz : Z ≤ 2 * a) : q - 7 * N + 14 ≤ dT + (q2 - 7 * N2) := by
  have n2 : N2 < N + 1 := by
    apply mlt a0
    have e : a * (N + 1) = a * N + a := by grind
    omega
  have hP : 4 * a ≤ P := by
    have h1 := sq_le Z0 hz
    have h2 : a * (a + 1) ≤ a * b := Int.mul_le_mul_of_nonneg_left (by omega) (by omega)
    have e : a * (a + 1) = a * a + a := by grind
    have e2 : 2 * a * (2 * a) = 4 * (a * a) := by grind
    omega
  have hY : Y * Y ≤ 20800 * a := by
    have h1 : a * q2 ≤ a * (400 + 7 * N2) := Int.mul_le_mul_of_nonneg_left (by omega) (by omega)
    have e1 : a * (400 + 7 * N2) = 400 * a + 7 * (a * N2) := by grind
    have h2 := sq3 (W - 7) 7 (2 * a)
    have h3 := sq_le (show 0 ≤ Y by omega) (show Y ≤ W - 7 + 7 + 2 * a by omega)
    have e2 : (W - 7) * (W - 7) = W * W - 14 * W + 49 := by grind
    have e3 : 2 * a * (2 * a) = 4 * (a * a) := by grind
    have h4 : a * a ≤ a * 1299 := Int.mul_le_mul_of_nonneg_left (by omega) (by omega)
    omega
  have hR : 787200 * (a * P) ≤ 4 * (R * R) := by
    have h1 : P * (196800 * a) ≤ P * (217600 * a - Y * Y) := Int.mul_le_mul_of_nonneg_left (by omega) (by omega)
    have e : P * (196800 * a) = 196800 * (a * P) := by grind
    omega
  have hK : P + 56 * a ≤ 2 * R := by
    refine kap R0 (by omega) hR ?_
    have h1 := p_sq (M := 56 * a) a0 b1 eP P0 (by omega) (by omega)
    have h2 : a * (4 * a) ≤ a * P := Int.mul_le_mul_of_nonneg_left hP (by omega)
    have e : a * (4 * a) = 4 * (a * a) := by grind
    have e2 : 56 * a * (56 * a) = 3136 * (a * a) := by grind
    have h3 : 0 ≤ a * a := sq_nn a
    omega
  have k : 14 < dT + q2 + 1 - q := by
    apply mlt a0
    have e : a * (dT + q2 + 1 - q) = a * dT + a * q2 + a - a * q := by grind
    omega
  omega
/-- when Z > 2 a -/
theorem kx_gt {a b Y Z W R P dT q q2 N N2 j : Int} (a0 : 1 ≤ a) (a1 : a < 1300) (b1 : b < 4300) (Y0 : a ≤ Y) (j0 : 1 ≤ j) (eZ : Z = 2 * a + 2 * j) (eP : P = 4 * (a * b) - Z * Z) (P0 : 0 < P) (R0 : 0 ≤ R) (fr : P * (217600 * a - Y * Y) ≤ R * R) (K : 2 * R - P = 4 * (a * dT) + W * W - Y * Y) (hd : Y - a ≤ dT) (hW : W = Y + 2 * j) (hq : 4 * (a * q) ≤ Y * Y) (hq2 : W * W < 4 * (a * q2) + 4 * a) (hN : Y + a < 2 * (a * N) + 2 * a) (hN2 : 2 * (a * N2) ≤ W + a) : q - 7 * N + 14 ≤ dT + (q2 - 7 * N2) := by
  have hK : 84 * a + 28 * j ≤ 4 * (a * dT) + W * W - Y * Y := by
    by_cases c : 21 ≤ j + (Y - a)
    · have h1 : a * (Y - a) ≤ a * dT := Int.mul_le_mul_of_nonneg_left hd (by omega)
      have h2 : (a + j) * 21 ≤ (a + j) * (j + (Y - a)) := Int.mul_le_mul_of_nonneg_left c (by omega)
      have e : 4 * (a * (Y - a)) + W * W - Y * Y = 4 * ((a + j) * (j + (Y - a))) := by subst hW; grind
      omega
    · have hY : Y * Y ≤ 1740 * a := by
        have h1 := sq_le (show 0 ≤ Y by omega) (show Y ≤ a + 20 by omega)
        have e : (a + 20) * (a + 20) = a * a + 40 * a + 400 := by grind
        have h4 : a * a ≤ a * 1299 := Int.mul_le_mul_of_nonneg_left (by omega) (by omega)
        omega
      have hR : 863440 * (a * P) ≤ 4 * (R * R) := by
        have h1 : P * (215860 * a) ≤ P * (217600 * a - Y * Y) := Int.mul_le_mul_of_nonneg_left (by omega) (by omega)
        have e : P * (215860 * a) = 215860 * (a * P) := by grind
        omega
      have hp : 4 * a ≤ P + 1600 := by
        have e : P = 4 * (a * (b - a - 2 * j)) - 4 * (j * j) := by subst eP eZ; grind
        have h1 := sq_le (show 0 ≤ j by omega) (show j ≤ 20 by omega)
        have h0 := sq_nn j
        have i : 0 < b - a - 2 * j := mpos (a := a) (by omega) (by omega)
        have h2 : a * 1 ≤ a * (b - a - 2 * j) := Int.mul_le_mul_of_nonneg_left (by omega) (by omega)
        omega
      have hp4 : 4 ≤ P := by
        have e : P = 4 * (a * b - (a + j) * (a + j)) := by subst eP eZ; grind
        omega
      have := kap (P := P) (M := 84 * a + 28 * j) R0 (by omega) hR (by
        have h1 := p_sq (M := 84 * a + 28 * j) a0 b1 eP P0 (by omega) (by omega)
        have h2 := sq_le (show 0 ≤ 84 * a + 28 * j by omega) (show 84 * a + 28 * j ≤ 84 * a + 560 by omega)
        have e : (84 * a + 560) * (84 * a + 560) = 7056 * (a * a) + 94080 * a + 313600 := by grind
        have h3 : a * (7056 * a + 407680) ≤ a * (844952 * P) := Int.mul_le_mul_of_nonneg_left (by omega) (by omega)
        have e2 : a * (7056 * a + 407680) = 7056 * (a * a) + 407680 * a := by grind
        have e3 : a * (844952 * P) = 844952 * (a * P) := by grind
        omega)
      omega
  have k : 14 + 7 * (N2 - N) < dT + q2 + 1 - q := by
    apply mlt a0
    have e : a * (dT + q2 + 1 - q) = a * dT + a * q2 + a - a * q := by grind
    have e2 : a * (14 + 7 * (N2 - N)) = 14 * a + 7 * (a * N2) - 7 * (a * N) := by grind
    omega
  omega
theorem kx {a b Y Z W R P dT q q2 N N2 G ζ : Int} (a0 : 1 ≤ a) (a1 : a < 1300) (ab : a < b) (b1 : b < 4300) (Y0 : a ≤ Y) (Zev : Z = 2 * ζ) (Z0 : 0 ≤ Z) (eP : P = 4 * (a * b) - Z * Z) (P0 : 0 < P) (R0 : 0 ≤ R) (fr : P * (217600 * a - Y * Y) ≤ R * R) (K : 2 * R - P = 4 * (a * dT) + W * W - Y * Y) (hd : Y - a ≤ dT) (hW : W = Y + Z - 2 * a ∨ W = -(Y + Z - 2 * a)) (W0 : 0 ≤ W) (hq : 4 * (a * q) ≤ Y * Y) (hq2 : W * W < 4 * (a * q2) + 4 * a) (hN : Y + a < 2 * (a * N) + 2 * a) (hN2 : 2 * (a * N2) ≤ W + a) (N0 : 0 ≤ N) (hG : G ≤ q - 7 * N) (hG4 : G ≤ 400) : ∃ G2, G2 ≤ q2 - 7 * N2 ∧ G2 ≤ 400 ∧ G + 14 ≤ dT + G2 := by
  by_cases t : q2 - 7 * N2 ≤ 400
  · refine ⟨q2 - 7 * N2, Int.le_refl _, t, ?_⟩
    by_cases hz : Z ≤ 2 * a
    · have := kx_le a0 a1 ab b1 Y0 Z0 eP P0 R0 fr K hW W0 hq hq2 hN hN2 t hz
      omega
    · have := kx_gt (j := ζ - a) a0 a1 b1 Y0 (by omega) (by omega) eP P0 R0 fr K hd (by omega) hq hq2 hN hN2
      omega
  · refine ⟨400, by omega, Int.le_refl _, ?_⟩
    by_cases c : 14 ≤ dT
    · omega
    · have h1 := sq_le (show 0 ≤ Y by omega) (show Y ≤ a + 13 by omega)
      have e : (a + 13) * (a + 13) = a * a + 26 * a + 169 := by grind
      have h4 : a * a ≤ a * 1299 := Int.mul_le_mul_of_nonneg_left (by omega) (by omega)
      have : q < 374 := by
        apply mlt a0
        omega
      have : 0 ≤ Y - a := by omega
      omega
