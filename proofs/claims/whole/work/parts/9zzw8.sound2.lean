/-! the machine is sound: swaps, C by B, C by A -/
theorem beq_n {a b : Nat} (h : Nat.beq a b = true) : a = b := Nat.eq_of_beq_eq_true h
theorem sdS1 {t ρ u : S6} (E : Env t ρ u) {r0 r1 r2 r4 : Rw} {c : Cx} {l : List Cx} (h : stS1 r0 r1 r2 r4 c = some l) (R : Rfs t ρ u l) : ¬ Fct t ρ u c := by
  obtain ⟨st, g, K, p, q, r, P, H⟩ := c
  rintro ⟨hl, fc⟩
  obtain ⟨i, e⟩ := if_some h
  subst e
  simp only [Bool.and_eq_true] at i
  obtain ⟨i0, i1, i2, i3, i4⟩ := i
  have e0 := beq_n i0
  subst e0
  have e1 := rbq_eq i1; have e2 := rbq_eq i2; have e3 := rbq_eq i3; have e4 := rbq_eq i4
  obtain ⟨om, s, n, v, rn, sv, rd, g1, nr, hs⟩ := (show Fz1 t ρ u g K p q r H from fc)
  obtain ⟨z1, z2, z3⟩ := nrm_sz nr
  obtain ⟨s1, w1, hw, g2, n2, key⟩ := rnd_s1 g1 nr sv
  have rn' := rn.snoc sv
  have hs' := hs.nx sv
  have hT : tT (onB (db ρ) p q r) ≤ tT t ∧ tT t - tT (onB (db ρ) p q r) ≤ 10 * (K : Int) + 10 := by
    have a := sgR_abs g1
    have b := E.le rn
    have e : tT s = tT (onB (db ρ) p q r) := by
      obtain ⟨a1, b1, c1, x1, y1, z1⟩ := s
      obtain ⟨q1, q2, q3, _⟩ := a
      show a1 + b1 + c1 = qv (db ρ) p + qv (db ρ) q + qv (db ρ) r
      have q1 : a1 = qv (db ρ) p := q1
      have q2 : b1 = qv (db ρ) q := q2
      have q3 : c1 = qv (db ρ) r := q3
      omega
    have := (rn.ok E.2.1).2.1
    omega
  have hA := rq ρ p; have hB := rq ρ q
  rcases hw with ⟨k, ew⟩ | ⟨k, ew⟩
  · rw [onB_s1] at ew
    subst ew
    have nc1 : ¬ c1 (onB (db ρ) q p r) := by rw [← onB_s1]; exact c1_s1 k
    have om' : OKs (onB (db ρ) q p r) := by rw [← onB_s1]; exact OK_s1 om
    have hT' : tT (onB (db ρ) q p r) ≤ tT t ∧ tT t - tT (onB (db ρ) q p r) ≤ 10 * (K : Int) + 10 := by
      have e : tT (onB (db ρ) q p r) = tT (onB (db ρ) p q r) := by
        show qv (db ρ) q + qv (db ρ) p + qv (db ρ) r = qv (db ρ) p + qv (db ρ) q + qv (db ρ) r
        omega
      omega
    have k : qv (db ρ) q < qv (db ρ) p ∨ (qv (db ρ) p = qv (db ρ) q ∧ sz (bv (db ρ) p r) < sz (bv (db ρ) q r)) := k
    rcases k with k | ⟨k, k'⟩
    · refine R.2.1 ⟨⟨by rw [e2, rwv_ad, rwv_su, rwv_k]; omega, hl⟩, om', n, v, rn', rd, n2, nc1, key, hT', hs'⟩
    · refine R.2.2.1 ⟨⟨by rw [e4, rwv_ad, rwv_su, rwv_k]; omega, by rw [e1, rwv_su]; omega, by rw [e3, rwv_su]; omega, hl⟩, om', n, v, rn', rd, n2, nc1, key, hT', hs'⟩
  · subst ew
    have nc1 := k
    have k : ¬ (qv (db ρ) q < qv (db ρ) p ∨ (qv (db ρ) p = qv (db ρ) q ∧ sz (bv (db ρ) p r) < sz (bv (db ρ) q r))) := k
    refine R.1 ⟨⟨by rw [e1, rwv_su]; omega, hl⟩, om, n, v, rn', rd, n2, nc1, key, hT, hs'⟩
theorem cR_ge {t ρ u : S6} (E : Env t ρ u) {K : Nat} {v : S6} {T : Rw} (r : Rn (K + 1) t v) (e : tT v = rwv ρ T) : 0 ≤ rwv ρ (cRw (K + 1) T) := by
  unfold cRw
  rw [rwv_ad, rwv_k, rwv_su, rT0]
  have := E.2.2.2.2 (K + 1) v (by omega) r
  have := E.2.2.1
  omega
theorem sdS2 {t ρ u : S6} (E : Env t ρ u) {r0 r1 r2 r4 T kc w : Rw} {c : Cx} {l : List Cx} (h : stS2 r0 r1 r2 r4 T kc w c = some l) (R : Rfs t ρ u l) : ¬ Fct t ρ u c := by
  obtain ⟨st, g, K, p, q, r, P, H⟩ := c
  rintro ⟨hl, fc⟩
  obtain ⟨i, e⟩ := if_some h
  subst e
  simp only [Bool.and_eq_true] at i
  obtain ⟨i0, i1, i2, i3, i4, i5, i6, i7⟩ := i
  have e0 := beq_n i0
  subst e0
  have e1 := rbq_eq i1; have e2 := rbq_eq i2; have e3 := rbq_eq i3; have e4 := rbq_eq i4; have e5 := rbq_eq i5; have e6 := rbq_eq i6; have e7 := rbq_eq i7
  obtain ⟨om, n, v, rn, rd, nr, ab, key, hT, hs⟩ := (show Fz2 t ρ u g K p q r H from fc)
  obtain ⟨z1, z2, z3⟩ := nrm_sz nr
  have hB := rq ρ q; have hC := rq ρ r
  rcases key with ⟨k, sv, eT⟩ | ⟨k, ls⟩
  · rw [onB_s2] at sv
    have nw : sgR (onB (db ρ) p r q) (onB (db ρ) p r q) := nrm_sgR (g := g) (by
      cases g
      · have n : bv (db ρ) q r ≤ 0 ∧ bv (db ρ) p r ≤ 0 ∧ bv (db ρ) p q ≤ 0 := nr
        exact ⟨by show bv (db ρ) r q ≤ 0; rw [bv_comm]; exact n.1, n.2.2, n.2.1⟩
      · have n : 0 < bv (db ρ) q r ∧ 0 < bv (db ρ) p r ∧ 0 < bv (db ρ) p q := nr
        exact ⟨by show 0 < bv (db ρ) r q; rw [bv_comm]; exact n.1, n.2.2, n.2.1⟩)
    have eT' : tT v = rwv ρ T := by
      rw [e5, rT, eT]
      show qv (db ρ) p + qv (db ρ) q + qv (db ρ) r = qv (db ρ) p + qv (db ρ) r + qv (db ρ) q
      omega
    have ov := (rn.ok E.2.1).1
    have F : Fz0 t ρ u (K + 1) p r q (T :: H) := ⟨v, n, _, rn, rd, sv, nw, ⟨v, ov, eT', rfl⟩, hs⟩
    have hc : 0 ≤ rwv ρ kc := by rw [e6]; exact cR_ge E rn eT'
    have hw : 0 ≤ rwv ρ w := by rw [e7]; exact hs.w4r eT'
    have k : qv (db ρ) r < qv (db ρ) q ∨ (qv (db ρ) q = qv (db ρ) r ∧ sz (bv (db ρ) p q) < sz (bv (db ρ) p r)) := k
    rcases k with k | ⟨k, k'⟩
    · exact R.2.1 ⟨⟨hw, hc, by rw [e2, rwv_ad, rwv_su, rwv_k]; omega, hl⟩, F⟩
    · exact R.2.2.1 ⟨⟨hw, hc, by rw [e4, rwv_ad, rwv_su, rwv_k]; omega, by rw [e1, rwv_su]; omega, by rw [e3, rwv_su]; omega, hl⟩, F⟩
  · have nc2 := k
    have k : ¬ (qv (db ρ) r < qv (db ρ) q ∨ (qv (db ρ) q = qv (db ρ) r ∧ sz (bv (db ρ) p q) < sz (bv (db ρ) p r))) := k
    exact R.1 ⟨⟨by rw [e1, rwv_su]; omega, hl⟩, om, n, v, rn, rd, nr, ab, nc2, ls, hT, trivial, hs⟩
/-- the sign of the products -/
theorem nrm_sg {t : S6} {g : Bool} {p q r : Vc} (n : Nrm g (onB t p q r)) : (bv t q r ≠ 0 → sg (bv t q r) = gJ1 g) ∧ (bv t p r ≠ 0 → sg (bv t p r) = gJ1 g) ∧ (bv t p q ≠ 0 → sg (bv t p q) = gJ1 g) := by
  cases g
  · have n : bv t q r ≤ 0 ∧ bv t p r ≤ 0 ∧ bv t p q ≤ 0 := n
    have := sg_c (bv t q r); have := sg_c (bv t p r); have := sg_c (bv t p q)
    simp only [gJ1, Bool.false_eq_true, if_false]
    refine ⟨fun _ => by omega, fun _ => by omega, fun _ => by omega⟩
  · have n : 0 < bv t q r ∧ 0 < bv t p r ∧ 0 < bv t p q := n
    have := sg_c (bv t q r); have := sg_c (bv t p r); have := sg_c (bv t p q)
    simp only [gJ1, if_true]
    refine ⟨fun _ => by omega, fun _ => by omega, fun _ => by omega⟩
theorem sdX {t ρ u : S6} (E : Env t ρ u) {r' : Vc} {r0 r1 r2 r4 T kc w : Rw} {c : Cx} {l : List Cx} (h : stX r' r0 r1 r2 r4 T kc w c = some l) (R : Rfs t ρ u l) : ¬ Fct t ρ u c := by
  obtain ⟨st, g, K, p, q, r, P, H⟩ := c
  rintro ⟨hl, fc⟩
  obtain ⟨i, e⟩ := if_some h
  subst e
  simp only [Bool.and_eq_true] at i
  obtain ⟨i0, iv, i1, i2, i3, i4, i5, i6, i7⟩ := i
  have e0 := beq_n i0
  subst e0
  have ev := vbq_eq iv
  have e1 := rbq_eq i1; have e2 := rbq_eq i2; have e3 := rbq_eq i3; have e4 := rbq_eq i4; have e5 := rbq_eq i5; have e6 := rbq_eq i6; have e7 := rbq_eq i7
  obtain ⟨om, n, v, rn, rd, nr, ab, bc, ls, hT, _, hs⟩ := (show Fz3 t ρ u g K p q r H True from fc)
  obtain ⟨z1, z2, z3⟩ := nrm_sz nr
  have hB := rq ρ q
  have b0 : 0 < qv (db ρ) q := (show PD (qv (db ρ) p) (qv (db ρ) q) (qv (db ρ) r) (bv (db ρ) q r) (bv (db ρ) p r) (bv (db ρ) p q) from om).2.1
  by_cases k : cx (onB (db ρ) p q r)
  · have k' : qv (db ρ) q < sz (bv (db ρ) q r) ∨ (bv (db ρ) q r = qv (db ρ) q ∧ 2 * bv (db ρ) p r < bv (db ρ) p q) ∨ (bv (db ρ) q r = -qv (db ρ) q ∧ bv (db ρ) p q < 0) := k
    have x0 : bv (db ρ) q r ≠ 0 := fun w => by
      rw [w] at k'
      have : sz 0 = 0 := rfl
      omega
    have ex : v = onB (db ρ) p q r' := by
      have hv : v = xF (onB (db ρ) p q r) := by
        rcases ls with ⟨_, e, _⟩ | ⟨n1, _⟩ | ⟨n1, _⟩ | ⟨n1, _⟩ | ⟨n1, _⟩
        · exact e
        · exact absurd k n1
        · exact absurd k n1
        · exact absurd k n1
        · exact absurd k n1
      rw [hv, ev, ← (nrm_sg nr).1 x0]
      exact (onB_x (db ρ) p q r _ (sg_sq (bv (db ρ) q r))).symm
    have eT' : tT v = rwv ρ T := by rw [e5, rT, ex]
    have ov := (rn.ok E.2.1).1
    obtain ⟨w', hw'⟩ := sgR_ex v
    have F : Fz0 t ρ u (K + 1) p q r' (T :: H) := ⟨v, n, w', rn, rd, hw', by rw [← ex]; exact hw', ⟨v, ov, eT', rfl⟩, hs⟩
    have hc : 0 ≤ rwv ρ kc := by rw [e6]; exact cR_ge E rn eT'
    have hw : 0 ≤ rwv ρ w := by rw [e7]; exact hs.w4r eT'
    by_cases k2 : qv (db ρ) q < sz (bv (db ρ) q r)
    · exact R.1 ⟨⟨hw, hc, by rw [e2, rwv_ad, rwv_su, rwv_k, rwv_sm]; omega, hl⟩, F⟩
    · have f1 := rb ρ p q; have f2 := rb ρ p r
      have zx := sz_c (bv (db ρ) q r)
      have h4 : 0 ≤ rwv ρ r4 := by
        rw [e4]
        cases g
        · have n : bv (db ρ) q r ≤ 0 ∧ bv (db ρ) p r ≤ 0 ∧ bv (db ρ) p q ≤ 0 := nr
          simp only [Bool.false_eq_true, if_false, rwv_ad, rwv_sm, rwv_k]
          omega
        · have n : 0 < bv (db ρ) q r ∧ 0 < bv (db ρ) p r ∧ 0 < bv (db ρ) p q := nr
          simp only [if_true, rwv_ad, rwv_su, rwv_sm, rwv_k]
          omega
      exact R.2.1 ⟨⟨hw, hc, h4, by rw [e1, rwv_su, rwv_sm]; omega, by rw [e3, rwv_su, rwv_sm]; omega, hl⟩, F⟩
  · have k' : ¬ (qv (db ρ) q < sz (bv (db ρ) q r) ∨ (bv (db ρ) q r = qv (db ρ) q ∧ 2 * bv (db ρ) p r < bv (db ρ) p q) ∨ (bv (db ρ) q r = -qv (db ρ) q ∧ bv (db ρ) p q < 0)) := k
    exact R.2.2.1 ⟨⟨by rw [e1, rwv_su, rwv_sm]; omega, hl⟩, om, n, v, rn, rd, nr, ab, bc, ls, hT, k, hs⟩
theorem sdY {t ρ u : S6} (E : Env t ρ u) {r' : Vc} {r0 r1 r2 r4 T kc w : Rw} {c : Cx} {l : List Cx} (h : stY r' r0 r1 r2 r4 T kc w c = some l) (R : Rfs t ρ u l) : ¬ Fct t ρ u c := by
  obtain ⟨st, g, K, p, q, r, P, H⟩ := c
  rintro ⟨hl, fc⟩
  obtain ⟨i, e⟩ := if_some h
  subst e
  simp only [Bool.and_eq_true] at i
  obtain ⟨i0, iv, i1, i2, i3, i4, i5, i6, i7⟩ := i
  have e0 := beq_n i0
  subst e0
  have ev := vbq_eq iv
  have e1 := rbq_eq i1; have e2 := rbq_eq i2; have e3 := rbq_eq i3; have e4 := rbq_eq i4; have e5 := rbq_eq i5; have e6 := rbq_eq i6; have e7 := rbq_eq i7
  obtain ⟨om, n, v, rn, rd, nr, ab, bc, ls, hT, nx, hs⟩ := (show Fz3 t ρ u g K p q r H (¬ cx (onB (db ρ) p q r)) from fc)
  obtain ⟨z1, z2, z3⟩ := nrm_sz nr
  have hB := rq ρ p
  have b0 : 0 < qv (db ρ) p := (show PD (qv (db ρ) p) (qv (db ρ) q) (qv (db ρ) r) (bv (db ρ) q r) (bv (db ρ) p r) (bv (db ρ) p q) from om).1
  by_cases k : cy (onB (db ρ) p q r)
  · have k' : qv (db ρ) p < sz (bv (db ρ) p r) ∨ (bv (db ρ) p r = qv (db ρ) p ∧ 2 * bv (db ρ) q r < bv (db ρ) p q) ∨ (bv (db ρ) p r = -qv (db ρ) p ∧ bv (db ρ) p q < 0) := k
    have x0 : bv (db ρ) p r ≠ 0 := fun w => by
      rw [w] at k'
      have : sz 0 = 0 := rfl
      omega
    have ex : v = onB (db ρ) p q r' := by
      have hv : v = yF (onB (db ρ) p q r) := by
        rcases ls with ⟨n1, _⟩ | ⟨_, _, e, _⟩ | ⟨_, n1, _⟩ | ⟨_, n1, _⟩ | ⟨_, n1, _⟩
        · exact absurd n1 nx
        · exact e
        · exact absurd k n1
        · exact absurd k n1
        · exact absurd k n1
      rw [hv, ev, ← (nrm_sg nr).2.1 x0]
      exact (onB_y (db ρ) p q r _ (sg_sq (bv (db ρ) p r))).symm
    have eT' : tT v = rwv ρ T := by rw [e5, rT, ex]
    have ov := (rn.ok E.2.1).1
    obtain ⟨w', hw'⟩ := sgR_ex v
    have F : Fz0 t ρ u (K + 1) p q r' (T :: H) := ⟨v, n, w', rn, rd, hw', by rw [← ex]; exact hw', ⟨v, ov, eT', rfl⟩, hs⟩
    have hc : 0 ≤ rwv ρ kc := by rw [e6]; exact cR_ge E rn eT'
    have hw : 0 ≤ rwv ρ w := by rw [e7]; exact hs.w4r eT'
    by_cases k2 : qv (db ρ) p < sz (bv (db ρ) p r)
    · exact R.1 ⟨⟨hw, hc, by rw [e2, rwv_ad, rwv_su, rwv_k, rwv_sm]; omega, hl⟩, F⟩
    · have f1 := rb ρ p q; have f2 := rb ρ q r
      have zx := sz_c (bv (db ρ) p r)
      have h4 : 0 ≤ rwv ρ r4 := by
        rw [e4]
        cases g
        · have n : bv (db ρ) q r ≤ 0 ∧ bv (db ρ) p r ≤ 0 ∧ bv (db ρ) p q ≤ 0 := nr
          simp only [Bool.false_eq_true, if_false, rwv_ad, rwv_sm, rwv_k]
          omega
        · have n : 0 < bv (db ρ) q r ∧ 0 < bv (db ρ) p r ∧ 0 < bv (db ρ) p q := nr
          simp only [if_true, rwv_ad, rwv_su, rwv_sm, rwv_k]
          omega
      exact R.2.1 ⟨⟨hw, hc, h4, by rw [e1, rwv_su, rwv_sm]; omega, by rw [e3, rwv_su, rwv_sm]; omega, hl⟩, F⟩
  · have k' : ¬ (qv (db ρ) p < sz (bv (db ρ) p r) ∨ (bv (db ρ) p r = qv (db ρ) p ∧ 2 * bv (db ρ) q r < bv (db ρ) p q) ∨ (bv (db ρ) p r = -qv (db ρ) p ∧ bv (db ρ) p q < 0)) := k
    exact R.2.2.1 ⟨⟨by rw [e1, rwv_su, rwv_sm]; omega, hl⟩, om, n, v, rn, rd, nr, ab, bc, ls, hT, ⟨nx, k⟩, hs⟩
