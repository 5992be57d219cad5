/-! the machine is sound: closings; a run of the machine -/
theorem nc1_le {t : S6} {p q r : Vc} (h : ¬ c1 (onB t p q r)) : qv t p ≤ qv t q := by
  have h : ¬ (qv t q < qv t p ∨ (qv t p = qv t q ∧ sz (bv t p r) < sz (bv t q r))) := h
  omega
theorem nc2_le {t : S6} {p q r : Vc} (h : ¬ c2 (onB t p q r)) : qv t q ≤ qv t r := by
  have h : ¬ (qv t r < qv t q ∨ (qv t q = qv t r ∧ sz (bv t p q) < sz (bv t p r))) := h
  omega
/-- what every stage from 3 on says -/
theorem stg3 {t ρ u : S6} {st : Nat} {g : Bool} {K : Nat} {p q r : Vc} {H : List Rw} (h : Stg t ρ u st g K p q r H) (i : (Nat.beq st 3 || (Nat.beq st 4 || (Nat.beq st 5 || Nat.beq st 6))) = true) : ∃ X, Fz3 t ρ u g K p q r H X := by
  rw [Bool.or_eq_true, Bool.or_eq_true, Bool.or_eq_true] at i
  rcases i with i | i | i | i <;> have e := beq_n i <;> subst e <;> exact ⟨_, h⟩
def r3 (st : Nat) : Bool := Nat.beq st 3 || (Nat.beq st 4 || (Nat.beq st 5 || Nat.beq st 6))
/-- m + k - 2 (the product's size) -/
def lsW (g : Bool) (m p q : Vc) (k : Int) : Rw := rad (rad (qR m) (rk k)) (rsm (-2) (dR g p q))
def smW (g : Bool) (p q r : Vc) (k : Int) : Rw := rad (rad (rad (qR p) (qR q)) (rk k)) (rsm (-2) (rad (dR g q r) (rad (dR g p r) (dR g p q))))
/-- nearly reduced, a not small -/
def stNr (k1 k2 k3 k4 k5 : Ct) : Cx → Option (List Cx) := fun (st, g, K, p, q, r, P, _) =>
  if r3 st && (Nat.ble K 40 && (imp P k1 (lsW g q q r 60) && (imp P k2 (lsW g p p r 60) && (imp P k3 (lsW g p p q 60) && (imp P k4 (rad (qR p) (rk (-700))) && (g || imp P k5 (smW g p q r 400))))))) then some [] else none
/-- nearly reduced, a small, b not -/
def stSm (k1 k2 k3 k4 k5 : Ct) : Cx → Option (List Cx) := fun (st, g, K, p, q, r, P, _) =>
  if r3 st && (Nat.ble K 40 && (imp P k1 (lsW g q q r 60) && (imp P k2 (lsW g p p r 60) && (imp P k3 (lsW g p p q 60) && (imp P k4 (rsu (rk 1400) (qR p)) && imp P k5 (rad (qR q) (rk (-4000)))))))) then some [] else none
/-- B - A short -/
def stPp (k1 k2 k3 k4 k5 k6 k7 : Ct) : Cx → Option (List Cx) := fun (st, g, K, p, q, r, P, _) =>
  if r3 st && (Nat.ble K 40 && (g && (imp P k1 (rad (qR p) (rk (-1200))) && (imp P k2 (rsu (rad (rk 26) (rsm 2 (bR p q))) (rad (qR p) (qR q))) && (imp P k3 (rad (rsu (rsm 2 (bR p q)) (rsm 2 (qR p))) (rk 26)) && (imp P k4 (rad (rsu (rsm 2 (qR p)) (rsm 2 (bR p q))) (rk 26)) && (imp P k5 (rad (rsu (rsm 2 (bR q r)) (rsm 2 (bR p r))) (rk 26)) && (imp P k6 (rad (rsu (rsm 2 (bR p r)) (rsm 2 (bR q r))) (rk 26)) && imp P k7 (rsu (rad (qR p) (rk 60)) (rsm 2 (bR p r))))))))))) then some [] else none
theorem near_end {t ρ u : S6} (E : Env t ρ u) {g : Bool} {K : Nat} {p q r : Vc} {H : List Rw} {X : Prop} (h : Fz3 t ρ u g K p q r H X) : Bas (onB (db ρ) p q r) u ∧ (K ≤ 40 → 119589 < tT (onB (db ρ) p q r) - tT u) := by
  obtain ⟨om, n, v, rn, rd, nr, ab, bc, ls, hT, _, hs⟩ := h
  refine ⟨rd.bas ((Bas.refl _).ls ls), fun k => ?_⟩
  have := E.2.2.2.1
  omega
theorem sdNr {t ρ u : S6} (E : Env t ρ u) {k1 k2 k3 k4 k5 : Ct} {c : Cx} {l : List Cx} (h : stNr k1 k2 k3 k4 k5 c = some l) : ¬ Fct t ρ u c := by
  obtain ⟨st, g, K, p, q, r, P, H⟩ := c
  rintro ⟨hl, fc⟩
  obtain ⟨i, _⟩ := if_some h
  rw [Bool.and_eq_true, Bool.and_eq_true, Bool.and_eq_true, Bool.and_eq_true, Bool.and_eq_true, Bool.and_eq_true] at i
  obtain ⟨i0, iK, i1, i2, i3, i4, i5⟩ := i
  obtain ⟨X, f3⟩ := stg3 fc i0
  obtain ⟨B, far⟩ := near_end E f3
  have far := far (Nat.le_of_ble_eq_true iK)
  obtain ⟨om, n, v, rn, rd, nr, ab, bc, ls, hT, _, hs⟩ := f3
  obtain ⟨z1, z2, z3⟩ := nrm_sz nr
  have a1 := nc1_le ab; have a2 := nc2_le bc
  obtain ⟨a, b, c, d, e, f⟩ := ρ
  have j1 := imp_ge E.1 hl i1; have j2 := imp_ge E.1 hl i2; have j3 := imp_ge E.1 hl i3; have j4 := imp_ge E.1 hl i4
  unfold lsW at j1 j2 j3
  rw [rwv_ad, rwv_ad, rwv_k, rwv_sm, rq] at j1 j2 j3
  rw [rwv_ad, rwv_k, rq] at j4
  have T : tT (onB (db (a, b, c, d, e, f)) p q r) = qv (db (a, b, c, d, e, f)) p + qv (db (a, b, c, d, e, f)) q + qv (db (a, b, c, d, e, f)) r := rfl
  cases g
  · rw [Bool.false_or] at i5
    have j5 := imp_ge E.1 hl i5
    unfold smW at j5
    rw [rwv_ad, rwv_ad, rwv_ad, rwv_k, rwv_sm, rwv_ad, rwv_ad, rq, rq] at j5
    have n : bv (db (a, b, c, d, e, f)) q r ≤ 0 ∧ bv (db (a, b, c, d, e, f)) p r ≤ 0 ∧ bv (db (a, b, c, d, e, f)) p q ≤ 0 := nr
    have y1 := szn n.1; have y2 := szn n.2.1; have y3 := szn n.2.2
    have := near3 (e := 60) (s := 400) om B a1 a2 (by omega) (by omega) (by omega) (by omega) (by omega) (by omega) (by omega) (by omega) (by omega) (by omega)
    omega
  · have n : 0 < bv (db (a, b, c, d, e, f)) q r ∧ 0 < bv (db (a, b, c, d, e, f)) p r ∧ 0 < bv (db (a, b, c, d, e, f)) p q := nr
    have y1 := szp (Int.le_of_lt n.1); have y2 := szp (Int.le_of_lt n.2.1); have y3 := szp (Int.le_of_lt n.2.2)
    have := near3 (e := 60) (s := 400) om B a1 a2 (by omega) (by omega) (by omega) (by omega) (by omega) (by omega) (by omega) (by omega) (by omega) (by omega)
    omega
theorem sdSm {t ρ u : S6} (E : Env t ρ u) {k1 k2 k3 k4 k5 : Ct} {c : Cx} {l : List Cx} (h : stSm k1 k2 k3 k4 k5 c = some l) : ¬ Fct t ρ u c := by
  obtain ⟨st, g, K, p, q, r, P, H⟩ := c
  rintro ⟨hl, fc⟩
  obtain ⟨i, _⟩ := if_some h
  rw [Bool.and_eq_true, Bool.and_eq_true, Bool.and_eq_true, Bool.and_eq_true, Bool.and_eq_true, Bool.and_eq_true] at i
  obtain ⟨i0, iK, i1, i2, i3, i4, i5⟩ := i
  obtain ⟨X, f3⟩ := stg3 fc i0
  obtain ⟨B, far⟩ := near_end E f3
  have far := far (Nat.le_of_ble_eq_true iK)
  obtain ⟨om, n, v, rn, rd, nr, ab, bc, ls, hT, _, hs⟩ := f3
  obtain ⟨z1, z2, z3⟩ := nrm_sz nr
  have a1 := nc1_le ab; have a2 := nc2_le bc
  obtain ⟨a, b, c, d, e, f⟩ := ρ
  have j1 := imp_ge E.1 hl i1; have j2 := imp_ge E.1 hl i2; have j3 := imp_ge E.1 hl i3; have j4 := imp_ge E.1 hl i4; have j5 := imp_ge E.1 hl i5
  unfold lsW at j1 j2 j3
  rw [rwv_ad, rwv_ad, rwv_k, rwv_sm, rq] at j1 j2 j3
  rw [rwv_su, rwv_k, rq] at j4
  rw [rwv_ad, rwv_k, rq] at j5
  have T : tT (onB (db (a, b, c, d, e, f)) p q r) = qv (db (a, b, c, d, e, f)) p + qv (db (a, b, c, d, e, f)) q + qv (db (a, b, c, d, e, f)) r := rfl
  have := near_small om B (by omega) (by omega) a2 (by omega) (by omega) (by omega)
  omega
theorem Rn.app : ∀ {k j : Nat} {t v w : S6}, Rn k t v → Rn j v w → Rn (k + j) t w
  | 0, j, t, v, w, h, g => by
    have h : t = v := h
    rw [Nat.zero_add, h]
    exact g
  | k + 1, j, t, v, w, ⟨x, g0, h⟩, g => by
    rw [Nat.add_right_comm]
    exact ⟨x, g0, Rn.app h g⟩
theorem sdPp {t ρ u : S6} (E : Env t ρ u) {k1 k2 k3 k4 k5 k6 k7 : Ct} {c : Cx} {l : List Cx} (h : stPp k1 k2 k3 k4 k5 k6 k7 c = some l) : ¬ Fct t ρ u c := by
  obtain ⟨st, g, K, p, q, r, P, H⟩ := c
  rintro ⟨hl, fc⟩
  obtain ⟨i, _⟩ := if_some h
  rw [Bool.and_eq_true, Bool.and_eq_true, Bool.and_eq_true, Bool.and_eq_true, Bool.and_eq_true, Bool.and_eq_true, Bool.and_eq_true, Bool.and_eq_true, Bool.and_eq_true] at i
  obtain ⟨i0, iK, ig, i1, i2, i3, i4, i5, i6, i7⟩ := i
  obtain ⟨X, f3⟩ := stg3 fc i0
  obtain ⟨B, far⟩ := near_end E f3
  have hK := Nat.le_of_ble_eq_true iK
  have far := far hK
  obtain ⟨om, n, v, rn, rd, nr, ab, bc, ls, hT, _, hs⟩ := f3
  have a1 := nc1_le ab; have a2 := nc2_le bc
  subst ig
  obtain ⟨a, b, c, d, e, f⟩ := ρ
  have j1 := imp_ge E.1 hl i1; have j2 := imp_ge E.1 hl i2; have j3 := imp_ge E.1 hl i3; have j4 := imp_ge E.1 hl i4; have j5 := imp_ge E.1 hl i5; have j6 := imp_ge E.1 hl i6; have j7 := imp_ge E.1 hl i7
  rw [rwv_ad, rwv_k, rq] at j1
  rw [rwv_su, rwv_ad, rwv_ad, rwv_k, rwv_sm, rb, rq, rq] at j2
  rw [rwv_ad, rwv_su, rwv_sm, rwv_sm, rwv_k, rb] at j3 j4 j5 j6
  rw [rwv_su, rwv_ad, rwv_sm, rwv_k, rb, rq] at j7
  rw [rq] at j3
  rw [rq] at j4
  rw [rb] at j5
  rw [rb] at j6
  have n' : 0 < bv (db (a, b, c, d, e, f)) q r ∧ 0 < bv (db (a, b, c, d, e, f)) p r ∧ 0 < bv (db (a, b, c, d, e, f)) p q := nr
  have T : tT (onB (db (a, b, c, d, e, f)) p q r) = qv (db (a, b, c, d, e, f)) p + qv (db (a, b, c, d, e, f)) q + qv (db (a, b, c, d, e, f)) r := rfl
  have P12' : P12 (qv (db (a, b, c, d, e, f)) p) (qv (db (a, b, c, d, e, f)) q) (qv (db (a, b, c, d, e, f)) r) (bv (db (a, b, c, d, e, f)) q r) (bv (db (a, b, c, d, e, f)) p r) (bv (db (a, b, c, d, e, f)) p q) := by
    unfold P12
    omega
  have sv : stR (onB (db (a, b, c, d, e, f)) p q r) v True := ⟨_, Or.inr ⟨ab, rfl⟩, Or.inr ⟨bc, _, nrm_sgR nr, ls⟩⟩
  by_cases hb : qv (db (a, b, c, d, e, f)) q ≤ 118000
  · have := near_p12 om (Red.bas (n := n + 1) (p12_bas _ _ _ _ _ _) ⟨v, sv, rd⟩) P12' hb
    omega
  · refine far_p12 om P12' (by omega) (n := n + 1) (u := u) ⟨v, sv, rd⟩ (by omega) fun k w hw => ?_
    cases k with
    | zero =>
      have hw : onB (db (a, b, c, d, e, f)) p q r = w := hw
      rw [← hw, T]
      omega
    | succ k =>
      obtain ⟨v', g1, g2⟩ := hw
      have e := (stR_fn g1 sv).1
      rw [e] at g2
      have := E.2.2.2.2 (K + 1 + k) w (by omega) (rn.app g2)
      omega
/-- the z-check is reached, a small -/
def stZs (k1 k2 : Ct) : Cx → Option (List Cx) := fun (st, _, K, p, q, _, P, _) =>
  if Nat.beq st 5 && (Nat.ble K 7 && (imp P k1 (rsu (rk 1400) (qR p)) && imp P k2 (rad (qR q) (rk (-4100))))) then some [] else none
/-- the z-check is reached, a large -/
def stZl (k1 k2 : Ct) : Cx → Option (List Cx) := fun (st, g, K, p, q, r, P, _) =>
  if Nat.beq st 5 && (Nat.ble K 9 && (imp P k1 (rad (qR p) (rk (-1200))) && (g || imp P k2 (smW g p q r 400)))) then some [] else none
/-- what is known where the z-check is reached -/
theorem z_chk {t ρ u : S6} (E : Env t ρ u) {g : Bool} {K : Nat} {p q r : Vc} {H : List Rw} (h : Fz3 t ρ u g K p q r H (¬ cx (onB (db ρ) p q r) ∧ ¬ cy (onB (db ρ) p q r))) : sz (bv (db ρ) q r) ≤ qv (db ρ) q ∧ sz (bv (db ρ) p r) ≤ qv (db ρ) p ∧ sz (bv (db ρ) p q) < qv (db ρ) p + 10 * (K : Int) + 20 ∧ (cz (onB (db ρ) p q r) ∨ -(10 * (K : Int) + 20) < qv (db ρ) p + qv (db ρ) q + bv (db ρ) q r + bv (db ρ) p r + bv (db ρ) p q) := by
  obtain ⟨om, n, v, rn, rd, nr, ab, bc, ls, hT, ⟨nx, ny⟩, hs⟩ := h
  have nx' : ¬ (qv (db ρ) q < sz (bv (db ρ) q r) ∨ (bv (db ρ) q r = qv (db ρ) q ∧ 2 * bv (db ρ) p r < bv (db ρ) p q) ∨ (bv (db ρ) q r = -qv (db ρ) q ∧ bv (db ρ) p q < 0)) := nx
  have ny' : ¬ (qv (db ρ) p < sz (bv (db ρ) p r) ∨ (bv (db ρ) p r = qv (db ρ) p ∧ 2 * bv (db ρ) q r < bv (db ρ) p q) ∨ (bv (db ρ) p r = -qv (db ρ) p ∧ bv (db ρ) p q < 0)) := ny
  have ch := E.2.2.2.2 (K + 1) v (by omega) rn
  have T : tT (onB (db ρ) p q r) = qv (db ρ) p + qv (db ρ) q + qv (db ρ) r := rfl
  have zz := sz_c (bv (db ρ) p q)
  have sgz := sg_c (bv (db ρ) p q)
  refine ⟨by omega, by omega, ?_⟩
  rcases ls with ⟨n1, _⟩ | ⟨_, n1, _⟩ | ⟨_, _, k, e, _⟩ | ⟨_, _, nz, k, e, _⟩ | ⟨_, _, _, _, _, k⟩
  · exact absurd n1 nx
  · exact absurd n1 ny
  · have Tv : tT v = qv (db ρ) p + (qv (db ρ) p + qv (db ρ) q - sg (bv (db ρ) p q) * bv (db ρ) p q) + qv (db ρ) r := by rw [e]; rfl
    have es : sg (bv (db ρ) p q) * bv (db ρ) p q = sz (bv (db ρ) p q) := by
      rcases sgz with ⟨w, e⟩ | ⟨w, e⟩ <;> rw [e] <;> omega
    exact ⟨by omega, Or.inl k⟩
  · have nz' : ¬ (qv (db ρ) p < sz (bv (db ρ) p q) ∨ (bv (db ρ) p q = qv (db ρ) p ∧ 2 * bv (db ρ) q r < bv (db ρ) p r) ∨ (bv (db ρ) p q = -qv (db ρ) p ∧ bv (db ρ) p r < 0)) := nz
    have Tv : tT v = qv (db ρ) p + qv (db ρ) q + (qv (db ρ) r + (bv (db ρ) q r + bv (db ρ) p r + bv (db ρ) p q + qv (db ρ) p + qv (db ρ) q)) := by rw [e]; rfl
    exact ⟨by omega, Or.inr (by omega)⟩
  · exact absurd trivial k
theorem sdZs {t ρ u : S6} (E : Env t ρ u) {k1 k2 : Ct} {c : Cx} {l : List Cx} (h : stZs k1 k2 c = some l) : ¬ Fct t ρ u c := by
  obtain ⟨st, g, K, p, q, r, P, H⟩ := c
  rintro ⟨hl, fc⟩
  obtain ⟨i, _⟩ := if_some h
  rw [Bool.and_eq_true, Bool.and_eq_true, Bool.and_eq_true] at i
  obtain ⟨i0, iK, i1, i2⟩ := i
  have e0 := beq_n i0
  subst e0
  have hK := Nat.le_of_ble_eq_true iK
  obtain ⟨B, far⟩ := near_end E (show Fz3 t ρ u g K p q r H _ from fc)
  have far := far (by omega)
  obtain ⟨z1, z2, z3, z4⟩ := z_chk E (show Fz3 t ρ u g K p q r H _ from fc)
  obtain ⟨om, n, v, rn, rd, nr, ab, bc, ls, hT, _, hs⟩ := (show Fz3 t ρ u g K p q r H _ from fc)
  have a2 := nc2_le bc
  obtain ⟨a, b, c, d, e, f⟩ := ρ
  have j1 := imp_ge E.1 hl i1; have j2 := imp_ge E.1 hl i2
  rw [rwv_su, rwv_k, rq] at j1
  rw [rwv_ad, rwv_k, rq] at j2
  have T : tT (onB (db (a, b, c, d, e, f)) p q r) = qv (db (a, b, c, d, e, f)) p + qv (db (a, b, c, d, e, f)) q + qv (db (a, b, c, d, e, f)) r := rfl
  have := near_z om B (by omega) (by omega) a2 z1 z2 (by omega)
  omega
theorem sdZl {t ρ u : S6} (E : Env t ρ u) {k1 k2 : Ct} {c : Cx} {l : List Cx} (h : stZl k1 k2 c = some l) : ¬ Fct t ρ u c := by
  obtain ⟨st, g, K, p, q, r, P, H⟩ := c
  rintro ⟨hl, fc⟩
  obtain ⟨i, _⟩ := if_some h
  rw [Bool.and_eq_true, Bool.and_eq_true, Bool.and_eq_true] at i
  obtain ⟨i0, iK, i1, i2⟩ := i
  have e0 := beq_n i0
  subst e0
  have hK := Nat.le_of_ble_eq_true iK
  obtain ⟨B, far⟩ := near_end E (show Fz3 t ρ u g K p q r H _ from fc)
  have far := far (by omega)
  obtain ⟨z1, z2, z3, z4⟩ := z_chk E (show Fz3 t ρ u g K p q r H _ from fc)
  obtain ⟨om, n, v, rn, rd, nr, ab, bc, ls, hT, _, hs⟩ := (show Fz3 t ρ u g K p q r H _ from fc)
  obtain ⟨y1, y2, y3⟩ := nrm_sz nr
  have a1 := nc1_le ab; have a2 := nc2_le bc
  obtain ⟨a, b, c, d, e, f⟩ := ρ
  have j1 := imp_ge E.1 hl i1
  rw [rwv_ad, rwv_k, rq] at j1
  have T : tT (onB (db (a, b, c, d, e, f)) p q r) = qv (db (a, b, c, d, e, f)) p + qv (db (a, b, c, d, e, f)) q + qv (db (a, b, c, d, e, f)) r := rfl
  cases g
  · rw [Bool.false_or] at i2
    have j5 := imp_ge E.1 hl i2
    unfold smW at j5
    rw [rwv_ad, rwv_ad, rwv_ad, rwv_k, rwv_sm, rwv_ad, rwv_ad, rq, rq] at j5
    have n : bv (db (a, b, c, d, e, f)) q r ≤ 0 ∧ bv (db (a, b, c, d, e, f)) p r ≤ 0 ∧ bv (db (a, b, c, d, e, f)) p q ≤ 0 := nr
    have w1 := szn n.1; have w2 := szn n.2.1; have w3 := szn n.2.2
    have := near3 (e := 110) (s := 400) om B a1 a2 (by omega) (by omega) (by omega) (by omega) (by omega) (by omega) (by omega) (by omega) (by omega) (by omega)
    omega
  · have n : 0 < bv (db (a, b, c, d, e, f)) q r ∧ 0 < bv (db (a, b, c, d, e, f)) p r ∧ 0 < bv (db (a, b, c, d, e, f)) p q := nr
    have w1 := szp (Int.le_of_lt n.1); have w2 := szp (Int.le_of_lt n.2.1); have w3 := szp (Int.le_of_lt n.2.2)
    have := near3 (e := 110) (s := 400) om B a1 a2 (by omega) (by omega) (by omega) (by omega) (by omega) (by omega) (by omega) (by omega) (by omega) (by omega)
    omega
/-- B by A -/
def stZ (q' : Vc) (r0 r1 r2 r4 r5 T c w : Rw) : Cx → Option (List Cx) := fun (st, g, K, p, q, r, P, H) =>
  if Nat.beq st 5 && (vbq q' (vadd q (vsm (-gJ1 g) p)) && (rbq r0 (rsu (qR p) (rsm 2 (dR g p q))) && (rbq r1 (rad (rsu (rsm 2 (dR g p q)) (qR p)) (rk (-1))) && (rbq r2 (rsu (rsm 2 (dR g p q)) (qR p)) && (rbq r4 (if g then rad (rsu (bR p r) (rsm 2 (bR q r))) (rk (-1)) else rad (rsm (-1) (bR p r)) (rk (-1))) && (rbq r5 (if g then rk 0 else smW g p q r (10 * K + 19)) && (rbq T (tR p q' r) && (rbq c (cRw (K + 1) T) && rbq w (w4 H T))))))))) then
    some [(0, g, K + 1, p, q', r, w :: c :: r1 :: P, T :: H), (0, g, K + 1, p, q', r, w :: c :: r4 :: r0 :: r2 :: P, T :: H), (6, g, K, p, q, r, r5 :: r0 :: P, H)] else none
theorem sdZ {t ρ u : S6} (E : Env t ρ u) {q' : Vc} {r0 r1 r2 r4 r5 T kc w : Rw} {c : Cx} {l : List Cx} (h : stZ q' r0 r1 r2 r4 r5 T kc w c = some l) (R : Rfs t ρ u l) : ¬ Fct t ρ u c := by
  obtain ⟨st, g, K, p, q, r, P, H⟩ := c
  rintro ⟨hl, fc⟩
  obtain ⟨i, e⟩ := if_some h
  subst e
  simp only [Bool.and_eq_true] at i
  obtain ⟨i0, iv, i1, i2, i3, i4, i8, i5, i6, i7⟩ := i
  have e0 := beq_n i0
  subst e0
  have ev := vbq_eq iv
  have e1 := rbq_eq i1; have e2 := rbq_eq i2; have e3 := rbq_eq i3; have e4 := rbq_eq i4; have e5 := rbq_eq i5; have e6 := rbq_eq i6; have e7 := rbq_eq i7; have e8 := rbq_eq i8
  obtain ⟨q1, q2, q3, q4⟩ := z_chk E (show Fz3 t ρ u g K p q r H _ from fc)
  obtain ⟨om, n, v, rn, rd, nr, ab, bc, ls, hT, ⟨nx, ny⟩, hs⟩ := (show Fz3 t ρ u g K p q r H (¬ cx (onB (db ρ) p q r) ∧ ¬ cy (onB (db ρ) p q r)) from fc)
  obtain ⟨z1, z2, z3⟩ := nrm_sz nr
  have hA := rq ρ p; have hB := rq ρ q
  have b0 : 0 < qv (db ρ) p := (show PD (qv (db ρ) p) (qv (db ρ) q) (qv (db ρ) r) (bv (db ρ) q r) (bv (db ρ) p r) (bv (db ρ) p q) from om).1
  by_cases k : cz (onB (db ρ) p q r)
  · have k' : qv (db ρ) p < sz (bv (db ρ) p q) ∨ (bv (db ρ) p q = qv (db ρ) p ∧ 2 * bv (db ρ) q r < bv (db ρ) p r) ∨ (bv (db ρ) p q = -qv (db ρ) p ∧ bv (db ρ) p r < 0) := k
    have x0 : bv (db ρ) p q ≠ 0 := fun w => by
      rw [w] at k'
      have : sz 0 = 0 := rfl
      omega
    have ex : v = onB (db ρ) p q' r := by
      have hv : v = zF (onB (db ρ) p q r) := by
        rcases ls with ⟨n1, _⟩ | ⟨_, n1, _⟩ | ⟨_, _, _, e, _⟩ | ⟨_, _, n1, _⟩ | ⟨_, _, n1, _⟩
        · exact absurd n1 nx
        · exact absurd n1 ny
        · exact e
        · exact absurd k n1
        · exact absurd k n1
      rw [hv, ev, ← (nrm_sg nr).2.2 x0]
      exact (onB_z (db ρ) p q r _ (sg_sq (bv (db ρ) p q))).symm
    have eT' : tT v = rwv ρ T := by rw [e5, rT, ex]
    have ov := (rn.ok E.2.1).1
    obtain ⟨w', hw'⟩ := sgR_ex v
    have F : Fz0 t ρ u (K + 1) p q' r (T :: H) := ⟨v, n, w', rn, rd, hw', by rw [← ex]; exact hw', ⟨v, ov, eT', rfl⟩, hs⟩
    have hc : 0 ≤ rwv ρ kc := by rw [e6]; exact cR_ge E rn eT'
    have hw : 0 ≤ rwv ρ w := by rw [e7]; exact hs.w4r eT'
    by_cases k2 : qv (db ρ) p < sz (bv (db ρ) p q)
    · exact R.1 ⟨⟨hw, hc, by rw [e2, rwv_ad, rwv_su, rwv_k, rwv_sm]; omega, hl⟩, F⟩
    · have f1 := rb ρ p r; have f2 := rb ρ q r
      have zx := sz_c (bv (db ρ) p q)
      have h4 : 0 ≤ rwv ρ r4 := by
        rw [e4]
        cases g
        · have n : bv (db ρ) q r ≤ 0 ∧ bv (db ρ) p r ≤ 0 ∧ bv (db ρ) p q ≤ 0 := nr
          simp only [Bool.false_eq_true, if_false, rwv_ad, rwv_sm, rwv_k]
          omega
        · have n : 0 < bv (db ρ) q r ∧ 0 < bv (db ρ) p r ∧ 0 < bv (db ρ) p q := nr
          simp only [if_true, rwv_ad, rwv_su, rwv_sm, rwv_k]
          omega
      exact R.2.1 ⟨⟨hw, hc, h4, by rw [e1, rwv_su, rwv_sm]; omega, by rw [e3, rwv_su, rwv_sm]; omega, hl⟩, F⟩
  · have k' : ¬ (qv (db ρ) p < sz (bv (db ρ) p q) ∨ (bv (db ρ) p q = qv (db ρ) p ∧ 2 * bv (db ρ) q r < bv (db ρ) p r) ∨ (bv (db ρ) p q = -qv (db ρ) p ∧ bv (db ρ) p r < 0)) := k
    have h5 : 0 ≤ rwv ρ r5 := by
      rw [e8]
      rcases q4 with q4 | q4
      · exact absurd q4 k
      · cases g
        · have n : bv (db ρ) q r ≤ 0 ∧ bv (db ρ) p r ≤ 0 ∧ bv (db ρ) p q ≤ 0 := nr
          have w1 := szn n.1; have w2 := szn n.2.1; have w3 := szn n.2.2
          simp only [Bool.false_eq_true, if_false]
          unfold smW
          rw [rwv_ad, rwv_ad, rwv_ad, rwv_k, rwv_sm, rwv_ad, rwv_ad, rq, rq]
          omega
        · simp only [if_true, rwv_k]
          omega
    exact R.2.2.1 ⟨⟨h5, by rw [e1, rwv_su, rwv_sm]; omega, hl⟩, om, n, v, rn, rd, nr, ab, bc, ls, hT, ⟨nx, ny, k⟩, hs⟩
