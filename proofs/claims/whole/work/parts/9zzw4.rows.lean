/-! rows: linear forms in the root's six numbers (x, y, z halved) and a constant; certificates -/
abbrev Rw : Type := Int × Int × Int × Int × Int × Int × Int
def rwv : S6 → Rw → Int := fun (a, b, c, d, e, f) (p, q, r, s, t, u, k) => p * a + q * b + r * c + s * d + t * e + u * f + k
def rad : Rw → Rw → Rw := fun (a, b, c, d, e, f, g) (p, q, r, s, t, u, k) => (a + p, b + q, c + r, d + s, e + t, f + u, g + k)
def rsm (m : Int) : Rw → Rw := fun (a, b, c, d, e, f, g) => (m * a, m * b, m * c, m * d, m * e, m * f, m * g)
def rk (k : Int) : Rw := (0, 0, 0, 0, 0, 0, k)
def rng (r : Rw) : Rw := rad (rsm (-1) r) (rk (-1))
def qR : Vc → Rw := fun (i, j, k) => (i * i, j * j, k * k, 2 * (j * k), 2 * (i * k), 2 * (i * j), 0)
def bR : Vc → Vc → Rw := fun (i, j, k) (l, m, n) => (i * l, j * m, k * n, j * n + k * m, i * n + k * l, i * m + j * l, 0)
def rsu (r s : Rw) : Rw := rad r (rsm (-1) s)
theorem rwv_ad (t : S6) (r s : Rw) : rwv t (rad r s) = rwv t r + rwv t s := by
  obtain ⟨a, b, c, d, e, f⟩ := t; obtain ⟨p, q, u, v, w, x, k⟩ := r; obtain ⟨p', q', u', v', w', x', k'⟩ := s
  simp only [rwv, rad]; grind
theorem rwv_sm (t : S6) (m : Int) (r : Rw) : rwv t (rsm m r) = m * rwv t r := by
  obtain ⟨a, b, c, d, e, f⟩ := t; obtain ⟨p, q, u, v, w, x, k⟩ := r
  simp only [rwv, rsm]; grind
theorem rwv_k (t : S6) (k : Int) : rwv t (rk k) = k := by
  obtain ⟨a, b, c, d, e, f⟩ := t
  simp only [rwv, rk]; omega
theorem rwv_ng (t : S6) (r : Rw) : rwv t (rng r) = -rwv t r - 1 := by
  unfold rng; rw [rwv_ad, rwv_sm, rwv_k]; omega
theorem rwv_su (t : S6) (r s : Rw) : rwv t (rsu r s) = rwv t r - rwv t s := by
  unfold rsu; rw [rwv_ad, rwv_sm]; omega
theorem rwv_q (a b c d e f : Int) (p : Vc) : rwv (a, b, c, d, e, f) (qR p) = qv (db (a, b, c, d, e, f)) p := by
  obtain ⟨i, j, k⟩ := p
  simp only [rwv, qR, qv, db]; grind
theorem rwv_b (a b c d e f : Int) (p q : Vc) : 2 * rwv (a, b, c, d, e, f) (bR p q) = bv (db (a, b, c, d, e, f)) p q := by
  obtain ⟨i, j, k⟩ := p; obtain ⟨l, m, n⟩ := q
  simp only [rwv, bR, bv, db]; grind
def ieq : Int → Int → Bool
  | .ofNat a, .ofNat b => Nat.beq a b
  | .negSucc a, .negSucc b => Nat.beq a b
  | _, _ => false
def rbq : Rw → Rw → Bool := fun (a, b, c, d, e, f, g) (p, q, r, s, t, u, k) => ieq a p && (ieq b q && (ieq c r && (ieq d s && (ieq e t && (ieq f u && ieq g k)))))
theorem ibeq {a b : Int} (h : ieq a b = true) : a = b := by
  cases a <;> cases b
  · rw [Nat.eq_of_beq_eq_true h]
  · exact absurd h (by intro w; cases w)
  · exact absurd h (by intro w; cases w)
  · rw [Nat.eq_of_beq_eq_true h]
theorem rbq_eq {r s : Rw} (h : rbq r s = true) : r = s := by
  obtain ⟨p, q, u, v, w, x, k⟩ := r; obtain ⟨p', q', u', v', w', x', k'⟩ := s
  simp only [rbq, Bool.and_eq_true] at h
  obtain ⟨h1, h2, h3, h4, h5, h6, h7⟩ := h
  rw [ibeq h1, ibeq h2, ibeq h3, ibeq h4, ibeq h5, ibeq h6, ibeq h7]
def vbq : Vc → Vc → Bool := fun (a, b, c) (p, q, r) => ieq a p && (ieq b q && ieq c r)
theorem vbq_eq {r s : Vc} (h : vbq r s = true) : r = s := by
  obtain ⟨p, q, u⟩ := r; obtain ⟨p', q', u'⟩ := s
  simp only [vbq, Bool.and_eq_true] at h
  obtain ⟨h1, h2, h3⟩ := h
  rw [ibeq h1, ibeq h2, ibeq h3]
/-- a row of the list, from its end -/
def pick : List Rw → Nat → Rw
  | [], _ => (0, 0, 0, 0, 0, 0, 0)
  | r :: _, 0 => r
  | _ :: l, n + 1 => pick l n
/-- all rows hold -/
def Hol (t : S6) : List Rw → Prop
  | [] => True
  | r :: l => 0 ≤ rwv t r ∧ Hol t l
theorem Hol.pk {t : S6} : ∀ {l : List Rw} {n : Nat}, Hol t l → 0 ≤ rwv t (pick l n)
  | [], _, _ => by
    obtain ⟨a, b, c, d, e, f⟩ := t
    simp only [pick, rwv]; omega
  | _ :: _, 0, h => h.1
  | _ :: l, n + 1, h => Hol.pk (l := l) (n := n) h.2
/-- a certificate: a number, (row, factor) .., (vector, factor) .. -/
abbrev Ct : Type := Nat × List (Nat × Nat) × List (Vc × Nat)
def sumR (l : List Rw) : List (Nat × Nat) → Rw → Rw
  | [], a => a
  | (i, m) :: c, a => sumR l c (rad a (rsm m (pick l i)))
def vz : Vc → Bool := fun (a, b, c) => ieq a 0 && (ieq b 0 && ieq c 0)
def sumV : List (Vc × Nat) → Rw → Rw
  | [], a => a
  | (v, m) :: c, a => sumV c (rad a (rsm m (rad (qR v) (rk (-1)))))
def vok : List (Vc × Nat) → Bool
  | [] => true
  | (v, _) :: c => !vz v && vok c
/-- den r is the sum of the certificate and a constant not below 0 -/
def zer : Rw → Bool := fun (a, b, c, d, e, f, g) => ieq a 0 && (ieq b 0 && (ieq c 0 && (ieq d 0 && (ieq e 0 && (ieq f 0 && decide (0 ≤ g))))))
def imp (l : List Rw) (c : Ct) (r : Rw) : Bool := Nat.ble 1 c.1 && (vok c.2.2 && zer (rad (rsm c.1 r) (rsm (-1) (sumV c.2.2 (sumR l c.2.1 (rk 0))))))
theorem sumR_ge {t : S6} {l : List Rw} (h : Hol t l) : ∀ (c : List (Nat × Nat)) (a : Rw), rwv t a ≤ rwv t (sumR l c a)
  | [], a => Int.le_refl _
  | (i, m) :: c, a => by
    have w := sumR_ge h c (rad a (rsm m (pick l i)))
    rw [rwv_ad, rwv_sm] at w
    have := Int.mul_nonneg (Int.natCast_nonneg m) (h.pk (n := i))
    show rwv t a ≤ rwv t (sumR l c (rad a (rsm m (pick l i))))
    omega
theorem vz_ne {v : Vc} (h : vz v = false) : ¬ (v.1 = 0 ∧ v.2.1 = 0 ∧ v.2.2 = 0) := by
  obtain ⟨a, b, c⟩ := v
  rintro ⟨h1, h2, h3⟩
  have h1 : a = 0 := h1
  have h2 : b = 0 := h2
  have h3 : c = 0 := h3
  subst h1 h2 h3
  exact absurd h (by decide)
theorem sumV_ge {a b c d e f : Int} (ho : OKs (db (a, b, c, d, e, f))) : ∀ (l : List (Vc × Nat)) (r : Rw), vok l = true → rwv (a, b, c, d, e, f) r ≤ rwv (a, b, c, d, e, f) (sumV l r)
  | [], _, _ => Int.le_refl _
  | (v, m) :: l, r, h => by
    have h : (!vz v && vok l) = true := h
    rw [Bool.and_eq_true] at h
    have w := sumV_ge ho l (rad r (rsm m (rad (qR v) (rk (-1))))) h.2
    rw [rwv_ad, rwv_sm, rwv_ad, rwv_k, rwv_q] at w
    have p := qv_pos ho (vz_ne (by simpa using h.1))
    have := Int.mul_nonneg (Int.natCast_nonneg m) (show 0 ≤ qv (db (a, b, c, d, e, f)) v + -1 by omega)
    show rwv (a, b, c, d, e, f) r ≤ rwv (a, b, c, d, e, f) (sumV l (rad r (rsm m (rad (qR v) (rk (-1))))))
    omega
theorem zer_ge {t : S6} {r : Rw} (h : zer r = true) : 0 ≤ rwv t r := by
  obtain ⟨a, b, c, d, e, f⟩ := t; obtain ⟨p, q, u, v, w, x, k⟩ := r
  simp only [zer, Bool.and_eq_true, decide_eq_true_eq] at h
  obtain ⟨h1, h2, h3, h4, h5, h6, h7⟩ := h
  rw [ibeq h1, ibeq h2, ibeq h3, ibeq h4, ibeq h5, ibeq h6]
  simp only [rwv]
  omega
theorem imp_ge {a b c d e f : Int} (ho : OKs (db (a, b, c, d, e, f))) {l : List Rw} {ct : Ct} {r : Rw} (hl : Hol (a, b, c, d, e, f) l) (h : imp l ct r = true) : 0 ≤ rwv (a, b, c, d, e, f) r := by
  unfold imp at h
  rw [Bool.and_eq_true, Bool.and_eq_true] at h
  obtain ⟨h1, h2, h3⟩ := h
  have z := zer_ge (t := (a, b, c, d, e, f)) h3
  rw [rwv_ad, rwv_sm, rwv_sm] at z
  have s1 := sumV_ge ho ct.2.2 (sumR l ct.2.1 (rk 0)) h2
  have s2 := sumR_ge hl ct.2.1 (rk 0)
  rw [rwv_k] at s2
  have d1 : 1 ≤ ct.1 := Nat.le_of_ble_eq_true h1
  have p : 0 ≤ (ct.1 : Int) * rwv (a, b, c, d, e, f) r := by omega
  refine Int.not_lt.mp fun w => ?_
  have := Int.mul_neg_of_pos_of_neg (show (0 : Int) < ct.1 by omega) w
  omega
