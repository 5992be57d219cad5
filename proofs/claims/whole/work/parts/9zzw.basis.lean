/-! the basis behind a state: three vectors over the root's basis -/
abbrev Vc : Type := Int × Int × Int
/-- twice the product of two vectors in the form t -/
def bv : S6 → Vc → Vc → Int := fun (a, b, c, x, y, z) (i, j, k) (l, m, n) => 2 * (a * (i * l)) + 2 * (b * (j * m)) + 2 * (c * (k * n)) + x * (j * n + k * m) + y * (i * n + k * l) + z * (i * m + j * l)
/-- the form's value -/
def qv : S6 → Vc → Int := fun (a, b, c, x, y, z) (i, j, k) => a * (i * i) + b * (j * j) + c * (k * k) + x * (j * k) + y * (i * k) + z * (i * j)
def dt3 : Vc → Vc → Vc → Int := fun (a, b, c) (d, e, f) (g, h, i) => a * (e * i - f * h) - b * (d * i - f * g) + c * (d * h - e * g)
/-- the form on three vectors -/
def onB (t : S6) (p q r : Vc) : S6 := (qv t p, qv t q, qv t r, bv t q r, bv t p r, bv t p q)
def vadd : Vc → Vc → Vc := fun (a, b, c) (d, e, f) => (a + d, b + e, c + f)
def vsm (s : Int) : Vc → Vc := fun (a, b, c) => (s * a, s * b, s * c)
theorem bv_comm (t : S6) (p q : Vc) : bv t p q = bv t q p := by
  obtain ⟨a, b, c, x, y, z⟩ := t; obtain ⟨i, j, k⟩ := p; obtain ⟨l, m, n⟩ := q
  simp only [bv]; grind
theorem qv_add (t : S6) (p q : Vc) (s : Int) (hs : s * s = 1) : qv t (vadd p (vsm s q)) = qv t p + qv t q + s * bv t p q := by
  obtain ⟨a, b, c, x, y, z⟩ := t; obtain ⟨i, j, k⟩ := p; obtain ⟨l, m, n⟩ := q
  simp only [qv, bv, vadd, vsm]
  grind
theorem bv_add (t : S6) (p q r : Vc) (s : Int) : bv t (vadd p (vsm s q)) r = bv t p r + s * bv t q r := by
  obtain ⟨a, b, c, x, y, z⟩ := t; obtain ⟨i, j, k⟩ := p; obtain ⟨l, m, n⟩ := q; obtain ⟨f, g, h⟩ := r
  simp only [bv, vadd, vsm]
  grind
theorem bv_self (t : S6) (p : Vc) : bv t p p = 2 * qv t p := by
  obtain ⟨a, b, c, x, y, z⟩ := t; obtain ⟨i, j, k⟩ := p
  simp only [bv, qv]
  grind
theorem bv_sm (t : S6) (p q : Vc) (s : Int) : bv t (vsm s p) q = s * bv t p q := by
  obtain ⟨a, b, c, x, y, z⟩ := t; obtain ⟨i, j, k⟩ := p; obtain ⟨l, m, n⟩ := q
  simp only [bv, vsm]
  grind
theorem qv_sm (t : S6) (p : Vc) (s : Int) (hs : s * s = 1) : qv t (vsm s p) = qv t p := by
  obtain ⟨a, b, c, x, y, z⟩ := t; obtain ⟨i, j, k⟩ := p
  simp only [qv, vsm]
  grind
theorem bv_add' (t : S6) (p q r : Vc) (s : Int) : bv t r (vadd p (vsm s q)) = bv t r p + s * bv t r q := by
  rw [bv_comm, bv_add, bv_comm t p r, bv_comm t q r]
theorem bv_sm' (t : S6) (p q : Vc) (s : Int) : bv t q (vsm s p) = s * bv t q p := by
  rw [bv_comm, bv_sm, bv_comm]
theorem dt_sw1 (p q r : Vc) : dt3 q p r = -dt3 p q r := by
  obtain ⟨a, b, c⟩ := p; obtain ⟨i, j, k⟩ := q; obtain ⟨l, m, n⟩ := r
  simp only [dt3]; grind
theorem dt_sw2 (p q r : Vc) : dt3 p r q = -dt3 p q r := by
  obtain ⟨a, b, c⟩ := p; obtain ⟨i, j, k⟩ := q; obtain ⟨l, m, n⟩ := r
  simp only [dt3]; grind
theorem dt_32 (p q r : Vc) (s : Int) : dt3 p q (vadd r (vsm s q)) = dt3 p q r := by
  obtain ⟨a, b, c⟩ := p; obtain ⟨i, j, k⟩ := q; obtain ⟨l, m, n⟩ := r
  simp only [dt3, vadd, vsm]; grind
theorem dt_31 (p q r : Vc) (s : Int) : dt3 p q (vadd r (vsm s p)) = dt3 p q r := by
  obtain ⟨a, b, c⟩ := p; obtain ⟨i, j, k⟩ := q; obtain ⟨l, m, n⟩ := r
  simp only [dt3, vadd, vsm]; grind
theorem dt_21 (p q r : Vc) (s : Int) : dt3 p (vadd q (vsm s p)) r = dt3 p q r := by
  obtain ⟨a, b, c⟩ := p; obtain ⟨i, j, k⟩ := q; obtain ⟨l, m, n⟩ := r
  simp only [dt3, vadd, vsm]; grind
theorem dt_sm (p q r : Vc) (s u v : Int) : dt3 (vsm s p) (vsm u q) (vsm v r) = s * u * v * dt3 p q r := by
  obtain ⟨a, b, c⟩ := p; obtain ⟨i, j, k⟩ := q; obtain ⟨l, m, n⟩ := r
  simp only [dt3, vsm]; grind
def U1 (d : Int) : Prop := d = 1 ∨ d = -1
/-- s is the form t on a basis -/
def Bas (t s : S6) : Prop := ∃ p q r, s = onB t p q r ∧ U1 (dt3 p q r)
theorem Bas.refl (t : S6) : Bas t t := by
  obtain ⟨a, b, c, x, y, z⟩ := t
  refine ⟨(1, 0, 0), (0, 1, 0), (0, 0, 1), ?_, Or.inl (by simp [dt3])⟩
  simp only [onB, qv, bv]
  refine Prod.ext (by simp) (Prod.ext (by simp) (Prod.ext (by simp) (Prod.ext (by simp) (Prod.ext (by simp) (by simp)))))
theorem onB_s1 (t : S6) (p q r : Vc) : s1F (onB t p q r) = onB t q p r := by
  simp only [onB, s1F]
  rw [bv_comm t p q]
theorem onB_s2 (t : S6) (p q r : Vc) : s2F (onB t p q r) = onB t p r q := by
  simp only [onB, s2F]
  rw [bv_comm t q r]
theorem onB_x (t : S6) (p q r : Vc) (s : Int) (hs : s * s = 1) : onB t p q (vadd r (vsm (-s) q)) = (qv t p, qv t q, qv t q + qv t r - s * bv t q r, bv t q r - 2 * s * qv t q, bv t p r - s * bv t p q, bv t p q) := by
  simp only [onB, qv_add t r q (-s) (by grind), bv_add', bv_self, bv_comm t r q]
  refine Prod.ext rfl (Prod.ext rfl (Prod.ext (by grind) (Prod.ext (by grind) (Prod.ext (by grind) rfl))))
theorem onB_y (t : S6) (p q r : Vc) (s : Int) (hs : s * s = 1) : onB t p q (vadd r (vsm (-s) p)) = (qv t p, qv t q, qv t p + qv t r - s * bv t p r, bv t q r - s * bv t p q, bv t p r - 2 * s * qv t p, bv t p q) := by
  simp only [onB, qv_add t r p (-s) (by grind), bv_add', bv_self, bv_comm t r p, bv_comm t q p]
  refine Prod.ext rfl (Prod.ext rfl (Prod.ext (by grind) (Prod.ext (by grind) (Prod.ext (by grind) rfl))))
theorem onB_z (t : S6) (p q r : Vc) (s : Int) (hs : s * s = 1) : onB t p (vadd q (vsm (-s) p)) r = (qv t p, qv t p + qv t q - s * bv t p q, qv t r, bv t q r - s * bv t p r, bv t p r, bv t p q - 2 * s * qv t p) := by
  simp only [onB, qv_add t q p (-s) (by grind), bv_add', bv_add, bv_self, bv_comm t q p]
  refine Prod.ext rfl (Prod.ext (by grind) (Prod.ext rfl (Prod.ext (by grind) (Prod.ext rfl (by grind)))))
theorem onB_s (t : S6) (p q r : Vc) : onB t p q (vadd (vadd r (vsm 1 p)) (vsm 1 q)) = (qv t p, qv t q, qv t r + (bv t q r + bv t p r + bv t p q + qv t p + qv t q), 2 * qv t q + bv t q r + bv t p q, 2 * qv t p + bv t p r + bv t p q, bv t p q) := by
  simp only [onB, qv_add t _ q 1 rfl, qv_add t _ p 1 rfl, bv_add', bv_add, bv_self, bv_comm t r q, bv_comm t r p, bv_comm t q p]
  refine Prod.ext rfl (Prod.ext rfl (Prod.ext (by grind) (Prod.ext (by grind) (Prod.ext (by grind) rfl))))
theorem onB_sg (t : S6) (p q r : Vc) (s u v : Int) (hs : s * s = 1) (hu : u * u = 1) (hv : v * v = 1) : onB t (vsm s p) (vsm u q) (vsm v r) = (qv t p, qv t q, qv t r, u * v * bv t q r, s * v * bv t p r, s * u * bv t p q) := by
  simp only [onB, qv_sm t _ _ hs, qv_sm t _ _ hu, qv_sm t _ _ hv, bv_sm, bv_sm']
  refine Prod.ext rfl (Prod.ext rfl (Prod.ext rfl (Prod.ext (by grind) (Prod.ext (by grind) (by grind)))))
theorem U1.neg {d e : Int} (h : U1 d) (q : e = -d) : U1 e := by unfold U1 at *; omega
theorem U1.ml {d s u v : Int} (h : U1 d) (hs : U1 s) (hu : U1 u) (hv : U1 v) : U1 (s * u * v * d) := by
  rcases h with h | h <;> rcases hs with hs | hs <;> rcases hu with hu | hu <;> rcases hv with hv | hv <;> subst h hs hu hv <;> simp [U1]
theorem U1.sq {s : Int} (h : U1 s) : s * s = 1 := by rcases h with h | h <;> subst h <;> rfl
/-- signs that make |x|, |y|, |z| of x, y, z -/
theorem sg_ex {x y z : Int} (h : posi x y z) : ∃ s u v, U1 s ∧ U1 u ∧ U1 v ∧ u * v * x = sz x ∧ s * v * y = sz y ∧ s * u * z = sz z := by
  unfold posi at h
  have := sz_c x; have := sz_c y; have := sz_c z
  by_cases hx : x < 0 <;> by_cases hy : y < 0 <;> by_cases hz : z < 0
  · exfalso; omega
  · exact ⟨1, 1, -1, Or.inl rfl, Or.inl rfl, Or.inr rfl, by omega, by omega, by omega⟩
  · exact ⟨1, -1, 1, Or.inl rfl, Or.inr rfl, Or.inl rfl, by omega, by omega, by omega⟩
  · exfalso; omega
  · exact ⟨-1, 1, 1, Or.inr rfl, Or.inl rfl, Or.inl rfl, by omega, by omega, by omega⟩
  · exfalso; omega
  · exfalso; omega
  · exact ⟨1, 1, 1, Or.inl rfl, Or.inl rfl, Or.inl rfl, by omega, by omega, by omega⟩
theorem sg_en {x y z : Int} (h : ¬ posi x y z) : ∃ s u v, U1 s ∧ U1 u ∧ U1 v ∧ u * v * x = -sz x ∧ s * v * y = -sz y ∧ s * u * z = -sz z := by
  unfold posi at h
  have := sz_c x; have := sz_c y; have := sz_c z
  have c0 : ∀ s u v : Int, (s = 1 ∨ s = -1) → (u = 1 ∨ u = -1) → (v = 1 ∨ v = -1) → (u * v * x = -sz x ∧ s * v * y = -sz y ∧ s * u * z = -sz z) → ∃ s u v, U1 s ∧ U1 u ∧ U1 v ∧ u * v * x = -sz x ∧ s * v * y = -sz y ∧ s * u * z = -sz z := fun s u v h1 h2 h3 h4 => ⟨s, u, v, h1, h2, h3, h4⟩
  by_cases q1 : (x ≤ 0 ∧ y ≤ 0 ∧ z ≤ 0)
  · exact c0 1 1 1 (Or.inl rfl) (Or.inl rfl) (Or.inl rfl) ⟨by omega, by omega, by omega⟩
  by_cases q2 : (x ≤ 0 ∧ 0 ≤ y ∧ 0 ≤ z)
  · exact c0 (-1) 1 1 (Or.inr rfl) (Or.inl rfl) (Or.inl rfl) ⟨by omega, by omega, by omega⟩
  by_cases q3 : (0 ≤ x ∧ y ≤ 0 ∧ 0 ≤ z)
  · exact c0 1 (-1) 1 (Or.inl rfl) (Or.inr rfl) (Or.inl rfl) ⟨by omega, by omega, by omega⟩
  · exact c0 1 1 (-1) (Or.inl rfl) (Or.inl rfl) (Or.inr rfl) ⟨by omega, by omega, by omega⟩
theorem Bas.s1 {t s : S6} (h : Bas t s) : Bas t (s1F s) := by
  obtain ⟨p, q, r, e, d⟩ := h
  subst e
  exact ⟨q, p, r, onB_s1 t p q r, d.neg (dt_sw1 p q r)⟩
theorem Bas.s2 {t s : S6} (h : Bas t s) : Bas t (s2F s) := by
  obtain ⟨p, q, r, e, d⟩ := h
  subst e
  exact ⟨p, r, q, onB_s2 t p q r, d.neg (dt_sw2 p q r)⟩
theorem Bas.sig {t s w : S6} (h : Bas t s) (g : sgR s w) : Bas t w := by
  obtain ⟨p, q, r, e, d⟩ := h
  subst e
  rcases g with ⟨g, e⟩ | ⟨g, e⟩ <;> subst e
  · obtain ⟨s, u, v, h1, h2, h3, e1, e2, e3⟩ := sg_ex (show posi (bv t q r) (bv t p r) (bv t p q) from g)
    refine ⟨vsm s p, vsm u q, vsm v r, ?_, by rw [dt_sm]; exact d.ml h1 h2 h3⟩
    rw [onB_sg t p q r s u v h1.sq h2.sq h3.sq, e1, e2, e3]
    rfl
  · obtain ⟨s, u, v, h1, h2, h3, e1, e2, e3⟩ := sg_en (show ¬ posi (bv t q r) (bv t p r) (bv t p q) from g)
    refine ⟨vsm s p, vsm u q, vsm v r, ?_, by rw [dt_sm]; exact d.ml h1 h2 h3⟩
    rw [onB_sg t p q r s u v h1.sq h2.sq h3.sq, e1, e2, e3]
    rfl
theorem Bas.ls {t s w : S6} {m : Prop} (h : Bas t s) (g : lsR s w m) : Bas t w := by
  obtain ⟨p, q, r, e, d⟩ := h
  rcases g with ⟨_, w, _⟩ | ⟨_, _, w, _⟩ | ⟨_, _, _, w, _⟩ | ⟨_, _, _, _, w, _⟩ | ⟨_, _, _, _, w, _⟩ <;> rw [w, e]
  · exact ⟨p, q, vadd r (vsm (-sg (bv t q r)) q), (onB_x t p q r _ (sg_sq _)).symm, by rw [dt_32]; exact d⟩
  · exact ⟨p, q, vadd r (vsm (-sg (bv t p r)) p), (onB_y t p q r _ (sg_sq _)).symm, by rw [dt_31]; exact d⟩
  · exact ⟨p, vadd q (vsm (-sg (bv t p q)) p), r, (onB_z t p q r _ (sg_sq _)).symm, by rw [dt_21]; exact d⟩
  · exact ⟨p, q, vadd (vadd r (vsm 1 p)) (vsm 1 q), (onB_s t p q r).symm, by rw [dt_32, dt_31]; exact d⟩
  · exact ⟨p, q, r, rfl, d⟩
theorem Bas.st {t s w : S6} {m : Prop} (h : Bas t s) (g : stR s w m) : Bas t w := by
  obtain ⟨v, hv, g⟩ := g
  have b1 : Bas t v := by
    rcases hv with ⟨_, e⟩ | ⟨_, e⟩ <;> subst e
    · exact h.s1
    · exact h
  rcases g with ⟨_, e, _⟩ | ⟨_, u, hu, g⟩
  · subst e; exact b1.s2
  · exact (b1.sig hu).ls g
theorem Red.bas : ∀ {n : Nat} {t s u : S6}, Bas t s → Red n s u → Bas t u
  | 0, _, _, _, h, r => h.st r
  | n + 1, _, _, _, h, ⟨_, g, r⟩ => Red.bas (h.st g) r
theorem Rn.bas : ∀ {n : Nat} {t s u : S6}, Bas t s → Rn n s u → Bas t u
  | 0, _, _, _, h, r => by
    have r : _ = _ := r
    rw [← r]; exact h
  | n + 1, _, _, _, h, ⟨_, g, r⟩ => Rn.bas (h.st g) r
