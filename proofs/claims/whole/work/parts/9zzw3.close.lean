/-! closings: a small, b large; B - A short -/
theorem mul_bd {u v U V : Int} (h1 : -U ≤ u) (h2 : u ≤ U) (h3 : -V ≤ v) (h4 : v ≤ V) : -(U * V) ≤ u * v ∧ u * v ≤ U * V := by
  have a1 : 0 ≤ (U - u) * (V + v) := Int.mul_nonneg (by omega) (by omega)
  have a2 : 0 ≤ (U + u) * (V - v) := Int.mul_nonneg (by omega) (by omega)
  have a3 : 0 ≤ (U - u) * (V - v) := Int.mul_nonneg (by omega) (by omega)
  have a4 : 0 ≤ (U + u) * (V + v) := Int.mul_nonneg (by omega) (by omega)
  have e1 : (U - u) * (V + v) + (U + u) * (V - v) = 2 * (U * V) - 2 * (u * v) := by grind
  have e2 : (U - u) * (V - v) + (U + u) * (V + v) = 2 * (U * V) + 2 * (u * v) := by grind
  omega
/-- C1 where a is small and b is not -/
theorem near_small {a b c x y z : Int} {u : S6} (ho : OKs (a, b, c, x, y, z)) (h : Bas (a, b, c, x, y, z) u) (a1 : a ≤ 1400) (hb : 4000 ≤ b) (bc : b ≤ c) (hx : sz x ≤ b + 60) (hy : sz y ≤ a + 60) (hz : sz z ≤ a + 60) : a + b + c - tT u ≤ 12000 := by
  have a0 : 0 < a := (show PD a b c x y z from ho).1
  have zx := sz_c x; have zy := sz_c y; have zz := sz_c z
  obtain ⟨m1, m2⟩ := mul_bd (u := a) (v := x) (U := a) (V := b + 60) (by omega) (by omega) (by omega) (by omega)
  obtain ⟨m3, m4⟩ := mul_bd (u := y) (v := z) (U := a + 60) (V := a + 60) (by omega) (by omega) (by omega) (by omega)
  obtain ⟨m5, m6⟩ := mul_bd (u := y) (v := y) (U := a + 60) (V := a + 60) (by omega) (by omega) (by omega) (by omega)
  obtain ⟨m7, m8⟩ := mul_bd (u := z) (v := z) (U := a + 60) (V := a + 60) (by omega) (by omega) (by omega) (by omega)
  have e1 : a * (b + 60) = a * b + 60 * a := by grind
  have e2 : (a + 60) * (a + 60) = a * a + 120 * a + 3600 := by grind
  have b1 : a * 4000 ≤ a * b := Int.mul_le_mul_of_nonneg_left hb (by omega)
  have b2 : a * b ≤ a * c := Int.mul_le_mul_of_nonneg_left bc (by omega)
  have q1 : 0 ≤ (a - 1) * (1400 - a) := Int.mul_nonneg (by omega) (by omega)
  have q2 : (a - 1) * (1400 - a) = 1401 * a - a * a - 1400 := by grind
  have w := end_proj (t := 240 * a + 3 * (a * a + 120 * a + 3600)) ho h (by omega) (by omega) (by omega) (by omega) (by have := sq_nn a; omega) (by omega) (by omega)
  have e3 : a * (a + b + c) = a * (a + b + c - tT u) + a * tT u := by grind
  have fin : a * (a + b + c - tT u) ≤ a * 12000 := by omega
  exact Int.le_of_mul_le_mul_left fin a0
/-- the same at a z-step that is not dear -/
theorem near_z {a b c x y z : Int} {u : S6} (ho : OKs (a, b, c, x, y, z)) (h : Bas (a, b, c, x, y, z) u) (a1 : a ≤ 1400) (hb : 4100 ≤ b) (bc : b ≤ c) (hx : sz x ≤ b) (hy : sz y ≤ a) (hz : sz z ≤ a + 89) : a + b + c - tT u ≤ 12000 := by
  have a0 : 0 < a := (show PD a b c x y z from ho).1
  have zx := sz_c x; have zy := sz_c y; have zz := sz_c z
  obtain ⟨m1, m2⟩ := mul_bd (u := a) (v := x) (U := a) (V := b) (by omega) (by omega) (by omega) (by omega)
  obtain ⟨m3, m4⟩ := mul_bd (u := y) (v := z) (U := a) (V := a + 89) (by omega) (by omega) (by omega) (by omega)
  obtain ⟨m5, m6⟩ := mul_bd (u := y) (v := y) (U := a) (V := a) (by omega) (by omega) (by omega) (by omega)
  obtain ⟨m7, m8⟩ := mul_bd (u := z) (v := z) (U := a + 89) (V := a + 89) (by omega) (by omega) (by omega) (by omega)
  have e1 : a * (a + 89) = a * a + 89 * a := by grind
  have e2 : (a + 89) * (a + 89) = a * a + 178 * a + 7921 := by grind
  have b1 : a * 4100 ≤ a * b := Int.mul_le_mul_of_nonneg_left hb (by omega)
  have b2 : a * b ≤ a * c := Int.mul_le_mul_of_nonneg_left bc (by omega)
  have q1 : 0 ≤ (a - 1) * (1400 - a) := Int.mul_nonneg (by omega) (by omega)
  have q2 : (a - 1) * (1400 - a) = 1401 * a - a * a - 1400 := by grind
  have w := end_proj (t := 2 * (a * a + 89 * a) + (a * a + 178 * a + 7921)) ho h (by omega) (by omega) (by omega) (by omega) (by have := sq_nn a; omega) (by omega) (by omega)
  have e3 : a * (a + b + c) = a * (a + b + c - tT u) + a * tT u := by grind
  have fin : a * (a + b + c - tT u) ≤ a * 12000 := by omega
  exact Int.le_of_mul_le_mul_left fin a0
/-- the form on B - A, A, C -/
def p12 (a b c x y z : Int) : S6 := (a + b - z, a, c, y, x - y, z - 2 * a)
theorem p12_ok {a b c x y z : Int} (ho : OKs (a, b, c, x, y, z)) : OKs (p12 a b c x y z) := by
  have w := (PD.lz (s := 1) (show PD a b c x y z from ho) rfl).sw1
  have e1 : a + b - 1 * z = a + b - z := by omega
  have e2 : x - 1 * y = x - y := by omega
  have e3 : z - 2 * 1 * a = z - 2 * a := by omega
  rw [e1, e2, e3] at w
  exact w
theorem p12_on (a b c x y z : Int) : (a, b, c, x, y, z) = onB (p12 a b c x y z) (0, 1, 0) (1, 1, 0) (0, 0, 1) := by
  simp only [onB, p12, qv, bv]
  refine Prod.ext (by grind) (Prod.ext (by grind) (Prod.ext (by grind) (Prod.ext (by grind) (Prod.ext (by grind) (by grind)))))
theorem p12_bas (a b c x y z : Int) : Bas (p12 a b c x y z) (a, b, c, x, y, z) := ⟨_, _, _, p12_on a b c x y z, Or.inr (by decide)⟩
/-- what the short vector makes of the others -/
def P12 (a b c x y z : Int) : Prop := 1200 ≤ a ∧ a ≤ b ∧ b ≤ c ∧ a + b - z ≤ 26 ∧ -26 ≤ z - 2 * a ∧ z - 2 * a ≤ 26 ∧ -26 ≤ x - y ∧ x - y ≤ 26 ∧ 0 ≤ y ∧ y ≤ a + 60
theorem p12_low {a b c x y z : Int} (ho : OKs (a, b, c, x, y, z)) (h : P12 a b c x y z) (v : Vc) :
    (v.2.1 ≠ 0 → a - 736 ≤ qv (p12 a b c x y z) v) ∧ (v.2.2 ≠ 0 → c - 736 ≤ qv (p12 a b c x y z) v) := by
  obtain ⟨h1, h2, h3, h4, h5, h6, h7, h8, h9, h10⟩ := h
  have g0 : 0 < a + b - z := (show PD _ _ _ _ _ _ from p12_ok ho).1
  unfold p12
  generalize hg : a + b - z = g at *
  generalize hp : x - y = p at *
  generalize hr : z - 2 * a = r at *
  obtain ⟨m1, m2⟩ := mul_bd (u := p) (v := r) (U := 26) (V := 26) h7 h8 h5 h6
  obtain ⟨m3, m4⟩ := mul_bd (u := p) (v := p) (U := 26) (V := 26) h7 h8 h7 h8
  obtain ⟨m5, m6⟩ := mul_bd (u := r) (v := r) (U := 26) (V := 26) h5 h6 h5 h6
  have b1 : g * y ≤ g * (a + 60) := Int.mul_le_mul_of_nonneg_left h10 (by omega)
  have b2 : 0 ≤ g * y := Int.mul_nonneg (by omega) h9
  have b3 : g * (a + 60) = g * a + 60 * g := by grind
  have b4 : g * a ≤ g * c := Int.mul_le_mul_of_nonneg_left (by omega) (by omega)
  have b5 : g * 1200 ≤ g * a := Int.mul_le_mul_of_nonneg_left h1 (by omega)
  have w := proj_b (a := g) (b := a) (c := c) (x := y) (y := p) (z := r) (t := 240 * g + 2028) (by omega) (by omega) (by omega) (by omega) (by omega) (by omega) (by omega) v
  refine ⟨fun q => ?_, fun q => ?_⟩
  · have := w.1 q
    have e : g * (a - 736) = g * a - 736 * g := by grind
    exact Int.le_of_mul_le_mul_left (a := g) (by omega) g0
  · have := w.2 q
    have e : g * (c - 736) = g * c - 736 * g := by grind
    exact Int.le_of_mul_le_mul_left (a := g) (by omega) g0
/-- C2 where b is not large -/
theorem near_p12 {a b c x y z : Int} {u : S6} (ho : OKs (a, b, c, x, y, z)) (h : Bas (p12 a b c x y z) u) (hp : P12 a b c x y z) (hb : b ≤ 118000) : a + b + c - tT u ≤ 119472 := by
  have w := end3 h (mi := 0) (mj := a - 736) (mk := c - 736) (fun v hv => Int.le_of_lt (qv_pos (p12_ok ho) (ne_of1 hv))) (fun v hv => (p12_low ho hp v).1 hv) (fun v hv => (p12_low ho hp v).2 hv)
  omega
/-- a vector that is no multiple of B - A -/
def NZ (v : Vc) : Prop := v.2.1 ≠ 0 ∨ v.2.2 ≠ 0
theorem NZ.sm {v : Vc} {s : Int} (h : NZ v) (hs : U1 s) : NZ (vsm s v) := by
  obtain ⟨i, j, k⟩ := v
  rcases hs with e | e <;> subst e
  · have h : j ≠ 0 ∨ k ≠ 0 := h
    show 1 * j ≠ 0 ∨ 1 * k ≠ 0
    omega
  · have h : j ≠ 0 ∨ k ≠ 0 := h
    show -1 * j ≠ 0 ∨ -1 * k ≠ 0
    omega
def Hid (t s : S6) : Prop := ∃ p q r, s = onB t p q r ∧ U1 (dt3 p q r) ∧ NZ p ∧ NZ q ∧ NZ r
theorem nNZ {v : Vc} (h : ¬ NZ v) : v = (v.1, 0, 0) := by
  obtain ⟨i, j, k⟩ := v
  unfold NZ at h
  have h : ¬ (j ≠ 0 ∨ k ≠ 0) := h
  have hj : j = 0 := by omega
  have hk : k = 0 := by omega
  rw [hj, hk]
/-- a multiple in a basis is the vector itself -/
theorem U1_of_mul {m n : Int} (h : U1 (m * n)) : m * m = 1 := by
  have hm : m ≠ 0 := fun w => by rw [w, Int.zero_mul] at h; rcases h with h | h <;> omega
  have hn : n ≠ 0 := fun w => by rw [w, Int.mul_zero] at h; rcases h with h | h <;> omega
  have a1 := sq1 hm
  have a2 := sq1 hn
  have e : (m * n) * (m * n) = (m * m) * (n * n) := by grind
  have e1 : (m * n) * (m * n) = 1 := h.sq
  have a3 : m * m * 1 ≤ (m * m) * (n * n) := Int.mul_le_mul_of_nonneg_left a2 (by omega)
  omega
theorem dt_n3 (p q : Vc) (m : Int) : ∃ n, dt3 p q (m, 0, 0) = m * n := by
  obtain ⟨a, b, c⟩ := p; obtain ⟨d, e, f⟩ := q
  exact ⟨b * f - c * e, by simp only [dt3]; grind⟩
theorem dt_n2 (p r : Vc) (m : Int) : ∃ n, dt3 p (m, 0, 0) r = m * n := by
  obtain ⟨a, b, c⟩ := p; obtain ⟨d, e, f⟩ := r
  exact ⟨-(b * f - c * e), by simp only [dt3]; grind⟩
theorem qv_n (t : S6) (m : Int) (h : m * m = 1) : qv t (m, 0, 0) = t.1 := by
  obtain ⟨a, b, c, x, y, z⟩ := t
  simp only [qv]
  grind
theorem hid_step {t s w : S6} {M : Int} {m : Prop} (low : ∀ v, NZ v → M ≤ qv t v) (h : Hid t s) (g : stR s w m) : Hid t w ∨ tT w + (M - t.1) ≤ tT s := by
  obtain ⟨v, hv, g⟩ := g
  have b1 : Hid t v ∧ tT v = tT s := by
    rcases hv with ⟨_, e⟩ | ⟨_, e⟩ <;> subst e
    · obtain ⟨p, q, r, e, d, n1, n2, n3⟩ := h
      subst e
      exact ⟨⟨q, p, r, onB_s1 t p q r, d.neg (dt_sw1 p q r), n2, n1, n3⟩, by show qv t q + qv t p + qv t r = qv t p + qv t q + qv t r; omega⟩
    · exact ⟨h, rfl⟩
  obtain ⟨b1, eT⟩ := b1
  rcases g with ⟨_, e, _⟩ | ⟨_, u, hu, g⟩
  · subst e
    obtain ⟨p, q, r, e, d, n1, n2, n3⟩ := b1
    subst e
    exact Or.inl ⟨p, r, q, onB_s2 t p q r, d.neg (dt_sw2 p q r), n1, n3, n2⟩
  · have b2 : Hid t u ∧ tT u = tT v := by
      obtain ⟨p, q, r, e, d, n1, n2, n3⟩ := b1
      subst e
      rcases hu with ⟨g2, e⟩ | ⟨g2, e⟩ <;> subst e
      · obtain ⟨s, u, v, h1, h2, h3, e1, e2, e3⟩ := sg_ex (show posi (bv t q r) (bv t p r) (bv t p q) from g2)
        refine ⟨⟨vsm s p, vsm u q, vsm v r, ?_, by rw [dt_sm]; exact d.ml h1 h2 h3, n1.sm h1, n2.sm h2, n3.sm h3⟩, rfl⟩
        rw [onB_sg t p q r s u v h1.sq h2.sq h3.sq, e1, e2, e3]
        rfl
      · obtain ⟨s, u, v, h1, h2, h3, e1, e2, e3⟩ := sg_en (show ¬ posi (bv t q r) (bv t p r) (bv t p q) from g2)
        refine ⟨⟨vsm s p, vsm u q, vsm v r, ?_, by rw [dt_sm]; exact d.ml h1 h2 h3, n1.sm h1, n2.sm h2, n3.sm h3⟩, rfl⟩
        rw [onB_sg t p q r s u v h1.sq h2.sq h3.sq, e1, e2, e3]
        rfl
    obtain ⟨b2, eU⟩ := b2
    rw [← eT, ← eU]
    obtain ⟨p, q, r, e, d, n1, n2, n3⟩ := b2
    -- the third is new
    have third : ∀ r', U1 (dt3 p q r') → w = onB t p q r' → Hid t w ∨ tT w + (M - t.1) ≤ tT u := fun r' dr ew => by
      by_cases n : NZ r'
      · exact Or.inl ⟨p, q, r', ew, dr, n1, n2, n⟩
      · right
        have e1 := nNZ n
        rw [e1] at dr ew
        obtain ⟨k, ek⟩ := dt_n3 p q r'.1
        rw [ek] at dr
        have q1 := qv_n t r'.1 (U1_of_mul dr)
        have l := low r n3
        have Tw : tT w = qv t p + qv t q + qv t (r'.1, 0, 0) := by rw [ew]; rfl
        have Tu : tT u = qv t p + qv t q + qv t r := by rw [e]; rfl
        omega
    rcases g with ⟨_, k, _⟩ | ⟨_, _, k, _⟩ | ⟨_, _, _, k, _⟩ | ⟨_, _, _, _, k, _⟩ | ⟨_, _, _, _, k, _⟩
    · rw [e] at k
      exact third _ (by rw [dt_32]; exact d) (k.trans (onB_x t p q r _ (sg_sq (bv t q r))).symm)
    · rw [e] at k
      exact third _ (by rw [dt_31]; exact d) (k.trans (onB_y t p q r _ (sg_sq (bv t p r))).symm)
    · rw [e] at k
      have ew := k.trans (onB_z t p q r _ (sg_sq (bv t p q))).symm
      have dq : U1 (dt3 p (vadd q (vsm (-sg (bv t p q)) p)) r) := by rw [dt_21]; exact d
      generalize vadd q (vsm (-sg (bv t p q)) p) = q' at *
      by_cases n : NZ q'
      · exact Or.inl ⟨p, q', r, ew, dq, n1, n, n3⟩
      · right
        have e1 := nNZ n
        rw [e1] at dq ew
        obtain ⟨l, el⟩ := dt_n2 p r q'.1
        rw [el] at dq
        have q1 := qv_n t q'.1 (U1_of_mul dq)
        have l := low q n2
        have Tw : tT w = qv t p + qv t (q'.1, 0, 0) + qv t r := by rw [ew]; rfl
        have Tu : tT u = qv t p + qv t q + qv t r := by rw [e]; rfl
        omega
    · rw [e] at k
      exact third _ (by rw [dt_32, dt_31]; exact d) (k.trans (onB_s t p q r).symm)
    · rw [k]
      exact Or.inl ⟨p, q, r, e, d, n1, n2, n3⟩
/-- k rounds, none the last, lower T by (k - 3) / 4 at least -/
theorem Rn.low : ∀ (n : Nat) (t u : S6), OKs t → Rn n t u → ((n : Int) ≤ 4 * (tT t - tT u) + 3) ∧ (St3 t → (n : Int) ≤ 4 * (tT t - tT u) + 2) ∧ (St2 t → (n : Int) ≤ 4 * (tT t - tT u) + 1) ∧ (NoS t → (n : Int) ≤ 4 * (tT t - tT u))
  | 0, t, u, ho, h => by
    have h : t = u := h
    subst h
    refine ⟨?_, fun _ => ?_, fun _ => ?_, fun _ => ?_⟩ <;> omega
  | n + 1, t, u, ho, ⟨v, h, r⟩ => by
    have hv := stR_ok h ho
    obtain ⟨i1, i2, i3, i4⟩ := Rn.low n v u hv.1 r
    have le := hv.2.1
    refine ⟨?_, fun q => ?_, fun q => ?_, fun q => ?_⟩
    · rcases st4 ho v h with w | w
      · omega
      · have := i2 w; omega
    · rcases q v h with w | w
      · omega
      · have := i3 w; omega
    · rcases q v h with w | w
      · omega
      · have := i4 w; omega
    · have := q v h
      omega
theorem hid_run {t : S6} {M : Int} (low : ∀ v, NZ v → M ≤ qv t v) : ∀ (n : Nat) (s w : S6), OKs s → Hid t s → Rn n s w → Hid t w ∨ ∃ k v, k ≤ n ∧ Rn k s v ∧ tT v + (M - t.1) ≤ tT s
  | 0, s, w, _, h, r => by
    have r : s = w := r
    subst r
    exact Or.inl h
  | n + 1, s, w, ho, h, ⟨v, g, r⟩ => by
    have hv := stR_ok g ho
    rcases hid_step low h g with q | q
    · rcases hid_run low n v w hv.1 q r with a | ⟨k, u, hk, hr, hT⟩
      · exact Or.inl a
      · exact Or.inr ⟨k + 1, u, by omega, ⟨v, g, hr⟩, by omega⟩
    · exact Or.inr ⟨1, v, by omega, ⟨v, g, rfl⟩, q⟩
theorem red0_T {w u : S6} (h : Red 0 w u) : tT u = tT w := by
  obtain ⟨v, hv, g⟩ := (show stR w u False from h)
  have e1 : tT v = tT w := by
    rcases hv with ⟨_, e⟩ | ⟨_, e⟩ <;> subst e
    · obtain ⟨a, b, c, x, y, z⟩ := w
      show b + a + c = a + b + c
      omega
    · rfl
  rcases g with ⟨_, _, q⟩ | ⟨_, k, hk, g⟩
  · exact absurd q id
  · have e2 : tT k = tT v := by rcases hk with ⟨_, e⟩ | ⟨_, e⟩ <;> subst e <;> rfl
    rcases g with ⟨_, _, q⟩ | ⟨_, _, _, q⟩ | ⟨_, _, _, _, q⟩ | ⟨_, _, _, _, _, q⟩ | ⟨_, _, _, _, e, _⟩
    · exact absurd q id
    · exact absurd q id
    · exact absurd q id
    · exact absurd q id
    · rw [e, e2, e1]
/-- C2 where b is large: soon B - A comes into the basis, or the end is near -/
theorem far_p12 {a b c x y z : Int} {n : Nat} {u : S6} (ho : OKs (a, b, c, x, y, z)) (hp : P12 a b c x y z) (hb : 118000 < b) (hr : Red n (a, b, c, x, y, z) u) (far : 2260 < a + b + c - tT u)
    (cheap : ∀ k v, Rn k (a, b, c, x, y, z) v → a + b + c - tT v < 10 * ((k : Int) + 100)) : False := by
  have hp' := hp
  obtain ⟨h1, h2, h3, h4, h5, h6, h7, h8, h9, h10⟩ := hp'
  have low : ∀ v, NZ v → a - 736 ≤ qv (p12 a b c x y z) v := fun v q => by
    rcases q with q | q
    · exact (p12_low ho hp v).1 q
    · have := (p12_low ho hp v).2 q; omega
  have H0 : Hid (p12 a b c x y z) (a, b, c, x, y, z) := ⟨_, _, _, p12_on a b c x y z, Or.inr (by decide), Or.inl (by decide), Or.inl (by decide), Or.inr (by decide)⟩
  have run : ∀ (k : Nat) w, k ≤ 9050 → Rn k (a, b, c, x, y, z) w → Hid (p12 a b c x y z) w := fun k w hk q => by
    rcases hid_run low k _ w ho H0 q with r | ⟨j, v, hj, hv, hT⟩
    · exact r
    · exfalso
      have := cheap j v hv
      have hT : tT v + (a - 736 - (a + b - z)) ≤ a + b + c := hT
      omega
  have T : ∀ w, Hid (p12 a b c x y z) w → a + b + c - tT w ≤ 2260 := fun w q => by
    obtain ⟨p, q, r, e, d, n1, n2, n3⟩ := q
    have Tw : tT w = qv (p12 a b c x y z) p + qv (p12 a b c x y z) q + qv (p12 a b c x y z) r := by rw [e]; rfl
    have l1 := low p n1; have l2 := low q n2; have l3 := low r n3
    rcases det_perm d with ⟨a1, b1, c1⟩ | ⟨a1, b1, c1⟩ | ⟨a1, b1, c1⟩ | ⟨a1, b1, c1⟩ | ⟨a1, b1, c1⟩ | ⟨a1, b1, c1⟩
    · have := (p12_low ho hp r).2 c1; omega
    · have := (p12_low ho hp q).2 b1; omega
    · have := (p12_low ho hp r).2 c1; omega
    · have := (p12_low ho hp q).2 b1; omega
    · have := (p12_low ho hp p).2 a1; omega
    · have := (p12_low ho hp p).2 a1; omega
  by_cases q : n ≤ 9050
  · obtain ⟨w, r1, r2⟩ := Red.split n (n := 0) hr
    have := T w (run n w q r1)
    have := red0_T r2
    omega
  · obtain ⟨k, rfl⟩ : ∃ k, n = 9050 + k := ⟨n - 9050, by omega⟩
    obtain ⟨w, r1, r2⟩ := Red.split 9050 hr
    have := T w (run 9050 w (Nat.le_refl _) r1)
    have := (Rn.low 9050 _ w ho r1).1
    have e : tT (a, b, c, x, y, z) = a + b + c := rfl
    omega
