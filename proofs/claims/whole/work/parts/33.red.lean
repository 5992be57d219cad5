/-! the six numbers of a cell: the reduction's steps, and that they end -/
abbrev S6 : Type := Int × Int × Int × Int × Int × Int
def pD (a b c x y z : Int) : Int := 4 * (a * b * c) + x * y * z - a * (x * x) - b * (y * y) - c * (z * z)
def PD (a b c x y z : Int) : Prop := 0 < a ∧ 0 < b ∧ 0 < c ∧ z * z < 4 * (a * b) ∧ y * y < 4 * (a * c) ∧ x * x < 4 * (b * c) ∧ 0 < pD a b c x y z
theorem mpos {a b : Int} (h : 0 < a * b) (ha : 0 < a) : 0 < b := by
  rcases Int.lt_trichotomy b 0 with h2 | h2 | h2
  · exact absurd (Int.mul_neg_of_pos_of_neg ha h2) (by omega)
  · subst h2; simp at h
  · exact h2
theorem sq_nn (t : Int) : 0 ≤ t * t := by
  rcases Int.le_total 0 t with h | h
  · exact Int.mul_nonneg h h
  · exact Int.mul_nonneg_of_nonpos_of_nonpos h h
theorem PD_mk {a b c x y z : Int} (h1 : 0 < a) (h2 : z * z < 4 * (a * b)) (h3 : 0 < pD a b c x y z) : PD a b c x y z := by
  have hab : 0 < a * b := by have := sq_nn z; omega
  have hb : 0 < b := mpos hab h1
  have e1 : (4 * (a * b) - z * z) * (4 * (a * c) - y * y) = 4 * (a * pD a b c x y z) + (2 * (a * x) - y * z) * (2 * (a * x) - y * z) := by
    unfold pD; grind
  have e2 : (4 * (a * b) - z * z) * (4 * (b * c) - x * x) = 4 * (b * pD a b c x y z) + (2 * (b * y) - x * z) * (2 * (b * y) - x * z) := by
    unfold pD; grind
  have p1 := Int.mul_pos h1 h3
  have p2 := Int.mul_pos hb h3
  have s1 := sq_nn (2 * (a * x) - y * z)
  have s2 := sq_nn (2 * (b * y) - x * z)
  have k1 : 0 < 4 * (a * c) - y * y := mpos (a := 4 * (a * b) - z * z) (by omega) (by omega)
  have k2 : 0 < 4 * (b * c) - x * x := mpos (a := 4 * (a * b) - z * z) (by omega) (by omega)
  have hac : 0 < a * c := by have := sq_nn y; omega
  have hc : 0 < c := mpos hac h1
  exact ⟨h1, hb, hc, h2, by omega, by omega, h3⟩
theorem sq_lt {u v : Int} (hv : 0 < v) (h : u * u < v * v) : -v < u ∧ u < v := by
  constructor
  · refine Int.lt_of_not_ge fun q => ?_
    have : 0 ≤ (-v - u) := by omega
    have h2 : 0 ≤ (-v - u) * (v - u) := Int.mul_nonneg this (by omega)
    have e : (-v - u) * (v - u) = u * u - v * v := by grind
    omega
  · refine Int.lt_of_not_ge fun q => ?_
    have h2 : 0 ≤ (u - v) * (u + v) := Int.mul_nonneg (by omega) (by omega)
    have e : (u - v) * (u + v) = u * u - v * v := by grind
    omega
theorem am_gm {u b c : Int} (hb : 0 < b) (hc : 0 < c) (h : u * u < 4 * (b * c)) : -(b + c) < u ∧ u < b + c := by
  apply sq_lt (by omega)
  have e : (b + c) * (b + c) = 4 * (b * c) + (b - c) * (b - c) := by grind
  have := sq_nn (b - c)
  omega
theorem PD.bd {a b c x y z : Int} (h : PD a b c x y z) : (0 < a ∧ 0 < b ∧ 0 < c) ∧ (-(b + c) < x ∧ x < b + c) ∧ (-(a + c) < y ∧ y < a + c) ∧ (-(a + b) < z ∧ z < a + b) :=
  ⟨⟨h.1, h.2.1, h.2.2.1⟩, am_gm h.2.1 h.2.2.1 h.2.2.2.2.2.1, am_gm h.1 h.2.2.1 h.2.2.2.2.1, am_gm h.1 h.2.1 h.2.2.2.1⟩
theorem PD.sw1 {a b c x y z : Int} (h : PD a b c x y z) : PD b a c y x z := by
  refine PD_mk h.2.1 ?_ ?_
  · have e : b * a = a * b := Int.mul_comm _ _
    rw [e]; exact h.2.2.2.1
  · have e : pD b a c y x z = pD a b c x y z := by unfold pD; grind
    rw [e]; exact h.2.2.2.2.2.2
theorem PD.sw2 {a b c x y z : Int} (h : PD a b c x y z) : PD a c b x z y := by
  refine PD_mk h.1 h.2.2.2.2.1 ?_
  have e : pD a c b x z y = pD a b c x y z := by unfold pD; grind
  rw [e]; exact h.2.2.2.2.2.2
theorem PD.ng {a b c x y z x' y' z' : Int} (h : PD a b c x y z) (hx : x' * x' = x * x) (hy : y' * y' = y * y) (hz : z' * z' = z * z) (hp : x' * y' * z' = x * y * z) : PD a b c x' y' z' := by
  refine PD_mk h.1 (by rw [hz]; exact h.2.2.2.1) ?_
  have e : pD a b c x' y' z' = pD a b c x y z := by unfold pD; rw [hx, hy, hz, hp]
  rw [e]; exact h.2.2.2.2.2.2
theorem PD.lx {a b c x y z s : Int} (h : PD a b c x y z) (hs : s * s = 1) : PD a b (b + c - s * x) (x - 2 * s * b) (y - s * z) z := by
  refine PD_mk h.1 h.2.2.2.1 ?_
  have e : pD a b (b + c - s * x) (x - 2 * s * b) (y - s * z) z = pD a b c x y z := by unfold pD; grind
  rw [e]; exact h.2.2.2.2.2.2
theorem PD.ly {a b c x y z s : Int} (h : PD a b c x y z) (hs : s * s = 1) : PD a b (a + c - s * y) (x - s * z) (y - 2 * s * a) z := by
  refine PD_mk h.1 h.2.2.2.1 ?_
  have e : pD a b (a + c - s * y) (x - s * z) (y - 2 * s * a) z = pD a b c x y z := by unfold pD; grind
  rw [e]; exact h.2.2.2.2.2.2
theorem PD.lz {a b c x y z s : Int} (h : PD a b c x y z) (hs : s * s = 1) : PD a (a + b - s * z) c (x - s * y) y (z - 2 * s * a) := by
  refine PD_mk h.1 ?_ ?_
  · have e : 4 * (a * (a + b - s * z)) - (z - 2 * s * a) * (z - 2 * s * a) = 4 * (a * b) - z * z := by grind
    have := h.2.2.2.1
    omega
  · have e : pD a (a + b - s * z) c (x - s * y) y (z - 2 * s * a) = pD a b c x y z := by unfold pD; grind
    rw [e]; exact h.2.2.2.2.2.2
theorem PD.ls {a b c x y z : Int} (h : PD a b c x y z) : PD a b (c + (x + y + z + a + b)) (2 * b + x + z) (2 * a + y + z) z := by
  refine PD_mk h.1 h.2.2.2.1 ?_
  have e : pD a b (c + (x + y + z + a + b)) (2 * b + x + z) (2 * a + y + z) z = pD a b c x y z := by unfold pD; grind
  rw [e]; exact h.2.2.2.2.2.2
def sz (v : Int) : Int := if v < 0 then -v else v
theorem sz_sq (v : Int) : sz v * sz v = v * v := by unfold sz; split <;> grind
theorem nsz_sq (v : Int) : -sz v * -sz v = v * v := by unfold sz; split <;> grind
/-- what the reduction's rounds keep -/
def OKs : S6 → Prop := fun (a, b, c, x, y, z) => PD a b c x y z
def tT : S6 → Int := fun (a, b, c, _, _, _) => a + b + c
def tW : S6 → Int := fun (a, b, c, _, _, _) => 3 * a + 2 * b + c
def tF : S6 → Int := fun (_, _, _, x, y, z) => sz x + 2 * sz y + 3 * sz z
def mu (t : S6) : Nat := ((tT t * 100000000 + tW t) * 100000000 + (100000000 - tF t)).toNat
def c1 : S6 → Prop := fun (a, b, _, x, y, _) => b < a ∨ (a = b ∧ sz y < sz x)
def s1F : S6 → S6 := fun (a, b, c, x, y, z) => (b, a, c, y, x, z)
def c2 : S6 → Prop := fun (_, b, c, _, y, z) => c < b ∨ (b = c ∧ sz z < sz y)
def s2F : S6 → S6 := fun (a, b, c, x, y, z) => (a, c, b, x, z, y)
def posi (x y z : Int) : Prop := (x < 0 ↔ (y < 0 ↔ 0 ≤ z)) ∧ x ≠ 0 ∧ y ≠ 0 ∧ z ≠ 0
def sgp : S6 → S6 := fun (a, b, c, x, y, z) => (a, b, c, sz x, sz y, sz z)
def sgM : S6 → S6 := fun (a, b, c, x, y, z) => (a, b, c, -sz x, -sz y, -sz z)
def cg : S6 → Prop := fun (_, _, _, x, y, z) => posi x y z
def cx : S6 → Prop := fun (_, b, _, x, y, z) => b < sz x ∨ (x = b ∧ 2 * y < z) ∨ (x = -b ∧ z < 0)
def sg (x : Int) : Int := if x < 0 then -1 else 1
def xF : S6 → S6 := fun (a, b, c, x, y, z) => (a, b, b + c - sg x * x, x - 2 * sg x * b, y - sg x * z, z)
def cy : S6 → Prop := fun (a, _, _, x, y, z) => a < sz y ∨ (y = a ∧ 2 * x < z) ∨ (y = -a ∧ z < 0)
def yF : S6 → S6 := fun (a, b, c, x, y, z) => (a, b, a + c - sg y * y, x - sg y * z, y - 2 * sg y * a, z)
def cz : S6 → Prop := fun (a, _, _, x, y, z) => a < sz z ∨ (z = a ∧ 2 * x < y) ∨ (z = -a ∧ y < 0)
def zF : S6 → S6 := fun (a, b, c, x, y, z) => (a, a + b - sg z * z, c, x - sg z * y, y, z - 2 * sg z * a)
def cs : S6 → Prop := fun (a, b, _, x, y, z) => x + y + z + a + b < 0 ∨ (x + y + z + a + b = 0 ∧ 0 < 2 * (a + y) + z)
def sF : S6 → S6 := fun (a, b, c, x, y, z) => (a, b, c + (x + y + z + a + b), 2 * b + x + z, 2 * a + y + z, z)
/-- the signs stand together -/
def Sg : S6 → Prop := fun (_, _, _, x, y, z) => (0 < x ∧ 0 < y ∧ 0 < z) ∨ (x ≤ 0 ∧ y ≤ 0 ∧ z ≤ 0)
theorem sz_c (v : Int) : (v < 0 ∧ sz v = -v) ∨ (0 ≤ v ∧ sz v = v) := by unfold sz; split <;> omega
theorem sg_c (v : Int) : (v < 0 ∧ sg v = -1) ∨ (0 ≤ v ∧ sg v = 1) := by unfold sg; split <;> omega
theorem sg_sq (v : Int) : sg v * sg v = 1 := by unfold sg; split <;> rfl
theorem OK_s1 {t : S6} (h : OKs t) : OKs (s1F t) := h.sw1
theorem OK_s2 {t : S6} (h : OKs t) : OKs (s2F t) := h.sw2
theorem OK_x {t : S6} (h : OKs t) : OKs (xF t) := h.lx (sg_sq _)
theorem OK_y {t : S6} (h : OKs t) : OKs (yF t) := h.ly (sg_sq _)
theorem OK_z {t : S6} (h : OKs t) : OKs (zF t) := h.lz (sg_sq _)
theorem OK_s {t : S6} (h : OKs t) : OKs (sF t) := h.ls
theorem posi_p {x y z : Int} (h : posi x y z) : sz x * sz y * sz z = x * y * z := by
  unfold posi at h
  rcases sz_c x with hx | hx <;> rcases sz_c y with hy | hy <;> rcases sz_c z with hz | hz <;> rw [hx.2, hy.2, hz.2] <;> first | (exfalso; omega) | grind
theorem posi_n {x y z : Int} (h : ¬ posi x y z) : -sz x * -sz y * -sz z = x * y * z := by
  unfold posi at h
  by_cases h1 : x = 0
  · subst h1; simp [sz]
  · by_cases h2 : y = 0
    · subst h2; simp [sz]
    · by_cases h3 : z = 0
      · subst h3; simp [sz]
      · rcases sz_c x with hx | hx <;> rcases sz_c y with hy | hy <;> rcases sz_c z with hz | hz <;> rw [hx.2, hy.2, hz.2] <;> first | (exfalso; omega) | grind
theorem OK_p {t : S6} (h : OKs t) (g : cg t) : OKs (sgp t) := PD.ng h (sz_sq _) (sz_sq _) (sz_sq _) (posi_p g)
theorem OK_n {t : S6} (h : OKs t) (g : ¬ cg t) : OKs (sgM t) := PD.ng h (nsz_sq _) (nsz_sq _) (nsz_sq _) (posi_n g)
theorem Sg_p {t : S6} (g : cg t) : Sg (sgp t) := by
  obtain ⟨a, b, c, x, y, z⟩ := t
  obtain ⟨g1, g2, g3, g4⟩ := g
  have := sz_c x; have := sz_c y; have := sz_c z
  exact Or.inl ⟨by omega, by omega, by omega⟩
theorem Sg_n {t : S6} : Sg (sgM t) := by
  obtain ⟨a, b, c, x, y, z⟩ := t
  have := sz_c x; have := sz_c y; have := sz_c z
  exact Or.inr ⟨by omega, by omega, by omega⟩
theorem sz_sz (v : Int) : sz (sz v) = sz v := by
  have := sz_c v; have := sz_c (sz v); omega
theorem sz_nz (v : Int) : sz (-sz v) = sz v := by
  have := sz_c v; have := sz_c (-sz v); omega
/-- the measure from one to the other -/
def Less (t u : S6) : Prop := tT t < tT u ∨ (tT t = tT u ∧ (tW t < tW u ∨ (tW t = tW u ∧ tF u < tF t)))
def Leq (t u : S6) : Prop := Less t u ∨ (tT t = tT u ∧ tW t = tW u ∧ tF t = tF u)
theorem sz_b {v B : Int} (h : -B < v ∧ v < B) : 0 ≤ sz v ∧ sz v < B := by have := sz_c v; omega
theorem tF_b {t : S6} (h : OKs t) : 0 ≤ tF t ∧ tF t ≤ 6 * tT t ∧ 0 < tW t ∧ tW t ≤ 3 * tT t := by
  obtain ⟨a, b, c, x, y, z⟩ := t
  obtain ⟨h1, h2, h3, h4⟩ := h.bd
  have := sz_b h2; have := sz_b h3; have := sz_b h4
  simp only [tT, tW, tF]
  omega
theorem Less_mu {t u : S6} (h : Less t u) (ht : OKs t) (hu : OKs u) (hb : tT u ≤ 10000000) : mu t < mu u := by
  have h1 := tF_b ht
  have h2 := tF_b hu
  unfold Less at h
  unfold mu
  omega
theorem Less_s1 {t : S6} (h : c1 t) : Less (s1F t) t := by
  obtain ⟨a, b, c, x, y, z⟩ := t
  simp only [c1, Less, s1F, tT, tW, tF] at *
  omega
theorem Less_s2 {t : S6} (h : c2 t) : Less (s2F t) t := by
  obtain ⟨a, b, c, x, y, z⟩ := t
  simp only [c2, Less, s2F, tT, tW, tF] at *
  omega
theorem Leq_p (t : S6) : Leq (sgp t) t := by
  obtain ⟨a, b, c, x, y, z⟩ := t
  right
  simp only [sgp, tT, tW, tF, sz_sz, and_self]
theorem Leq_n (t : S6) : Leq (sgM t) t := by
  obtain ⟨a, b, c, x, y, z⟩ := t
  right
  simp only [sgM, tT, tW, tF, sz_nz, and_self]
theorem Leq.refl (t : S6) : Leq t t := Or.inr ⟨rfl, rfl, rfl⟩
theorem Less.trans' {t u v : S6} (h : Less t u) (g : Leq u v) : Less t v := by unfold Leq at g; unfold Less at *; omega
theorem Leq.trans {t u v : S6} (h : Leq t u) (g : Leq u v) : Leq t v := by unfold Leq Less at *; omega
theorem Less.le {t u : S6} (h : Less t u) : Leq t u := Or.inl h
theorem Leq.T {t u : S6} (h : Leq t u) : tT t ≤ tT u := by unfold Leq Less at h; omega
theorem Less_x {t : S6} (ho : OKs t) (g : Sg t) (h : cx t) : Less (xF t) t := by
  obtain ⟨a, b, c, x, y, z⟩ := t
  have := ho.bd
  simp only [cx, Sg, Less, xF, tT, tW, tF] at *
  have := sz_c x
  rcases sg_c x with hx | hx <;> rw [hx.2] <;> have := sz_c y <;> have := sz_c (x - 2 * 1 * b) <;> have := sz_c (x - 2 * -1 * b) <;> have := sz_c (y - 1 * z) <;> have := sz_c (y - -1 * z) <;> omega
theorem Less_y {t : S6} (ho : OKs t) (g : Sg t) (h : cy t) : Less (yF t) t := by
  obtain ⟨a, b, c, x, y, z⟩ := t
  have := ho.bd
  simp only [cy, Sg, Less, yF, tT, tW, tF] at *
  have := sz_c x
  rcases sg_c y with hx | hx <;> rw [hx.2] <;> have := sz_c y <;> have := sz_c (y - 2 * 1 * a) <;> have := sz_c (y - 2 * -1 * a) <;> have := sz_c (x - 1 * z) <;> have := sz_c (x - -1 * z) <;> omega
theorem Less_z {t : S6} (ho : OKs t) (g : Sg t) (h : cz t) : Less (zF t) t := by
  obtain ⟨a, b, c, x, y, z⟩ := t
  have := ho.bd
  simp only [cz, Sg, Less, zF, tT, tW, tF] at *
  have := sz_c x
  rcases sg_c z with hx | hx <;> rw [hx.2] <;> have := sz_c z <;> have := sz_c (z - 2 * 1 * a) <;> have := sz_c (z - 2 * -1 * a) <;> have := sz_c (x - 1 * y) <;> have := sz_c (x - -1 * y) <;> omega
theorem Less_s {t : S6} (ho : OKs t) (g : Sg t) (hc : ¬ c1 t) (h : cs t) : Less (sF t) t := by
  obtain ⟨a, b, c, x, y, z⟩ := t
  have := ho.bd
  simp only [cs, c1, Sg, Less, sF, tT, tW, tF] at *
  have := sz_c x
  have := sz_c y
  have := sz_c (2 * b + x + z)
  have := sz_c (2 * a + y + z)
  omega
theorem c1_s1 {t : S6} : c1 t → ¬ c1 (s1F t) := by
  obtain ⟨a, b, c, x, y, z⟩ := t
  simp only [c1, s1F]
  omega
theorem c1_p {t : S6} : ¬ c1 t → ¬ c1 (sgp t) := by
  obtain ⟨a, b, c, x, y, z⟩ := t
  simp only [c1, sgp, sz_sz]
  exact id
theorem c1_n {t : S6} : ¬ c1 t → ¬ c1 (sgM t) := by
  obtain ⟨a, b, c, x, y, z⟩ := t
  simp only [c1, sgM, sz_nz]
  exact id
/-- a round: the six behind it, and whether there is more -/
def lsR (t u : S6) (m : Prop) : Prop := (cx t ∧ u = xF t ∧ m) ∨ (¬ cx t ∧ cy t ∧ u = yF t ∧ m) ∨ (¬ cx t ∧ ¬ cy t ∧ cz t ∧ u = zF t ∧ m) ∨ (¬ cx t ∧ ¬ cy t ∧ ¬ cz t ∧ cs t ∧ u = sF t ∧ m) ∨ (¬ cx t ∧ ¬ cy t ∧ ¬ cz t ∧ ¬ cs t ∧ u = t ∧ ¬ m)
def sgR (t u : S6) : Prop := (cg t ∧ u = sgp t) ∨ (¬ cg t ∧ u = sgM t)
def s1R (t u : S6) : Prop := (c1 t ∧ u = s1F t) ∨ (¬ c1 t ∧ u = t)
def stR (t u : S6) (m : Prop) : Prop := ∃ v, s1R t v ∧ ((c2 v ∧ u = s2F v ∧ m) ∨ (¬ c2 v ∧ ∃ w, sgR v w ∧ lsR w u m))
theorem stR_ok {t u : S6} {m : Prop} (h : stR t u m) (ho : OKs t) : OKs u ∧ tT u ≤ tT t ∧ (m → Less u t) := by
  obtain ⟨v, hv, h⟩ := h
  have o1 : OKs v ∧ Leq v t ∧ ¬ c1 v := by
    rcases hv with ⟨p, e⟩ | ⟨p, e⟩ <;> subst e
    · exact ⟨OK_s1 ho, (Less_s1 p).le, c1_s1 p⟩
    · exact ⟨ho, Leq.refl _, p⟩
  rcases h with ⟨p, e, q⟩ | ⟨p, w, hw, h⟩
  · subst e
    have L := (Less_s2 p).trans' o1.2.1
    exact ⟨OK_s2 o1.1, L.le.T, fun _ => L⟩
  · have o2 : OKs w ∧ Leq w t ∧ ¬ c1 w ∧ Sg w := by
      rcases hw with ⟨p, e⟩ | ⟨p, e⟩ <;> subst e
      · exact ⟨OK_p o1.1 p, (Leq_p _).trans o1.2.1, c1_p o1.2.2, Sg_p p⟩
      · exact ⟨OK_n o1.1 p, (Leq_n _).trans o1.2.1, c1_n o1.2.2, Sg_n⟩
    rcases h with ⟨p, e, q⟩ | ⟨_, p, e, q⟩ | ⟨_, _, p, e, q⟩ | ⟨_, _, _, p, e, q⟩ | ⟨_, _, _, _, e, q⟩ <;> subst e
    · have L := (Less_x o2.1 o2.2.2.2 p).trans' o2.2.1
      exact ⟨OK_x o2.1, L.le.T, fun _ => L⟩
    · have L := (Less_y o2.1 o2.2.2.2 p).trans' o2.2.1
      exact ⟨OK_y o2.1, L.le.T, fun _ => L⟩
    · have L := (Less_z o2.1 o2.2.2.2 p).trans' o2.2.1
      exact ⟨OK_z o2.1, L.le.T, fun _ => L⟩
    · have L := (Less_s o2.1 o2.2.2.2 o2.2.2.1 p).trans' o2.2.1
      exact ⟨OK_s o2.1, L.le.T, fun _ => L⟩
    · exact ⟨o2.1, o2.2.1.T, fun h => absurd h q⟩
