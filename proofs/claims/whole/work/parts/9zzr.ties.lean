/-! rounds that keep a + b + c: at most three in a row -/
/-- a step of lessening, written out: the signs stand together -/
def LsN (a b c x y z a' b' c' x' y' z' : Int) : Prop :=
  ((0 < x ∧ (b < x ∨ (x = b ∧ 2 * y < z)) ∧ c' = b + c - x ∧ x' = x - 2 * b ∧ y' = y - z ∧ a' = a ∧ b' = b ∧ z' = z) ∨ (x < 0 ∧ (b < -x ∨ (x = -b ∧ z < 0)) ∧ c' = b + c + x ∧ x' = x + 2 * b ∧ y' = y + z ∧ a' = a ∧ b' = b ∧ z' = z)) ∨
  ((¬ (b < x ∨ (x = b ∧ 2 * y < z)) ∧ ¬ (b < -x ∨ (x = -b ∧ z < 0))) ∧
    ((0 < y ∧ (a < y ∨ (y = a ∧ 2 * x < z)) ∧ c' = a + c - y ∧ x' = x - z ∧ y' = y - 2 * a ∧ a' = a ∧ b' = b ∧ z' = z) ∨ (y < 0 ∧ (a < -y ∨ (y = -a ∧ z < 0)) ∧ c' = a + c + y ∧ x' = x + z ∧ y' = y + 2 * a ∧ a' = a ∧ b' = b ∧ z' = z) ∨
    ((¬ (a < y ∨ (y = a ∧ 2 * x < z)) ∧ ¬ (a < -y ∨ (y = -a ∧ z < 0))) ∧
      ((0 < z ∧ (a < z ∨ (z = a ∧ 2 * x < y)) ∧ b' = a + b - z ∧ x' = x - y ∧ z' = z - 2 * a ∧ a' = a ∧ c' = c ∧ y' = y) ∨ (z < 0 ∧ (a < -z ∨ (z = -a ∧ y < 0)) ∧ b' = a + b + z ∧ x' = x + y ∧ z' = z + 2 * a ∧ a' = a ∧ c' = c ∧ y' = y) ∨
      ((¬ (a < z ∨ (z = a ∧ 2 * x < y)) ∧ ¬ (a < -z ∨ (z = -a ∧ y < 0))) ∧ (x + y + z + a + b < 0 ∨ (x + y + z + a + b = 0 ∧ 0 < 2 * (a + y) + z)) ∧ c' = c + (x + y + z + a + b) ∧ x' = 2 * b + x + z ∧ y' = 2 * a + y + z ∧ a' = a ∧ b' = b ∧ z' = z)))))
theorem nc_l {b x y z : Int} (q : ¬ (b < sz x ∨ (x = b ∧ 2 * y < z) ∨ (x = -b ∧ z < 0))) : ¬ (b < x ∨ (x = b ∧ 2 * y < z)) ∧ ¬ (b < -x ∨ (x = -b ∧ z < 0)) := by
  have := sz_c x
  omega
theorem cp_l {b x y z : Int} (hb : 0 < b) (g : 0 ≤ x) (q : b < sz x ∨ (x = b ∧ 2 * y < z) ∨ (x = -b ∧ z < 0)) : 0 < x ∧ (b < x ∨ (x = b ∧ 2 * y < z)) := by
  have := sz_c x
  omega
theorem cn_l {b x y z : Int} (hb : 0 < b) (g : x < 0) (q : b < sz x ∨ (x = b ∧ 2 * y < z) ∨ (x = -b ∧ z < 0)) : b < -x ∨ (x = -b ∧ z < 0) := by
  have := sz_c x
  omega
theorem ls_lin {a b c x y z : Int} {u : S6} (ha : 0 < a) (hb : 0 < b) (h : lsR (a, b, c, x, y, z) u True) : ∃ a' b' c' x' y' z', u = (a', b', c', x', y', z') ∧ LsN a b c x y z a' b' c' x' y' z' := by
  obtain ⟨a', b', c', x', y', z'⟩ := u
  refine ⟨a', b', c', x', y', z', rfl, ?_⟩
  unfold LsN
  unfold lsR at h
  simp only [cx, cy, cz, cs, xF, yF, zF, sF, Prod.mk.injEq] at h
  rcases h with ⟨p, ⟨e1, e2, e3, e4, e5, e6⟩, _⟩ | ⟨q, p, ⟨e1, e2, e3, e4, e5, e6⟩, _⟩ | ⟨q, q2, p, ⟨e1, e2, e3, e4, e5, e6⟩, _⟩ | ⟨q, q2, q3, p, ⟨e1, e2, e3, e4, e5, e6⟩, _⟩ | ⟨_, _, _, _, _, n⟩
  · left
    rcases sg_c x with ⟨g, e⟩ | ⟨g, e⟩ <;> rw [e] at e3 e4 e5
    · right; exact ⟨g, cn_l hb g p, by clear p; omega, by clear p; omega, by clear p; omega, e1, e2, e6⟩
    · left; exact ⟨(cp_l hb g p).1, (cp_l hb g p).2, by clear p; omega, by clear p; omega, by clear p; omega, e1, e2, e6⟩
  · right
    refine ⟨nc_l q, ?_⟩
    rcases sg_c y with ⟨g, e⟩ | ⟨g, e⟩ <;> rw [e] at e3 e4 e5
    · right; left; exact ⟨g, cn_l ha g p, by clear p q; omega, by clear p q; omega, by clear p q; omega, e1, e2, e6⟩
    · left; exact ⟨(cp_l ha g p).1, (cp_l ha g p).2, by clear p q; omega, by clear p q; omega, by clear p q; omega, e1, e2, e6⟩
  · right
    refine ⟨nc_l q, ?_⟩
    right; right
    refine ⟨nc_l q2, ?_⟩
    rcases sg_c z with ⟨g, e⟩ | ⟨g, e⟩ <;> rw [e] at e2 e4 e6
    · right; left; exact ⟨g, cn_l ha g p, by clear p q q2; omega, by clear p q q2; omega, by clear p q q2; omega, e1, e3, e5⟩
    · left; exact ⟨(cp_l ha g p).1, (cp_l ha g p).2, by clear p q q2; omega, by clear p q q2; omega, by clear p q q2; omega, e1, e3, e5⟩
  · right
    refine ⟨nc_l q, ?_⟩
    right; right
    refine ⟨nc_l q2, ?_⟩
    right; right
    exact ⟨nc_l q3, p, e3, e4, e5, e1, e2, e6⟩
  · exact absurd trivial n
/-- a round, written out -/
theorem st_lin {a b c x y z : Int} {u : S6} (ho : OKs (a, b, c, x, y, z)) (h : stR (a, b, c, x, y, z) u True) :
    ∃ a1 b1 x1 y1, (((b < a ∨ (a = b ∧ sz y < sz x)) ∧ a1 = b ∧ b1 = a ∧ x1 = y ∧ y1 = x) ∨ (¬ (b < a ∨ (a = b ∧ sz y < sz x)) ∧ a1 = a ∧ b1 = b ∧ x1 = x ∧ y1 = y)) ∧
      (((c < b1 ∨ (b1 = c ∧ sz z < sz y1)) ∧ u = (a1, c, b1, x1, z, y1)) ∨ (¬ (c < b1 ∨ (b1 = c ∧ sz z < sz y1)) ∧ ∃ x2 y2 z2, ((posi x1 y1 z ∧ 0 < x2 ∧ 0 < y2 ∧ 0 < z2) ∨ (¬ posi x1 y1 z ∧ x2 ≤ 0 ∧ y2 ≤ 0 ∧ z2 ≤ 0)) ∧ sz x2 = sz x1 ∧ sz y2 = sz y1 ∧ sz z2 = sz z ∧ OKs (a1, b1, c, x2, y2, z2) ∧ ∃ a' b' c' x' y' z', u = (a', b', c', x', y', z') ∧ LsN a1 b1 c x2 y2 z2 a' b' c' x' y' z')) := by
  obtain ⟨v, hv, h⟩ := h
  have main : ∀ a1 b1 x1 y1 : Int, OKs (a1, b1, c, x1, y1, z) → ((c2 (a1, b1, c, x1, y1, z) ∧ u = s2F (a1, b1, c, x1, y1, z) ∧ True) ∨ (¬ c2 (a1, b1, c, x1, y1, z) ∧ ∃ w, sgR (a1, b1, c, x1, y1, z) w ∧ lsR w u True)) → (((c < b1 ∨ (b1 = c ∧ sz z < sz y1)) ∧ u = (a1, c, b1, x1, z, y1)) ∨ (¬ (c < b1 ∨ (b1 = c ∧ sz z < sz y1)) ∧ ∃ x2 y2 z2, ((posi x1 y1 z ∧ 0 < x2 ∧ 0 < y2 ∧ 0 < z2) ∨ (¬ posi x1 y1 z ∧ x2 ≤ 0 ∧ y2 ≤ 0 ∧ z2 ≤ 0)) ∧ sz x2 = sz x1 ∧ sz y2 = sz y1 ∧ sz z2 = sz z ∧ OKs (a1, b1, c, x2, y2, z2) ∧ ∃ a' b' c' x' y' z', u = (a', b', c', x', y', z') ∧ LsN a1 b1 c x2 y2 z2 a' b' c' x' y' z')) := by
    intro a1 b1 x1 y1 o h
    rcases h with ⟨p, e, _⟩ | ⟨p, w, hw, hl⟩
    · exact Or.inl ⟨p, e⟩
    · refine Or.inr ⟨p, ?_⟩
      rcases hw with ⟨g, e⟩ | ⟨g, e⟩ <;> subst e
      · obtain ⟨_, g2, g3, g4⟩ := id g
        have := sz_c x1; have := sz_c y1; have := sz_c z
        exact ⟨sz x1, sz y1, sz z, Or.inl ⟨g, by omega, by omega, by omega⟩, sz_sz _, sz_sz _, sz_sz _, OK_p o g, ls_lin o.1 o.2.1 hl⟩
      · have := sz_c x1; have := sz_c y1; have := sz_c z
        exact ⟨-sz x1, -sz y1, -sz z, Or.inr ⟨g, by omega, by omega, by omega⟩, sz_nz _, sz_nz _, sz_nz _, OK_n o g, ls_lin o.1 o.2.1 hl⟩
  rcases hv with ⟨p, e⟩ | ⟨p, e⟩ <;> subst e
  · exact ⟨b, a, y, x, Or.inl ⟨p, rfl, rfl, rfl, rfl⟩, main b a y x (OK_s1 ho) h⟩
  · exact ⟨a, b, x, y, Or.inr ⟨p, rfl, rfl, rfl, rfl⟩, main a b x y ho h⟩
