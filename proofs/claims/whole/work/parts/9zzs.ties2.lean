/-! the rounds that keep a + b + c, one by one -/
abbrev Nxl (b x y z : Int) : Prop := ¬ (b < x ∨ (x = b ∧ 2 * y < z)) ∧ ¬ (b < -x ∨ (x = -b ∧ z < 0))
def TieN (a b x y z x' y' z' : Int) : Prop :=
  (0 < x ∧ x = b ∧ 2 * y < z ∧ x' = -b ∧ y' = y - z ∧ z' = z) ∨
  (x = -b ∧ z < 0 ∧ x' = b ∧ y' = y + z ∧ z' = z) ∨
  (Nxl b x y z ∧ 0 < y ∧ y = a ∧ 2 * x < z ∧ x' = x - z ∧ y' = -a ∧ z' = z) ∨
  (Nxl b x y z ∧ y = -a ∧ z < 0 ∧ x' = x + z ∧ y' = a ∧ z' = z) ∨
  (Nxl b x y z ∧ Nxl a y x z ∧ 0 < z ∧ z = a ∧ 2 * x < y ∧ x' = x - y ∧ y' = y ∧ z' = -a) ∨
  (Nxl b x y z ∧ Nxl a y x z ∧ z = -a ∧ y < 0 ∧ x' = x + y ∧ y' = y ∧ z' = a) ∨
  (Nxl b x y z ∧ Nxl a y x z ∧ Nxl a z x y ∧ x + y + z + a + b = 0 ∧ 0 < 2 * (a + y) + z ∧ x' = 2 * b + x + z ∧ y' = 2 * a + y + z ∧ z' = z)
theorem ls_tie {a b c x y z a' b' c' x' y' z' : Int} (h : LsN a b c x y z a' b' c' x' y' z') : a' + b' + c' < a + b + c ∨ (a' = a ∧ b' = b ∧ c' = c ∧ TieN a b x y z x' y' z') := by
  unfold LsN at h
  unfold TieN
  rcases h with (⟨g, p, e1, e2, e3, e4, e5, e6⟩ | ⟨g, p, e1, e2, e3, e4, e5, e6⟩) | ⟨q, ⟨g, p, e1, e2, e3, e4, e5, e6⟩ | ⟨g, p, e1, e2, e3, e4, e5, e6⟩ | ⟨q2, ⟨g, p, e1, e2, e3, e4, e5, e6⟩ | ⟨g, p, e1, e2, e3, e4, e5, e6⟩ | ⟨q3, p, e1, e2, e3, e4, e5, e6⟩⟩⟩
  · rcases p with p | p
    · left; omega
    · right; exact ⟨e4, e5, by omega, Or.inl ⟨g, p.1, p.2, by omega, e3, e6⟩⟩
  · rcases p with p | p
    · left; omega
    · right; exact ⟨e4, e5, by omega, Or.inr (Or.inl ⟨p.1, p.2, by omega, e3, e6⟩)⟩
  · rcases p with p | p
    · left; clear q; omega
    · right; exact ⟨e4, e5, by clear q; omega, Or.inr (Or.inr (Or.inl ⟨q, g, p.1, p.2, e2, by clear q; omega, e6⟩))⟩
  · rcases p with p | p
    · left; clear q; omega
    · right; exact ⟨e4, e5, by clear q; omega, Or.inr (Or.inr (Or.inr (Or.inl ⟨q, p.1, p.2, e2, by clear q; omega, e6⟩)))⟩
  · rcases p with p | p
    · left; clear q q2; omega
    · right; exact ⟨e4, by clear q q2; omega, e5, Or.inr (Or.inr (Or.inr (Or.inr (Or.inl ⟨q, q2, g, p.1, p.2, e2, e6, by clear q q2; omega⟩))))⟩
  · rcases p with p | p
    · left; clear q q2; omega
    · right; exact ⟨e4, by clear q q2; omega, e5, Or.inr (Or.inr (Or.inr (Or.inr (Or.inr (Or.inl ⟨q, q2, p.1, p.2, e2, e6, by clear q q2; omega⟩)))))⟩
  · rcases p with p | p
    · left; clear q q2 q3; omega
    · right; exact ⟨e4, e5, by clear q q2 q3; omega, Or.inr (Or.inr (Or.inr (Or.inr (Or.inr (Or.inr ⟨q, q2, q3, p.1, p.2, e2, e3, e6⟩)))))⟩
abbrev Sg1 (a b x y a1 b1 x1 y1 : Int) : Prop := ((b < a ∨ (a = b ∧ sz y < sz x)) ∧ a1 = b ∧ b1 = a ∧ x1 = y ∧ y1 = x) ∨ (¬ (b < a ∨ (a = b ∧ sz y < sz x)) ∧ a1 = a ∧ b1 = b ∧ x1 = x ∧ y1 = y)
abbrev Al (x1 y1 z x2 y2 z2 : Int) : Prop := ((posi x1 y1 z ∧ 0 < x2 ∧ 0 < y2 ∧ 0 < z2) ∨ (¬ posi x1 y1 z ∧ x2 ≤ 0 ∧ y2 ≤ 0 ∧ z2 ≤ 0)) ∧ sz x2 = sz x1 ∧ sz y2 = sz y1 ∧ sz z2 = sz z
/-- a round: it lowers a + b + c, or swaps, or is a tie -/
theorem nx {a b c x y z : Int} {u : S6} (ho : OKs (a, b, c, x, y, z)) (h : stR (a, b, c, x, y, z) u True) : tT u < a + b + c ∨ ∃ a1 b1 x1 y1, Sg1 a b x y a1 b1 x1 y1 ∧ (((c < b1 ∨ (b1 = c ∧ sz z < sz y1)) ∧ u = (a1, c, b1, x1, z, y1)) ∨ (¬ (c < b1 ∨ (b1 = c ∧ sz z < sz y1)) ∧ ∃ x2 y2 z2, Al x1 y1 z x2 y2 z2 ∧ OKs (a1, b1, c, x2, y2, z2) ∧ ∃ x' y' z', u = (a1, b1, c, x', y', z') ∧ TieN a1 b1 x2 y2 z2 x' y' z')) := by
  obtain ⟨a1, b1, x1, y1, s, h⟩ := st_lin ho h
  rcases h with ⟨p, e⟩ | ⟨p, x2, y2, z2, al, f1, f2, f3, o, a', b', c', x', y', z', e, l⟩
  · exact Or.inr ⟨a1, b1, x1, y1, s, Or.inl ⟨p, e⟩⟩
  · rcases ls_tie l with q | ⟨q1, q2, q3, q⟩
    · left
      have st : a1 + b1 = a + b := by
        rcases s with ⟨_, s1, s2, _⟩ | ⟨_, s1, s2, _⟩ <;> omega
      rw [e]
      show a' + b' + c' < a + b + c
      omega
    · subst q1 q2 q3
      exact Or.inr ⟨a', b', x1, y1, s, Or.inr ⟨p, x2, y2, z2, ⟨al, f1, f2, f3⟩, o, x', y', z', e, q⟩⟩
def NoS (t : S6) : Prop := ∀ u, stR t u True → tT u < tT t
def St2 (t : S6) : Prop := ∀ u, stR t u True → tT u < tT t ∨ NoS u
def St3 (t : S6) : Prop := ∀ u, stR t u True → tT u < tT t ∨ St2 u
def St4 (t : S6) : Prop := ∀ u, stR t u True → tT u < tT t ∨ St3 u
theorem NoS.s2 {t : S6} (h : NoS t) : St2 t := fun u q => Or.inl (h u q)
theorem St2.s3 {t : S6} (h : St2 t) : St3 t := fun u q => (h u q).imp id NoS.s2
theorem St3.s4 {t : S6} (h : St3 t) : St4 t := fun u q => (h u q).imp id St2.s3
/-- sorted, the signs together -/
def Srt (a b c x y z : Int) : Prop := (a ≤ b ∧ (a = b → sz x ≤ sz y)) ∧ b ≤ c ∧ (b = c → sz y ≤ sz z)
theorem pos_al {x1 y1 z x2 y2 z2 : Int} (h : Al x1 y1 z x2 y2 z2) (p : posi x1 y1 z) : (0 < x2 ∧ 0 < y2 ∧ 0 < z2) ∧ x2 = sz x1 ∧ y2 = sz y1 ∧ z2 = sz z := by
  obtain ⟨h, e1, e2, e3⟩ := h
  rcases h with ⟨_, a, b, c⟩ | ⟨n, _⟩
  · have := sz_c x2; have := sz_c y2; have := sz_c z2
    exact ⟨⟨a, b, c⟩, by omega, by omega, by omega⟩
  · exact absurd p n
theorem neg_al {x1 y1 z x2 y2 z2 : Int} (h : Al x1 y1 z x2 y2 z2) (p : ¬ posi x1 y1 z) : (x2 ≤ 0 ∧ y2 ≤ 0 ∧ z2 ≤ 0) ∧ x2 = -sz x1 ∧ y2 = -sz y1 ∧ z2 = -sz z := by
  obtain ⟨h, e1, e2, e3⟩ := h
  rcases h with ⟨n, _⟩ | ⟨_, a, b, c⟩
  · exact absurd n p
  · have := sz_c x2; have := sz_c y2; have := sz_c z2
    exact ⟨⟨a, b, c⟩, by omega, by omega, by omega⟩
/-- after a tie of x among positive ones nothing keeps a + b + c -/
theorem tie_px {a b c y z : Int} (s : Srt a b c b y z) (hy : 0 < y) (h : 2 * y < z) (ha : 0 < a) (hz : z < a + b) (ho : OKs (a, b, c, -b, y - z, z)) : NoS (a, b, c, -b, y - z, z) := by
  intro u hu
  obtain ⟨⟨s1, s2⟩, s3, s4⟩ := s
  have nb : a < b := by
    have := sz_c b; have := sz_c y
    rcases Int.lt_or_eq_of_le s1 with q | q
    · exact q
    · have := s2 q; omega
  have e1 : sz (-b) = b := by have := sz_c (-b); omega
  have e2 : sz (y - z) = z - y := by have := sz_c (y - z); omega
  have e3 : sz z = z := by have := sz_c z; omega
  rcases nx ho hu with q | ⟨a1, b1, x1, y1, sg, q⟩
  · exact q
  · exfalso
    rcases sg with ⟨p, _⟩ | ⟨_, r1, r2, r3, r4⟩
    · omega
    · subst r1 r2 r3 r4
      rcases q with ⟨p, _⟩ | ⟨_, x2, y2, z2, al, _, x', y', z', _, t⟩
      · rw [e2, e3] at p; omega
      · obtain ⟨_, f1, f2, f3⟩ := pos_al al ⟨by omega, by omega, by omega, by omega⟩
        rw [e1] at f1
        rw [e2] at f2
        rw [e3] at f3
        subst f1 f2 f3
        unfold TieN at t
        rcases t with t | t | t | t | t | t | t <;> omega
