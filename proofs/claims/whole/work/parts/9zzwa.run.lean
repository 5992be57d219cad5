/-! a run of the machine -/
def step : Tk → Cx → Option (List Cx) := fun (k, vs, rs, cs) c => match k, vs, rs, cs with
  | 0, _, _, k1 :: _ => stInf k1 c
  | 1, _, r1 :: r2 :: _, _ => stSp r1 r2 c
  | 2, p :: q :: r :: _, _, k1 :: k2 :: k3 :: _ => stSg false p q r k1 k2 k3 c
  | 3, p :: q :: r :: _, _, k1 :: k2 :: k3 :: _ => stSg true p q r k1 k2 k3 c
  | 4, _, r0 :: r1 :: r2 :: r4 :: _, _ => stS1 r0 r1 r2 r4 c
  | 5, _, r0 :: r1 :: r2 :: r4 :: T :: kc :: w :: _, _ => stS2 r0 r1 r2 r4 T kc w c
  | 6, r' :: _, r0 :: r1 :: r2 :: r4 :: T :: kc :: w :: _, _ => stX r' r0 r1 r2 r4 T kc w c
  | 7, r' :: _, r0 :: r1 :: r2 :: r4 :: T :: kc :: w :: _, _ => stY r' r0 r1 r2 r4 T kc w c
  | 8, _, _, k1 :: k2 :: k3 :: k4 :: k5 :: _ => stNr k1 k2 k3 k4 k5 c
  | 9, _, _, k1 :: k2 :: k3 :: k4 :: k5 :: _ => stSm k1 k2 k3 k4 k5 c
  | 10, _, _, k1 :: k2 :: k3 :: k4 :: k5 :: k6 :: k7 :: _ => stPp k1 k2 k3 k4 k5 k6 k7 c
  | 11, _, _, k1 :: k2 :: _ => stZl k1 k2 c
  | 12, _, _, k1 :: k2 :: _ => stZs k1 k2 c
  | 13, q' :: _, r0 :: r1 :: r2 :: r4 :: r5 :: T :: kc :: w :: _, _ => stZ q' r0 r1 r2 r4 r5 T kc w c
  | _, _, _, _ => none
theorem sdStep {t ρ u : S6} (E : Env t ρ u) {tk : Tk} {c : Cx} {l : List Cx} (h : step tk c = some l) (R : Rfs t ρ u l) : ¬ Fct t ρ u c := by
  obtain ⟨k, vs, rs, cs⟩ := tk
  unfold step at h
  simp only at h
  split at h
  · exact sdInf E h
  · exact sdSp h R
  · exact sdSg E h R
  · exact sdSg E h R
  · exact sdS1 E h R
  · exact sdS2 E h R
  · exact sdX E h R
  · exact sdY E h R
  · exact sdNr E h
  · exact sdSm E h
  · exact sdPp E h
  · exact sdZl E h
  · exact sdZs E h
  · exact sdZ E h R
  · exact absurd h (by intro w; cases w)
def run : List Tk → List Cx → Option (List Cx)
  | [], st => some st
  | _ :: _, [] => none
  | tk :: p, c :: st => match step tk c with
    | some l => run p (l ++ st)
    | none => none
theorem Rfs.app {t ρ u : S6} : ∀ {l m : List Cx}, Rfs t ρ u (l ++ m) → Rfs t ρ u l ∧ Rfs t ρ u m
  | [], _, h => ⟨trivial, h⟩
  | _ :: l, m, h => ⟨⟨h.1, (Rfs.app (l := l) (m := m) h.2).1⟩, (Rfs.app (l := l) (m := m) h.2).2⟩
theorem sdRun {t ρ u : S6} (E : Env t ρ u) : ∀ (p : List Tk) (st st' : List Cx), run p st = some st' → Rfs t ρ u st' → Rfs t ρ u st
  | [], st, st', h, R => by
    have h : some st = some st' := h
    injection h with h
    rw [h]; exact R
  | tk :: p, [], st', h, R => trivial
  | tk :: p, c :: st, st', h, R => by
    rw [run] at h
    split at h
    · rename_i l hl
      have w := sdRun E p (l ++ st) st' h R
      exact ⟨sdStep E hl w.app.1, w.app.2⟩
    · exact absurd h (by intro w; cases w)
/-- a run that refutes its context -/
def don : Option (List Cx) → Bool
  | some [] => true
  | _ => false
theorem sdDon {t ρ u : S6} (E : Env t ρ u) {p : List Tk} {c : Cx} (h : don (run p [c]) = true) : ¬ Fct t ρ u c := by
  have e : run p [c] = some [] := by
    cases q : run p [c] with
    | none => rw [q] at h; exact absurd h (by intro w; cases w)
    | some l =>
      rw [q] at h
      cases l with
      | nil => rfl
      | cons a b => exact absurd h (by intro w; cases w)
  exact (sdRun E p [c] [] e trivial).1
