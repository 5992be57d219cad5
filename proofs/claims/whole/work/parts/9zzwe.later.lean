/-! a run that leaves contexts for later -/
def runD : List (Nat × Nat) → List Cx → List Cx → Option (List Cx)
  | [], [], w => some w
  | [], _ :: _, _ => none
  | _ :: _, [], _ => none
  | tk :: p, c :: st, w => rdT tk.1 tk.2 fun tk => cond (Nat.beq tk.1 14) (runD p st (c :: w)) (match step tk c with
    | some l => runD p (l ++ st) w
    | none => none)
theorem sdRunD {t ρ u : S6} (E : Env t ρ u) : ∀ (p : List (Nat × Nat)) (st w w' : List Cx), runD p st w = some w' → Rfs t ρ u w' → Rfs t ρ u st ∧ Rfs t ρ u w
  | [], [], w, w', h, R => by
    have h : some w = some w' := h
    injection h with h
    rw [h]; exact ⟨trivial, R⟩
  | [], _ :: _, w, w', h, R => absurd h (by intro q; cases q)
  | _ :: _, [], w, w', h, R => absurd h (by intro q; cases q)
  | (n, N) :: p, c :: st, w, w', h, R => by
    obtain ⟨tk, e⟩ := rdT_e n N
    rw [runD, e] at h
    cases q : Nat.beq tk.1 14
    · rw [q, cond_false] at h
      split at h
      · rename_i l hl
        obtain ⟨a, b⟩ := sdRunD E p (l ++ st) w w' h R
        exact ⟨⟨sdStep E hl a.app.1, a.app.2⟩, b⟩
      · exact absurd h (by intro q; cases q)
    · rw [q, cond_true] at h
      obtain ⟨a, b⟩ := sdRunD E p st (c :: w) w' h R
      exact ⟨⟨b.1, a⟩, b.2⟩
/-- two contexts are the same -/
def rlq : List Rw → List Rw → Bool
  | [], [] => true
  | a :: l, b :: m => rbq a b && rlq l m
  | _, _ => false
theorem rlq_e : ∀ {l m : List Rw}, rlq l m = true → l = m
  | [], [], _ => rfl
  | a :: l, b :: m, h => by
    have h : (rbq a b && rlq l m) = true := h
    rw [Bool.and_eq_true] at h
    rw [rbq_eq h.1, rlq_e h.2]
  | [], _ :: _, h => absurd h (by intro q; cases q)
  | _ :: _, [], h => absurd h (by intro q; cases q)
def bbq (a b : Bool) : Bool := cond a b (cond b false true)
theorem bbq_e {a b : Bool} (h : bbq a b = true) : a = b := by cases a <;> cases b <;> first | rfl | exact absurd h (by decide)
def cbq : Cx → Cx → Bool := fun (s, g, K, p, q, r, P, H) (s', g', K', p', q', r', P', H') => Nat.beq s s' && (bbq g g' && (Nat.beq K K' && (vbq p p' && (vbq q q' && (vbq r r' && (rlq P P' && rlq H H'))))))
theorem cbq_e {c d : Cx} (h : cbq c d = true) : c = d := by
  obtain ⟨s, g, K, p, q, r, P, H⟩ := c
  obtain ⟨s', g', K', p', q', r', P', H'⟩ := d
  simp only [cbq, Bool.and_eq_true] at h
  obtain ⟨h1, h2, h3, h4, h5, h6, h7, h8⟩ := h
  rw [beq_n h1, bbq_e h2, beq_n h3, vbq_eq h4, vbq_eq h5, vbq_eq h6, rlq_e h7, rlq_e h8]
def clq : List Cx → List Cx → Bool
  | [], [] => true
  | a :: l, b :: m => cbq a b && clq l m
  | _, _ => false
theorem clq_e : ∀ {l m : List Cx}, clq l m = true → l = m
  | [], [], _ => rfl
  | a :: l, b :: m, h => by
    have h : (cbq a b && clq l m) = true := h
    rw [Bool.and_eq_true] at h
    rw [cbq_e h.1, clq_e h.2]
  | [], _ :: _, h => absurd h (by intro q; cases q)
  | _ :: _, [], h => absurd h (by intro q; cases q)
/-- the upper run ends in these contexts -/
def ups (p : List (Nat × Nat)) (c : Cx) (l : List Cx) : Bool := match runD p [c] [] with
  | some w => clq w l
  | none => false
theorem sdUps {t ρ u : S6} (E : Env t ρ u) {p : List (Nat × Nat)} {c : Cx} {l : List Cx} (h : ups p c l = true) (R : Rfs t ρ u l) : ¬ Fct t ρ u c := by
  unfold ups at h
  split at h
  · rename_i w hw
    rw [← clq_e h] at R
    exact (sdRunD E p [c] [] w hw R).1.1
  · exact absurd h (by intro q; cases q)
/-- the same, all of it coded -/
def upN (p : List (Nat × Nat)) (x : Nat × Nat) (l : List (Nat × Nat)) : Bool := rdK x.1 x.2 fun c => rdL l [] fun s => ups p c s
def Rf (t ρ u : S6) (x : Nat × Nat) : Prop := ¬ Fct t ρ u (cxN x)
def RfL (t ρ u : S6) : List (Nat × Nat) → Prop
  | [] => True
  | x :: l => Rf t ρ u x ∧ RfL t ρ u l
theorem RfL.rv {t ρ u : S6} : ∀ {l : List (Nat × Nat)} {s : List Cx}, RfL t ρ u l → Rfs t ρ u s → Rfs t ρ u (rvN l s)
  | [], _, _, h => h
  | _ :: l, s, h, g => RfL.rv (l := l) h.2 ⟨h.1, g⟩
theorem sdUpN {t ρ u : S6} {p : List (Nat × Nat)} {x : Nat × Nat} {l : List (Nat × Nat)} (h : upN p x l = true) (E : Env t ρ u) (R : RfL t ρ u l) : Rf t ρ u x := by
  unfold upN at h
  rw [rdK_c, rdL_c] at h
  exact sdUps E h (R.rv trivial)
