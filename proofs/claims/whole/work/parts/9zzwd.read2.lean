/-! the reader reads one instruction, whatever is done with it -/
theorem dgs_e {α : Type} : ∀ (n N : Nat) (l : List Nat), ∃ m, ∀ (k : List Nat → α), dgs n N l k = k m
  | 0, _, l => ⟨l, fun _ => rfl⟩
  | n + 1, N, l => by
    obtain ⟨m, e⟩ := dgs_e (α := α) n (Nat.div N 4294967296) (Nat.mod N 4294967296 :: l)
    exact ⟨m, fun k => by rw [dgs, frd_e, frd_e]; exact e k⟩
theorem zf_e {α : Type} (n : Nat) : ∃ z : Int, ∀ (k : Int → α), zf n k = k z := by
  cases h : Nat.beq (Nat.mod n 2) 0
  · exact ⟨Int.negSucc (Nat.div n 2), fun k => by unfold zf; rw [frd_e, h]; rfl⟩
  · exact ⟨Int.ofNat (Nat.div n 2), fun k => by unfold zf; rw [frd_e, h]; rfl⟩
theorem rdVc_e {α : Type} (l : List Nat) : ∃ v t, ∀ (k : Vc → List Nat → α), rdVc l k = k v t := by
  unfold rdVc
  split
  · rename_i a b c t
    obtain ⟨a', ea⟩ := zf_e (α := α) a
    obtain ⟨b', eb⟩ := zf_e (α := α) b
    obtain ⟨c', ec⟩ := zf_e (α := α) c
    exact ⟨(a', b', c'), t, fun k => by rw [ea, eb, ec]⟩
  · exact ⟨(0, 0, 0), [], fun k => rfl⟩
theorem rdRw_e {α : Type} (l : List Nat) : ∃ v t, ∀ (k : Rw → List Nat → α), rdRw l k = k v t := by
  unfold rdRw
  split
  · rename_i a b c d e f g t
    obtain ⟨a', ea⟩ := zf_e (α := α) a
    obtain ⟨b', eb⟩ := zf_e (α := α) b
    obtain ⟨c', ec⟩ := zf_e (α := α) c
    obtain ⟨d', ed⟩ := zf_e (α := α) d
    obtain ⟨e', ee⟩ := zf_e (α := α) e
    obtain ⟨f', ef⟩ := zf_e (α := α) f
    obtain ⟨g', eg⟩ := zf_e (α := α) g
    exact ⟨(a', b', c', d', e', f', g'), t, fun k => by rw [ea, eb, ec, ed, ee, ef, eg]⟩
  · exact ⟨(0, 0, 0, 0, 0, 0, 0), [], fun k => rfl⟩
theorem rdVs_e {α : Type} : ∀ (n : Nat) (l : List Nat) (s : List Vc), ∃ v t, ∀ (k : List Vc → List Nat → α), rdVs n l s k = k v t
  | 0, l, s => ⟨s, l, fun _ => rfl⟩
  | n + 1, l, s => by
    obtain ⟨v, t, e⟩ := rdVc_e (α := α) l
    obtain ⟨w, u, e2⟩ := rdVs_e (α := α) n t (v :: s)
    exact ⟨w, u, fun k => by rw [rdVs, e, e2]⟩
theorem rdRs_e {α : Type} : ∀ (n : Nat) (l : List Nat) (s : List Rw), ∃ v t, ∀ (k : List Rw → List Nat → α), rdRs n l s k = k v t
  | 0, l, s => ⟨s, l, fun _ => rfl⟩
  | n + 1, l, s => by
    obtain ⟨v, t, e⟩ := rdRw_e (α := α) l
    obtain ⟨w, u, e2⟩ := rdRs_e (α := α) n t (v :: s)
    exact ⟨w, u, fun k => by rw [rdRs, e, e2]⟩
theorem rdP_e {α : Type} : ∀ (n : Nat) (l : List Nat) (s : List (Nat × Nat)), ∃ v t, ∀ (k : List (Nat × Nat) → List Nat → α), rdP n l s k = k v t
  | 0, l, s => ⟨s, l, fun _ => rfl⟩
  | n + 1, a :: b :: t, s => by
    obtain ⟨w, u, e2⟩ := rdP_e (α := α) n t ((a, b) :: s)
    exact ⟨w, u, fun k => by rw [rdP, e2]⟩
  | n + 1, [], s => ⟨s, [], fun _ => rfl⟩
  | n + 1, [a], s => ⟨s, [], fun _ => rfl⟩
theorem rdQ_e {α : Type} : ∀ (n : Nat) (l : List Nat) (s : List (Vc × Nat)), ∃ v t, ∀ (k : List (Vc × Nat) → List Nat → α), rdQ n l s k = k v t
  | 0, l, s => ⟨s, l, fun _ => rfl⟩
  | n + 1, l, s => by
    obtain ⟨v, t, e⟩ := rdVc_e (α := α) l
    cases t with
    | nil => exact ⟨s, [], fun k => by rw [rdQ, e]⟩
    | cons m t =>
      obtain ⟨w, u, e2⟩ := rdQ_e (α := α) n t ((v, m) :: s)
      exact ⟨w, u, fun k => by rw [rdQ, e]; exact e2 k⟩
theorem rdCs_e {α : Type} : ∀ (n : Nat) (l : List Nat) (s : List Ct), ∃ v t, ∀ (k : List Ct → List Nat → α), rdCs n l s k = k v t
  | 0, l, s => ⟨s, l, fun _ => rfl⟩
  | n + 1, d :: a :: t, s => by
    obtain ⟨ps, t1, e1⟩ := rdP_e (α := α) a t []
    cases t1 with
    | nil => exact ⟨s, [], fun k => by rw [rdCs, e1]⟩
    | cons b t1 =>
      obtain ⟨qs, t2, e2⟩ := rdQ_e (α := α) b t1 []
      obtain ⟨w, u, e3⟩ := rdCs_e (α := α) n t2 ((d, ps, qs) :: s)
      exact ⟨w, u, fun k => by rw [rdCs, e1]; simp only; rw [e2, e3]⟩
  | n + 1, [], s => ⟨s, [], fun _ => rfl⟩
  | n + 1, [a], s => ⟨s, [], fun _ => rfl⟩
theorem rdT_e {α : Type} (n N : Nat) : ∃ tk, ∀ (k : Tk → α), rdT n N k = k tk := by
  obtain ⟨l, e⟩ := dgs_e (α := α) n N []
  unfold rdT
  match l, e with
  | [], e => exact ⟨(99, [], [], []), fun k => by rw [e]⟩
  | [_], e => exact ⟨(99, [], [], []), fun k => by rw [e]⟩
  | o :: a :: t, e =>
    obtain ⟨vs, t1, e1⟩ := rdVs_e (α := α) a t []
    match t1, e1 with
    | [], e1 => exact ⟨(99, [], [], []), fun k => by rw [e]; simp only; rw [e1]⟩
    | b :: t1, e1 =>
      obtain ⟨rs, t2, e2⟩ := rdRs_e (α := α) b t1 []
      match t2, e2 with
      | [], e2 => exact ⟨(99, [], [], []), fun k => by rw [e]; simp only; rw [e1]; simp only; rw [e2]⟩
      | c :: t2, e2 =>
        obtain ⟨cs, t3, e3⟩ := rdCs_e (α := α) c t2 []
        exact ⟨(o, vs, rs, cs), fun k => by rw [e]; simp only; rw [e1]; simp only; rw [e2]; simp only; rw [e3]⟩
theorem sdRunN {t ρ u : S6} (E : Env t ρ u) : ∀ (p : List (Nat × Nat)) (st st' : List Cx), runN p st = some st' → Rfs t ρ u st' → Rfs t ρ u st
  | [], st, st', h, R => by
    have h : some st = some st' := h
    injection h with h
    rw [h]; exact R
  | tk :: p, [], st', h, R => trivial
  | (n, N) :: p, c :: st, st', h, R => by
    obtain ⟨tk, e⟩ := rdT_e (α := Option (List Cx)) n N
    rw [runN, e] at h
    split at h
    · rename_i l hl
      have w := sdRunN E p (l ++ st) st' h R
      exact ⟨sdStep E hl w.app.1, w.app.2⟩
    · exact absurd h (by intro w; cases w)
theorem sdDonN {t ρ u : S6} (E : Env t ρ u) {p : List (Nat × Nat)} {c : Cx} (h : don (runN p [c]) = true) : ¬ Fct t ρ u c := by
  have e : runN p [c] = some [] := by
    cases q : runN p [c] with
    | none => rw [q] at h; exact absurd h (by intro w; cases w)
    | some l =>
      rw [q] at h
      cases l with
      | nil => rfl
      | cons a b => exact absurd h (by intro w; cases w)
  exact (sdRunN E p [c] [] e trivial).1
