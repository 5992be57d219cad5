/-! the locals -/
theorem lset_get : ∀ (L : List Value) (i : Nat) (v : Value) (j : Nat), (lset L i v)[j]? = if j = i then (if i < L.length then some v else none) else if j + 1 = i then (L[j]?).map unl else L[j]?
  | [], i, v, j => by
    have e : lset [] i v = [] := by cases i <;> rfl
    rw [e]
    by_cases h1 : j = i
    · simp [h1]
    · by_cases h2 : j + 1 = i <;> simp [h1, h2]
  | a :: L, 0, v, j => by
    cases j with
    | zero => simp [lset]
    | succ j => simp [lset]
  | a :: L, 1, v, j => by
    cases L with
    | nil =>
      cases j with
      | zero => simp [lset]
      | succ j =>
        cases j with
        | zero => simp [lset]
        | succ j => simp [lset]
    | cons b L =>
      cases j with
      | zero => simp [lset]
      | succ j =>
        cases j with
        | zero => simp [lset]
        | succ j => simp [lset]
  | a :: L, i + 2, v, j => by
    cases j with
    | zero => simp [lset]
    | succ j =>
      show (lset L (i + 1) v)[j]? = _
      rw [lset_get L (i + 1) v j]
      simp only [List.getElem?_cons_succ, List.length_cons]
      repeat' split
      all_goals first | rfl | (exfalso; omega)
theorem lset_len : ∀ (L : List Value) (i : Nat) (v : Value), (lset L i v).length = L.length
  | [], i, v => by cases i <;> rfl
  | a :: L, 0, v => rfl
  | a :: L, 1, v => by cases L <;> rfl
  | a :: L, i + 2, v => by
    show (lset L (i + 1) v).length + 1 = _
    rw [lset_len L (i + 1) v]
    rfl
theorem lset2_get : ∀ (L : List Value) (i : Nat) (v : Value) (j : Nat), i + 1 < L.length → (lset2 L i v)[j]? = if j = i then some v else if j = i + 1 then some Jv else if j + 1 = i then (L[j]?).map unl else L[j]?
  | [], i, v, j, h => by simp at h
  | a :: L, 0, v, j, h => by
    cases L with
    | nil => simp at h
    | cons b L =>
      cases j with
      | zero => simp [lset2]
      | succ j =>
        cases j with
        | zero => simp [lset2]
        | succ j => simp [lset2]
  | a :: L, 1, v, j, h => by
    cases L with
    | nil => simp at h
    | cons b L =>
      cases L with
      | nil => simp at h
      | cons d L =>
        cases j with
        | zero => simp [lset2]
        | succ j =>
          cases j with
          | zero => simp [lset2]
          | succ j =>
            cases j with
            | zero => simp [lset2]
            | succ j => simp [lset2]
  | a :: L, i + 2, v, j, h => by
    cases j with
    | zero => simp [lset2]
    | succ j =>
      show (lset2 L (i + 1) v)[j]? = _
      rw [lset2_get L (i + 1) v j (by simp only [List.length_cons] at h; omega)]
      simp only [List.getElem?_cons_succ]
      repeat' split
      all_goals first | rfl | (exfalso; omega)
theorem lset2_len : ∀ (L : List Value) (i : Nat) (v : Value), (lset2 L i v).length = L.length
  | [], i, v => by cases i <;> rfl
  | a :: L, 0, v => by cases L <;> rfl
  | a :: L, 1, v => by
    cases L with
    | nil => rfl
    | cons b L => cases L <;> rfl
  | a :: L, i + 2, v => by
    show (lset2 L (i + 1) v).length + 1 = _
    rw [lset2_len L (i + 1) v]
    rfl
def prs (G : WG) (L : List Value) : List (Nat × Value) := (List.range L.length).filterMap (fun i => match L[i]? with
  | some v => if v = Jv then none else some (i, em G v)
  | none => none)
theorem prs_mem {G : WG} {L : List Value} {i : Nat} {v : Value} (h : L[i]? = some v) (hv : v ≠ Jv) : (i, em G v) ∈ prs G L := by
  refine List.mem_filterMap.mpr ⟨i, List.mem_range.mpr (List.getElem?_eq_some_iff.mp h).1, ?_⟩
  rw [h]
  simp [hv]
theorem prs_of {G : WG} {L : List Value} {q : Nat × Value} (h : q ∈ prs G L) : ∃ v, L[q.1]? = some v ∧ v ≠ Jv ∧ q.2 = em G v := by
  obtain ⟨i, -, h2⟩ := List.mem_filterMap.mp h
  cases e : L[i]? with
  | none => rw [e] at h2; cases h2
  | some v =>
    rw [e] at h2
    by_cases hv : v = Jv
    · simp [hv] at h2
    · simp only [hv, if_false, Option.some.injEq] at h2
      subst h2
      exact ⟨v, e, hv, rfl⟩
theorem LR.has {G : WG} {n : Nat} {L : List Value} {ls : Array Slot} (h : LR G n L ls) : lv_has ls L.length (prs G L) := by
  refine ⟨h.1.1, h.2.1, fun q hq => ?_⟩
  obtain ⟨v, h1, h2, h3⟩ := prs_of hq
  rw [h3]
  exact h.2.2 q.1 v h1 h2
theorem em_cat {G : WG} (v : Value) : (em G v).category = v.category := by
  cases v <;> try rfl
  rename_i a
  show (er G a).category = 1
  unfold er
  split <;> rfl
theorem LR.st1 {G : WG} {n : Nat} {L : List Value} {ls ls' : Array Slot} {i : Nat} {v : Value} (lr : LR G n L ls) (h : lv_has ls' L.length ((i, em G v) :: (prs G L).filter (fun q => !(q.1 == i) && !(q.1 + 1 == i && q.2.category == 2)))) : LR G n (lset L i v) ls' := by
  refine ⟨⟨by rw [lset_len]; exact h.1, by rw [lset_len]; exact lr.1.2⟩, h.2.1, fun j w hj hw => ?_⟩
  rw [lset_get] at hj
  by_cases h1 : j = i
  · subst h1
    rw [if_pos rfl] at hj
    split at hj
    · cases hj
      exact h.2.2 (j, em G v) List.mem_cons_self
    · cases hj
  · rw [if_neg h1] at hj
    by_cases h2 : j + 1 = i
    · rw [if_pos h2] at hj
      cases e : L[j]? with
      | none => rw [e] at hj; cases hj
      | some w0 =>
        rw [e] at hj
        simp only [Option.map_some, Option.some.injEq] at hj
        have hc : w0 = w ∧ ¬ w0.category = 2 := by
          cases w0 <;> simp_all [unl, Value.category]
        have hm := prs_mem (G := G) e (by rw [hc.1]; exact hw)
        rw [hc.1] at hm
        refine h.2.2 (j, em G w) (List.mem_cons_of_mem _ (List.mem_filter.mpr ⟨hm, ?_⟩))
        have := hc.2
        rw [hc.1] at this
        simp [h1, em_cat, this]
    · rw [if_neg h2] at hj
      refine h.2.2 (j, em G w) (List.mem_cons_of_mem _ (List.mem_filter.mpr ⟨prs_mem hj hw, ?_⟩))
      simp [h1, h2]
theorem LR.st2 {G : WG} {n : Nat} {L : List Value} {ls ls' : Array Slot} {i : Nat} {v : Value} (lr : LR G n L ls) (hi : i + 1 < L.length) (h : lv_has ls' L.length ((i, em G v) :: (prs G L).filter (fun q => !(q.1 == i) && (!(q.1 == i + 1) && !(q.1 + 1 == i && q.2.category == 2))))) : LR G n (lset2 L i v) ls' := by
  refine ⟨⟨by rw [lset2_len]; exact h.1, by rw [lset2_len]; exact lr.1.2⟩, h.2.1, fun j w hj hw => ?_⟩
  rw [lset2_get _ _ _ _ hi] at hj
  by_cases h1 : j = i
  · subst h1
    rw [if_pos rfl] at hj
    cases hj
    exact h.2.2 (j, em G v) List.mem_cons_self
  · rw [if_neg h1] at hj
    by_cases h0 : j = i + 1
    · rw [if_pos h0] at hj
      cases hj
      exact absurd rfl hw
    · rw [if_neg h0] at hj
      by_cases h2 : j + 1 = i
      · rw [if_pos h2] at hj
        cases e : L[j]? with
        | none => rw [e] at hj; cases hj
        | some w0 =>
          rw [e] at hj
          simp only [Option.map_some, Option.some.injEq] at hj
          have hc : w0 = w ∧ ¬ w0.category = 2 := by
            cases w0 <;> simp_all [unl, Value.category]
          have hm := prs_mem (G := G) e (by rw [hc.1]; exact hw)
          rw [hc.1] at hm
          refine h.2.2 (j, em G w) (List.mem_cons_of_mem _ (List.mem_filter.mpr ⟨hm, ?_⟩))
          have := hc.2
          rw [hc.1] at this
          simp [h1, h0, em_cat, this]
      · rw [if_neg h2] at hj
        refine h.2.2 (j, em G w) (List.mem_cons_of_mem _ (List.mem_filter.mpr ⟨prs_mem hj hw, ?_⟩))
        simp [h1, h0, h2]
theorem kl_get : ∀ (m : List Bool) (L : List Value) (j : Nat) (v : Value), (kl m L)[j]? = some v → v ≠ Jv → L[j]? = some v
  | [], L, j, v, h, _ => by simpa [kl] using h
  | _ :: _, [], j, v, h, _ => by simp [kl] at h
  | b :: m, w :: L, j, v, h, hv => by
    cases j with
    | zero =>
      cases b with
      | true => simpa [kl] using h
      | false =>
        simp [kl] at h
        exact absurd h.symm hv
    | succ j =>
      have h : (kl m L)[j]? = some v := by simpa [kl] using h
      simpa using kl_get m L j v h hv
theorem kl_len : ∀ (m : List Bool) (L : List Value), (kl m L).length = L.length
  | [], L => by simp [kl]
  | _ :: _, [] => by simp [kl]
  | b :: m, w :: L => by simp [kl, kl_len m L]
theorem LR.kl {G : WG} {n : Nat} {L : List Value} {ls : Array Slot} (m : List Bool) (h : LR G n L ls) : LR G n (kl m L) ls :=
  ⟨⟨by rw [kl_len]; exact h.1.1, by rw [kl_len]; exact h.1.2⟩, h.2.1, fun j v hj hv => h.2.2 j v (kl_get m L j v hj hv) hv⟩
theorem LR.at {G : WG} {n : Nat} {L : List Value} {ls : Array Slot} {i : Nat} {v : Value} (h : LR G n L ls) (e : L.getD i Jv = v) (hv : v ≠ Jv) : ls[i]? = some (Slot.val (em G v)) := by
  rw [List.getD_eq_getElem?_getD] at e
  cases q : L[i]? with
  | none => rw [q] at e; exact absurd e.symm hv
  | some w =>
    rw [q] at e
    have e : w = v := e
    subst e
    exact h.2.2 i w q hv
theorem LR.lt {G : WG} {n : Nat} {L : List Value} {ls : Array Slot} {i : Nat} {v : Value} (h : LR G n L ls) (e : L.getD i Jv = v) (hv : v ≠ Jv) : i < L.length := by
  rw [List.getD_eq_getElem?_getD] at e
  cases q : L[i]? with
  | none => rw [q] at e; exact absurd e.symm hv
  | some w => exact (List.getElem?_eq_some_iff.mp q).1
