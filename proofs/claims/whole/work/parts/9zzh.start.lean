/-! the invariant at the start -/
theorem vO_no {c : Nat} : ∀ (L : List OP) (n a j : Nat), a < n → (∀ o ∈ L, o.1 = 0 ∨ o.1 ≠ c ∨ o.2.1 ≠ a) → vO c L n a j = none
  | [], _, _, _, _, _ => rfl
  | o :: r, n, a, j, h1, h2 => by
    have h3 := h2 o List.mem_cons_self
    have h4 : ∀ q ∈ r, q.1 = 0 ∨ q.1 ≠ c ∨ q.2.1 ≠ a := fun q hq => h2 q (List.mem_cons_of_mem _ hq)
    show (if o.1 = 0 then (vO c r (n + 1) a j).or (if a = n then some 0 else none) else (vO c r n a j).or (if o.1 = c ∧ a = o.2.1 ∧ j = o.2.2.1 then some o.2.2.2 else none)) = none
    split
    · rw [vO_no r (n + 1) a j (by omega) h4, if_neg (by omega)]; rfl
    · rename_i e
      rw [vO_no r n a j h1 h4, if_neg (fun q => by rcases h3 with e2 | e2 | e2; exact e e2; exact e2 q.1; exact e2 q.2.1.symm)]; rfl
theorem vO_zero {c : Nat} : ∀ (L : List OP) (n a j : Nat), n ≤ a → a < hO L n → (∀ o ∈ L, o.1 = 0 ∨ o.1 ≠ c ∨ o.2.1 ≠ a) → vO c L n a j = some 0
  | [], n, a, j, h0, h1, _ => absurd h1 (by show ¬ a < n; omega)
  | o :: r, n, a, j, h0, h1, h2 => by
    have h4 : ∀ q ∈ r, q.1 = 0 ∨ q.1 ≠ c ∨ q.2.1 ≠ a := fun q hq => h2 q (List.mem_cons_of_mem _ hq)
    have h1' : a < hO r (if o.1 = 0 then n + 1 else n) := h1
    show (if o.1 = 0 then (vO c r (n + 1) a j).or (if a = n then some 0 else none) else (vO c r n a j).or (if o.1 = c ∧ a = o.2.1 ∧ j = o.2.2.1 then some o.2.2.2 else none)) = some 0
    split
    · rename_i e
      rw [if_pos e] at h1'
      by_cases q : a = n
      · rw [vO_no r (n + 1) a j (by omega) h4, if_pos q]; rfl
      · rw [vO_zero r (n + 1) a j (by omega) h1' h4]; rfl
    · rename_i e
      rw [if_neg e] at h1'
      rw [vO_zero r n a j h0 h1' h4]; rfl
def ZeA : List Nat := [7, 8, 14, 56, 61, 62, 69, 83, 84]
theorem opL_z : ∀ a ∈ ZeA, ∀ o ∈ opL, o.1 = 0 ∨ o.1 ≠ 2 ∨ o.2.1 ≠ a := by decide +kernel
theorem opL_s : ∀ a ∈ [2, 3, 4], ∀ o ∈ opL, o.1 = 0 ∨ o.1 ≠ 2 ∨ o.2.1 ≠ a := by decide +kernel
theorem B_z (z : h0T) {a : Nat} (h : a ∈ ZeA) (j : Nat) : mi (B203 z) a j = nI 0 := by
  have ra : ∀ a ∈ ZeA, 5 ≤ a ∧ a < 99 := by decide
  exact B_i z (vO_zero opL 5 a j (ra a h).1 (by rw [opL_h]; exact (ra a h).2) (opL_z a h))
theorem B_s (z : h0T) {a : Nat} (h : a ∈ [2, 3, 4]) (j : Nat) : mi (B203 z) a j = mi (5, z) a j := by
  have ra : ∀ a ∈ [2, 3, 4], a < 5 := by decide
  rw [B_run, mi_run, show vO 2 opL (hn ((5, z) : MH)) a j = none from vO_no opL 5 a j (ra a h) (opL_s a h)]
  rfl
theorem B_inv (z : h0T) (k2 : ∀ j, j < 32 → mi (5, z) 2 j = keysL.getD j 0) (k3 : ∀ j, j < 96 → mi (5, z) 3 j = zI (csT.getD j 0)) (k4 : ∀ j, j < 13 → mi (5, z) 4 j = nI (lat.getD j 0)) : IvW (B203 z) := by
  have v : ∀ a j, vO 2 opL 5 a j = some 0 → mi (B203 z) a j = nI 0 := fun a j e => B_i z e
  have m1 : ∀ a j, vO 2 opL 5 a j = some (-1) → mi (B203 z) a j = -1 := fun a j e => B_i z e
  have nl : ∀ {P : Nat → Prop}, ∀ i, i < 0 → P i := fun i hi => absurd hi (Nat.not_lt_zero i)
  have fx : ∀ a ∈ ZeA, mi (B203 z) a = fun _ => nI 0 := fun a ha => funext (fun j => B_z z ha j)
  refine ⟨((fun _ => nI 0, 0, (fun _ => nI 0), nI 0, zI (-1)), [], [], (fun _ => False), [], [], [], []), ⟨by decide, fun i q => q.elim, by decide, nl⟩, ⟨fun _ => 0, ⟨⟨fun j _ => B_z z (by decide) j, ⟨v 6 2 (by decide +kernel), by decide⟩, fx 8 (by decide), v 6 4 (by decide +kernel), B_i z (by decide +kernel)⟩, ⟨v 6 8 (by decide +kernel), nl⟩, ⟨by decide, fun x hx => absurd hx List.not_mem_nil, v 5 3 (by decide +kernel), nl⟩, fun i _ => Or.inl ⟨B_z z (by decide) i, fun q => q⟩, ⟨v 50 3 (by decide +kernel), nl⟩, fun j hj => by rw [B_s z (by decide)]; exact k2 j hj, fun j hj => by rw [B_s z (by decide)]; exact k3 j hj, fun j hj => by rw [B_s z (by decide)]; exact k4 j hj⟩, ⟨by decide, v 5 6 (by decide +kernel), nl⟩, ⟨by decide, v 5 14 (by decide +kernel), nl⟩, ⟨by decide, v 5 16 (by decide +kernel), nl⟩⟩, ?_⟩
  refine ⟨⟨⟨fun j _ => B_z z (by decide) j, ⟨v 54 9 (by decide +kernel), by decide⟩, fx 62 (by decide), v 54 10 (by decide +kernel), B_i z (by decide +kernel)⟩, ⟨v 54 14 (by decide +kernel), nl⟩, ⟨by decide, fun x hx => absurd hx List.not_mem_nil, v 54 1 (by decide +kernel), nl⟩, fun i _ => Or.inl ⟨B_z z (by decide) i, fun q => q⟩, ⟨v 54 56 (by decide +kernel), nl⟩⟩, ⟨⟨by decide, fun x hx => absurd hx List.not_mem_nil, v 54 17 (by decide +kernel), nl⟩, fun i _ _ => B_z z (by decide) i, nl⟩, ⟨⟨by decide, v 54 32 (by decide +kernel), nl⟩, Or.inl (m1 54 36 (by decide +kernel))⟩, ⟨by decide, v 54 45 (by decide +kernel), fun j _ => ⟨B_z z (by decide) j, B_z z (by decide) j⟩, nl⟩, Or.inl (m1 54 51 (by decide +kernel))⟩
/-- the law over a script of 448 numbers at most -/
theorem law_all (R : RND0) (RR : RND) (cls : ∀ S, GOk S → ∃ i, CtOK (brK S S.length) i) (site : ∀ S, GOk S → ∀ p, p < 13824 → ∃ i, CtOK (keepL S p) i) (z : h0T) (hk : ∀ a, 0 < a → a < 5 → kd (5, z) a = 19) (h2 : ln (5, z) 2 = 32) (h3 : ln (5, z) 3 = 96) (h4 : ln (5, z) 4 = 13) (k2 : ∀ j, j < 32 → mi (5, z) 2 j = keysL.getD j 0) (k3 : ∀ j, j < 96 → mi (5, z) 3 j = zI (csT.getD j 0)) (k4 : ∀ j, j < 13 → mi (5, z) 4 j = nI (lat.getD j 0)) (h1 : ln (5, z) 1 ≤ 448) : WM k_Law_law 0 (ent (lM k_Law_law) [.ref 1]) [] (5, z) 0 0 (fun v _ => v = .int 1) := by
  have S := B_SS z hk h2 h3 h4
  have e1 := (B_1 z).1
  refine law_start z _ ?_
  exact law_loop (I := fun _ => IvW) (L := ln (5, z) 1) h1 (fun i _ => q_all R RR cls site) (fun i h _ _ w => w) (ln (5, z) 1) 0 (B203 z) 94 110249 (by omega) (by omega) S (B_inv z k2 k3 k4) e1 (by omega) (by omega)
