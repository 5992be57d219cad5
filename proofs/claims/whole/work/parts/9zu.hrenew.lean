/-! the class's lines: an entry of a model -/
def LnX (h : MH) (O : Nat → Nat) (t τ : Nat) (s : S6) (P : List Pl) (w y : Nat) : Prop := 1 ≤ w ∧ ∃ τ', τ' ≤ τ ∧ LnB h O t y w τ' ∧ (τ' = τ → LnC h y w s P)
theorem MdA.kp6 {A : List Nat} {h k : MH} {x t : Nat} {P : List Pl} (m : MdA h x t P) (c : Kp A h k) (hx : x + 6 < hn h) (no : ∀ j, j < 6 → x + j ∉ A) : MdA k x t P := by
  obtain ⟨m1, m2, m3, T, m4, m5⟩ := m
  have i0 := c.i (x := x) (by omega) (no 0 (by decide))
  refine ⟨by rw [i0]; exact m1, by rw [i0]; exact m2, ?_, T, m4.kp2 c (by omega) (by omega) (no 4 (by decide)) (no 5 (by decide)), m5⟩
  unfold PlA
  rw [c.i (x := x + 1) (by omega) (no 1 (by decide)), c.i (x := x + 2) (by omega) (no 2 (by decide)), c.i (x := x + 3) (by omega) (no 3 (by decide))]
  exact m3
theorem LnX.kp {A : List Nat} {h k : MH} {O O' : Nat → Nat} {t τ w y : Nat} {s : S6} {P : List Pl} (m : LnX h O t τ s P w y) (c : Kp A h k) (no : y ∉ A ∧ y + 1 ∉ A ∧ y + 2 ∉ A) (hO : ∀ a, a < hn h → O' a = O a) : LnX k O' t τ s P w y := by
  have l := c.2.1
  obtain ⟨n0, n1, n2⟩ := no
  obtain ⟨q0, τ', q1, ⟨⟨b1, b2, b3, b4, b5⟩, ⟨c1, c2, c3, c4, c5⟩, d1, d2, d3, d4⟩, q2⟩ := m
  have i0 := c.i (x := y) (by omega) n0
  have r0 := c.r (x := y) (by omega) n0
  refine ⟨q0, τ', q1, ⟨⟨b1, by omega, by rw [hO _ (by omega)]; exact b3, by rw [hO _ (by omega)]; exact b4, by rw [hO _ (by omega)]; exact b5⟩, ⟨by rw [c.k (by omega)]; exact c1, by rw [i0]; exact c2, by rw [r0]; exact c3, by rw [r0]; exact c4, by rw [i0]; exact c5⟩, by rw [c.k (by omega)]; exact d1, by rw [c.n (by omega)]; exact d2, by rw [c.k (by omega)]; exact d3, by rw [c.n (by omega)]; exact d4⟩, fun e => ?_⟩
  obtain ⟨L, e1, e2, e3, e4⟩ := q2 e
  refine ⟨L, e1, e2, by rw [i0]; exact e3, ?_⟩
  unfold LnAt
  rw [c.i (x := y + 2) (by omega) n2, c.l (x := y + 1) (by omega) n1]
  exact e4
theorem kne {h : MH} {a b p q : Nat} (ha : kd h a = p) (hb : kd h b = q) (n : p ≠ q) : a ≠ b := fun e => n (by rw [← ha, e, hb])
theorem LnB.dis {h : MH} {O O' : Nat → Nat} {t t' y y' w w' τ τ' : Nat} (a : LnB h O t y w τ) (b : LnB h O' t' y' w' τ') (hw : w < 7) (hw' : w' < 7) (ne : w' ≠ w) : y' ∉ [y, y + 1, y + 2] ∧ y' + 1 ∉ [y, y + 1, y + 2] ∧ y' + 2 ∉ [y, y + 1, y + 2] := by
  obtain ⟨_, ⟨c1, c2, _⟩, d1, _, d3, _⟩ := a
  obtain ⟨_, ⟨e1, e2, _⟩, f1, _, f3, _⟩ := b
  have n0 : y' ≠ y := fun e => by
    rw [e, c2] at e2
    exact ne ((nI_inj (by omega) (by omega)).mp e2).symm
  have n1 : y' ≠ y + 1 := kne e1 d1 (by decide)
  have n2 : y' ≠ y + 2 := kne e1 d3 (by decide)
  have n3 : y' + 1 ≠ y := kne f1 c1 (by decide)
  have n4 : y' + 2 ≠ y := kne f3 c1 (by decide)
  simp only [List.mem_cons, List.not_mem_nil, or_false]
  omega
theorem MdK.dis {h : MH} {O : Nat → Nat} {t x a b y w τ : Nat} (mk : MdK h x a b) (lb : LnB h O t y w τ) (j : Nat) (hj : j < 7) : x + j ∉ [y, y + 1, y + 2] := by
  obtain ⟨⟨a1, _⟩, ⟨b1, _⟩, ⟨b3, _⟩, ⟨b5, _⟩, ⟨b7, _, b9, _⟩, b11, _⟩ := mk
  obtain ⟨_, ⟨c1, _⟩, d1, _, d3, _⟩ := lb
  have n0 := kne a1 c1 (by decide)
  have n1 := kne a1 d1 (by decide)
  have n2 := kne a1 d3 (by decide)
  have n3 := kne b1 c1 (by decide)
  have n4 := kne b3 c1 (by decide)
  have n5 := kne b5 c1 (by decide)
  have n6 := kne b7 c1 (by decide)
  have n7 := kne b9 c1 (by decide)
  have n8 := kne b11 c1 (by decide)
  simp only [List.mem_cons, List.not_mem_nil, or_false]
  omega
theorem HMdl.ent {A : List Nat} {h k : MH} {O O' : Nat → Nat} {ng m w : Nat} {CS : List S6} {MS : List Mdl} (H : SS h) (hm : HMdl h O ng CS MS) (hi : m < MS.length) (K : Kp A h k)
    (hA : ∀ a ∈ A, a ∈ [46, 47, 48, 49] ∨ (99 ≤ a ∧ O a = 100 + m ∧ ∀ j, j < 6 → mr h 44 m + j ≠ a)) (hO : ∀ a, a < hn h → O' a = O a)
    (e6 : ∀ v, v < 7 → v ≠ w → mr k (mr h 44 m + 6) v = mr h (mr h 44 m + 6) v)
    (oth : ∀ v τ, v < 7 → v ≠ w → LnB h O (100 + m) (mr h (mr h 44 m + 6) v) v τ → mr h (mr h 44 m + 6) v ∉ A ∧ mr h (mr h 44 m + 6) v + 1 ∉ A ∧ mr h (mr h 44 m + 6) v + 2 ∉ A)
    (new : mr k (mr h 44 m + 6) w = 0 ∨ LnX k O' (100 + m) (MS.getD m zM).2.2.1 (CS.getD (MS.getD m zM).2.1 z6) (MS.getD m zM).2.2.2 w (mr k (mr h 44 m + 6) w)) : HMdl k O' ng CS MS := by
  have h99 := H.1
  have l := K.2.1
  have s4 : ∀ a ∈ [46, 47, 48, 49], a < 99 ∧ a ≠ 5 ∧ a ≠ 29 ∧ a ≠ 43 ∧ a ≠ 44 := by decide
  have ns : ∀ a, a < 99 → a ∉ [46, 47, 48, 49] → a ∉ A := fun a h1 h2 q => by
    rcases hA a q with c | c
    · exact h2 c
    · omega
  have e44 := K.r (x := 44) (by omega) (ns _ (by omega) (by decide))
  have e29 := K.r (x := 29) (by omega) (ns _ (by omega) (by decide))
  have e43 := K.r (x := 43) (by omega) (ns _ (by omega) (by decide))
  refine ⟨hm.1, by rw [K.i (by omega) (ns _ (by omega) (by decide))]; exact hm.2.1, fun j hj => ?_⟩
  rw [e44, e29, e43]
  obtain ⟨g1, g2⟩ := hm.2.2 j hj
  refine ⟨g1, ?_⟩
  by_cases e : j = m
  rotate_left
  · exact g2.kp K (fun a ha => (hA a ha).imp (fun q => (s4 a q).1) (fun q => by rw [q.2.1]; omega)) hO
  · subst e
    obtain ⟨⟨b1, b2, b3⟩, mk, ma, mc⟩ := g2
    have no : ∀ i, i < 6 → mr h 44 j + i ∉ A := fun i h1 q => by
      rcases hA _ q with c | c
      · have := s4 _ c; omega
      · exact c.2.2 i h1 rfl
    refine ⟨⟨b1, by omega, fun i h1 => by rw [hO _ (by omega)]; exact b3 i h1⟩, mk.kp K b2 (no 0 (by decide)) (no 4 (by decide)), ma.kp6 K b2 no, fun v hv => ?_⟩
    by_cases ev : v = w
    · subst ev; exact new
    · rw [e6 v hv ev]
      refine (mc v hv).imp id (fun q => ?_)
      have q' := q
      obtain ⟨_, τ', _, lb, _⟩ := q
      exact LnX.kp q' K (oth v τ' hv ev lb) hO
