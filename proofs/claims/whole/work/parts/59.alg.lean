/-! products of operations -/
/-- r is the product of p and q -/
def Pr (p q r : Nat) : Prop := cOK p ∧ cOK q ∧ cOK r ∧ (∀ j, j < 9 → eM r j = mul9 (eM p) (eM q) j) ∧ ∀ j, j < 3 → eZ r j = mulS (eM p) (eZ p) (eZ q) j
theorem code_ext {p q : Nat} (hp : cOK p) (hq : cOK q) (h1 : ∀ j, j < 9 → eM p j = eM q j) (h2 : ∀ j, j < 3 → eZ p j = eZ q j) : p = q := by
  have e1 := enc_dec hp
  have e2 := enc_dec hq
  have a0 := h1 0 (by decide); have a1 := h1 1 (by decide); have a2 := h1 2 (by decide); have a3 := h1 3 (by decide); have a4 := h1 4 (by decide)
  have a5 := h1 5 (by decide); have a6 := h1 6 (by decide); have a7 := h1 7 (by decide); have a8 := h1 8 (by decide)
  have b0 := h2 0 (by decide); have b1 := h2 1 (by decide); have b2 := h2 2 (by decide)
  unfold eZ at b0 b1 b2
  have : (p : Int) = q := by
    rw [← e1, ← e2]
    unfold enc enc9
    simp only
    rw [a0, a1, a2, a3, a4, a5, a6, a7, a8, b0, b1, b2]
  omega
theorem Pr.fn {p q r r' : Nat} (h : Pr p q r) (h' : Pr p q r') : r = r' := code_ext h.2.2.1 h'.2.2.1 (fun j hj => (h.2.2.2.1 j hj).trans (h'.2.2.2.1 j hj).symm) (fun j hj => (h.2.2.2.2 j hj).trans (h'.2.2.2.2 j hj).symm)
theorem Pr.small {p q r : Nat} (h : Pr p q r) : small (mul9 (eM p) (eM q)) := fun j hj => by rw [← h.2.2.2.1 j hj]; exact eM_small r j hj
theorem prod_Pr {p q : Nat} (hp : cOK p) (hq : cOK q) (h : prod p q ≠ -1) : Pr p q (prod p q).toNat := by
  by_cases sm : small (mul9 (eM p) (eM q))
  · have rg := enc_rng sm (mulS_ok (eM p) (eZ p) (eZ q))
    rw [prod_s sm]
    refine ⟨hp, hq, by unfold cOK; omega, dec_M sm (mulS_ok _ _ _), dec_S sm (mulS_ok _ _ _)⟩
  · exact absurd (prod_n sm) h
theorem Pr.prod {p q r : Nat} (h : Pr p q r) : prod p q = r := by
  have sm := h.small
  have rg := enc_rng sm (mulS_ok (eM p) (eZ p) (eZ q))
  have := prod_Pr h.1 h.2.1 (by rw [prod_s sm]; omega)
  have e := h.fn this
  rw [prod_s sm] at e ⊢
  omega
theorem prod_iff {p q : Nat} (hp : cOK p) (hq : cOK q) : prod p q = -1 ↔ ¬ ∃ r, Pr p q r := by
  constructor
  · rintro h ⟨r, hr⟩
    have := hr.prod
    omega
  · intro h
    by_cases e : prod p q = -1
    · exact e
    · exact absurd ⟨_, prod_Pr hp hq e⟩ h
theorem mul9_at3 (M N : Nat → Int) (i k : Nat) (hk : k < 3) : mul9 M N (3 * i + k) = M (3 * i) * N k + M (3 * i + 1) * N (3 + k) + M (3 * i + 2) * N (6 + k) := by
  unfold mul9
  rw [show (3 * i + k) / 3 = i by omega, show (3 * i + k) % 3 = k by omega]
theorem mul9_assoc (A B C : Nat → Int) : ∀ j, j < 9 → mul9 (mul9 A B) C j = mul9 A (mul9 B C) j := by
  intro j hj
  obtain ⟨i, k, hi, hk, rfl⟩ : ∃ i k, i < 3 ∧ k < 3 ∧ j = 3 * i + k := ⟨j / 3, j % 3, by omega, by omega, by omega⟩
  rw [mul9_at3 _ _ i k hk, mul9_at3 _ _ i k hk]
  have e0 := mul9_at3 A B i 0 (by decide)
  have e1 := mul9_at3 A B i 1 (by decide)
  have e2 := mul9_at3 A B i 2 (by decide)
  rw [Nat.add_zero] at e0
  have f0 := mul9_at3 B C 0 k hk
  have f1 := mul9_at3 B C 1 k hk
  have f2 := mul9_at3 B C 2 k hk
  simp only [Nat.mul_zero, Nat.zero_add, Nat.mul_one, Nat.reduceAdd, Nat.reduceMul] at f0 f1 f2
  rw [e0, e1, e2, f0, f1, f2]
  simp only [Nat.add_zero, Nat.reduceAdd]
  grind
theorem mul9_ext {A A' B B' : Nat → Int} (h1 : ∀ j, j < 9 → A j = A' j) (h2 : ∀ j, j < 9 → B j = B' j) : ∀ j, j < 9 → mul9 A B j = mul9 A' B' j := by
  intro j hj
  unfold mul9
  rw [h1 _ (by omega), h1 _ (by omega), h1 _ (by omega), h2 _ (by omega), h2 _ (by omega), h2 _ (by omega)]
theorem emod_cong {a b : Int} (h : ∃ k, a = b + 24 * k) : a % 24 = b % 24 := by
  obtain ⟨k, rfl⟩ := h
  exact Int.add_mul_emod_self_left _ _ _
theorem mod24 (a : Int) : ∃ k, a % 24 = a + 24 * k := ⟨-(a / 24), by have := Int.emod_add_mul_ediv a 24; omega⟩
/-- (x u) m = x (u m) -/
theorem Pr.assoc {x u v m u' v' : Nat} (h1 : Pr x u v) (h2 : Pr u m u') (h3 : Pr v m v') : Pr x u' v' := by
  refine ⟨h1.1, h2.2.2.1, h3.2.2.1, fun j hj => ?_, fun j hj => ?_⟩
  · rw [h3.2.2.2.1 j hj, mul9_ext h1.2.2.2.1 (fun _ _ => rfl) j hj, mul9_assoc _ _ _ j hj]
    exact mul9_ext (fun _ _ => rfl) (fun i hi => (h2.2.2.2.1 i hi).symm) j hj
  · rw [h3.2.2.2.2 j hj]
    have ev : ∀ i, i < 3 → eZ v i = mulS (eM x) (eZ x) (eZ u) i := h1.2.2.2.2
    have eu : ∀ i, i < 3 → eZ u' i = mulS (eM u) (eZ u) (eZ m) i := h2.2.2.2.2
    have Mv : ∀ i, i < 9 → eM v i = mul9 (eM x) (eM u) i := h1.2.2.2.1
    unfold mulS at ev eu ⊢
    rw [ev j hj, eu 0 (by decide), eu 1 (by decide), eu 2 (by decide), Mv _ (by omega), Mv _ (by omega), Mv _ (by omega)]
    have g0 := mul9_at3 (eM x) (eM u) j 0 (by decide)
    have g1 := mul9_at3 (eM x) (eM u) j 1 (by decide)
    have g2 := mul9_at3 (eM x) (eM u) j 2 (by decide)
    rw [Nat.add_zero] at g0
    rw [g0, g1, g2]
    simp only [Nat.mul_zero, Nat.zero_add, Nat.mul_one, Nat.reduceAdd, Nat.reduceMul, Nat.add_zero]
    obtain ⟨k0, e0⟩ := mod24 (eM x (3 * j) * eZ u 0 + eM x (3 * j + 1) * eZ u 1 + eM x (3 * j + 2) * eZ u 2 + eZ x j)
    obtain ⟨k1, e1⟩ := mod24 (eM u 0 * eZ m 0 + eM u 1 * eZ m 1 + eM u 2 * eZ m 2 + eZ u 0)
    obtain ⟨k2, e2⟩ := mod24 (eM u 3 * eZ m 0 + eM u 4 * eZ m 1 + eM u 5 * eZ m 2 + eZ u 1)
    obtain ⟨k3, e3⟩ := mod24 (eM u 6 * eZ m 0 + eM u 7 * eZ m 1 + eM u 8 * eZ m 2 + eZ u 2)
    rw [e0, e1, e2, e3]
    apply emod_cong
    refine ⟨k0 - (eM x (3 * j) * k1 + eM x (3 * j + 1) * k2 + eM x (3 * j + 2) * k3), ?_⟩
    grind
def idc : Nat := 227874816
theorem id_ok : cOK idc := by unfold cOK idc; decide
theorem id_M : ∀ j, j < 9 → eM idc j = if j % 4 = 0 then 1 else 0 := by
  intro j hj
  have : j = 0 ∨ j = 1 ∨ j = 2 ∨ j = 3 ∨ j = 4 ∨ j = 5 ∨ j = 6 ∨ j = 7 ∨ j = 8 := by omega
  rcases this with rfl | rfl | rfl | rfl | rfl | rfl | rfl | rfl | rfl <;> decide
theorem id_S : ∀ j, j < 3 → eZ idc j = 0 := by
  intro j hj
  have : j = 0 ∨ j = 1 ∨ j = 2 := by omega
  rcases this with rfl | rfl | rfl <;> decide
theorem eZ_mod {p j : Nat} (hj : j < 3) : eZ p j % 24 = eZ p j := by
  have := eZ_ok p j hj
  exact Int.emod_eq_of_lt this.1 this.2
theorem Pr.id_r {x : Nat} (hx : cOK x) : Pr x idc x := by
  refine ⟨hx, id_ok, hx, fun j hj => ?_, fun j hj => ?_⟩
  · obtain ⟨i, k, hi, hk, rfl⟩ : ∃ i k, i < 3 ∧ k < 3 ∧ j = 3 * i + k := ⟨j / 3, j % 3, by omega, by omega, by omega⟩
    rw [mul9_at3 _ _ i k hk, id_M _ (by omega), id_M _ (by omega), id_M _ (by omega)]
    have : k = 0 ∨ k = 1 ∨ k = 2 := by omega
    rcases this with rfl | rfl | rfl <;> simp
  · unfold mulS
    rw [id_S 0 (by decide), id_S 1 (by decide), id_S 2 (by decide)]
    simp only [Int.mul_zero, Int.zero_add]
    exact (eZ_mod hj).symm
theorem Pr.id_l {x : Nat} (hx : cOK x) : Pr idc x x := by
  refine ⟨id_ok, hx, hx, fun j hj => ?_, fun j hj => ?_⟩
  · obtain ⟨i, k, hi, hk, rfl⟩ : ∃ i k, i < 3 ∧ k < 3 ∧ j = 3 * i + k := ⟨j / 3, j % 3, by omega, by omega, by omega⟩
    rw [mul9_at3 _ _ i k hk, id_M _ (by omega), id_M _ (by omega), id_M _ (by omega)]
    have : i = 0 ∨ i = 1 ∨ i = 2 := by omega
    rcases this with rfl | rfl | rfl <;> simp
  · unfold mulS
    rw [id_S j hj, id_M _ (by omega), id_M _ (by omega), id_M _ (by omega)]
    have : j = 0 ∨ j = 1 ∨ j = 2 := by omega
    rcases this with rfl | rfl | rfl <;> simp <;> exact (eZ_mod (by decide)).symm
theorem det9_mul (A B : Nat → Int) : det9 (mul9 A B) = det9 A * det9 B := by
  unfold det9 mul9
  simp only [Nat.reduceDiv, Nat.reduceMod, Nat.mul_zero, Nat.zero_add, Nat.mul_one, Nat.reduceAdd, Nat.reduceMul, Nat.add_zero]
  grind
theorem Pr_op {p q r : Nat} (h : Pr p q r) (hp : isOp p) (hq : isOp q) : isOp r := by
  refine ⟨h.2.2.1, ?_⟩
  rw [det9_ext h.2.2.2.1, det9_mul]
  rcases hp.2 with e | e <;> rcases hq.2 with e' | e' <;> rw [e, e'] <;> simp
/-- a matrix of determinant 1 or -1 can be taken away on the left -/
theorem cancel3 {A : Nat → Int} (hd : det9 A = 1 ∨ det9 A = -1) {x y z : Int} (h0 : A 0 * x + A 1 * y + A 2 * z = 0) (h1 : A 3 * x + A 4 * y + A 5 * z = 0) (h2 : A 6 * x + A 7 * y + A 8 * z = 0) : x = 0 ∧ y = 0 ∧ z = 0 := by
  have ex : det9 A * x = 0 := by unfold det9; grind
  have ey : det9 A * y = 0 := by unfold det9; grind
  have ez : det9 A * z = 0 := by unfold det9; grind
  rcases hd with e | e <;> rw [e] at ex ey ez <;> omega
theorem cancel24 {A : Nat → Int} (hd : det9 A = 1 ∨ det9 A = -1) {x y z k0 k1 k2 : Int} (h0 : A 0 * x + A 1 * y + A 2 * z = 24 * k0) (h1 : A 3 * x + A 4 * y + A 5 * z = 24 * k1) (h2 : A 6 * x + A 7 * y + A 8 * z = 24 * k2) : (∃ k, x = 24 * k) ∧ (∃ k, y = 24 * k) ∧ ∃ k, z = 24 * k := by
  have ex : det9 A * x = 24 * ((A 4 * A 8 - A 5 * A 7) * k0 + (A 2 * A 7 - A 1 * A 8) * k1 + (A 1 * A 5 - A 2 * A 4) * k2) := by unfold det9; grind
  have ey : det9 A * y = 24 * ((A 5 * A 6 - A 3 * A 8) * k0 + (A 0 * A 8 - A 2 * A 6) * k1 + (A 2 * A 3 - A 0 * A 5) * k2) := by unfold det9; grind
  have ez : det9 A * z = 24 * ((A 3 * A 7 - A 4 * A 6) * k0 + (A 1 * A 6 - A 0 * A 7) * k1 + (A 0 * A 4 - A 1 * A 3) * k2) := by unfold det9; grind
  rcases hd with e | e <;> rw [e] at ex ey ez
  · exact ⟨⟨_, by rw [← ex]; omega⟩, ⟨_, by rw [← ey]; omega⟩, ⟨_, by rw [← ez]; omega⟩⟩
  · exact ⟨⟨-((A 4 * A 8 - A 5 * A 7) * k0 + (A 2 * A 7 - A 1 * A 8) * k1 + (A 1 * A 5 - A 2 * A 4) * k2), by omega⟩, ⟨-((A 5 * A 6 - A 3 * A 8) * k0 + (A 0 * A 8 - A 2 * A 6) * k1 + (A 2 * A 3 - A 0 * A 5) * k2), by omega⟩, ⟨-((A 3 * A 7 - A 4 * A 6) * k0 + (A 1 * A 6 - A 0 * A 7) * k1 + (A 0 * A 4 - A 1 * A 3) * k2), by omega⟩⟩
theorem Pr.cancel {p q q' r : Nat} (hp : isOp p) (h : Pr p q r) (h' : Pr p q' r) : q = q' := by
  refine code_ext h.2.1 h'.2.1 ?_ ?_
  · have col : ∀ k, k < 3 → eM q k - eM q' k = 0 ∧ eM q (3 + k) - eM q' (3 + k) = 0 ∧ eM q (6 + k) - eM q' (6 + k) = 0 := by
      intro k hk
      have row : ∀ i, i < 3 → eM p (3 * i) * (eM q k - eM q' k) + eM p (3 * i + 1) * (eM q (3 + k) - eM q' (3 + k)) + eM p (3 * i + 2) * (eM q (6 + k) - eM q' (6 + k)) = 0 := by
        intro i hi
        have a := h.2.2.2.1 (3 * i + k) (by omega)
        have b := h'.2.2.2.1 (3 * i + k) (by omega)
        rw [mul9_at3 _ _ i k hk] at a b
        have e := a.symm.trans b
        grind
      exact cancel3 hp.2 (row 0 (by decide)) (row 1 (by decide)) (row 2 (by decide))
    intro j hj
    have c0 := col 0 (by decide); have c1 := col 1 (by decide); have c2 := col 2 (by decide)
    simp only [Nat.add_zero, Nat.reduceAdd] at c0 c1 c2
    have : j = 0 ∨ j = 1 ∨ j = 2 ∨ j = 3 ∨ j = 4 ∨ j = 5 ∨ j = 6 ∨ j = 7 ∨ j = 8 := by omega
    rcases this with rfl | rfl | rfl | rfl | rfl | rfl | rfl | rfl | rfl <;> omega
  · have row : ∀ i, i < 3 → ∃ k, eM p (3 * i) * (eZ q 0 - eZ q' 0) + eM p (3 * i + 1) * (eZ q 1 - eZ q' 1) + eM p (3 * i + 2) * (eZ q 2 - eZ q' 2) = 24 * k := by
      intro i hi
      have a := h.2.2.2.2 i hi
      have b := h'.2.2.2.2 i hi
      unfold mulS at a b
      obtain ⟨k1, e1⟩ := mod24 (eM p (3 * i) * eZ q 0 + eM p (3 * i + 1) * eZ q 1 + eM p (3 * i + 2) * eZ q 2 + eZ p i)
      obtain ⟨k2, e2⟩ := mod24 (eM p (3 * i) * eZ q' 0 + eM p (3 * i + 1) * eZ q' 1 + eM p (3 * i + 2) * eZ q' 2 + eZ p i)
      rw [e1] at a
      rw [e2] at b
      have e := a.symm.trans b
      exact ⟨k2 - k1, by grind⟩
    obtain ⟨k0, r0⟩ := row 0 (by decide)
    obtain ⟨k1, r1⟩ := row 1 (by decide)
    obtain ⟨k2, r2⟩ := row 2 (by decide)
    obtain ⟨⟨a, ea⟩, ⟨b, eb⟩, ⟨c, ec⟩⟩ := cancel24 hp.2 r0 r1 r2
    intro j hj
    have : j = 0 ∨ j = 1 ∨ j = 2 := by omega
    rcases this with rfl | rfl | rfl
    · have := eZ_ok q 0 (by decide); have := eZ_ok q' 0 (by decide); omega
    · have := eZ_ok q 1 (by decide); have := eZ_ok q' 1 (by decide); omega
    · have := eZ_ok q 2 (by decide); have := eZ_ok q' 2 (by decide); omega
