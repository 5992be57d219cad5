/-! phases: the two sets of mixtures have one greatest -/
theorem crs_ng (PH : List Ph) (i j : Nat) : crs PH j i = -crs PH i j := by unfold crs; grind
theorem crs_pos {PH : List Ph} {i j k : Nat} (ok : okPh PH) (hi : i < PH.length) (hj : j < PH.length) (hk : k < PH.length) (h1 : 0 < crs PH i k) (h2 : 0 < crs PH k j) : 0 < crs PH i j := by
  have e := crs_id PH i j k
  have si := (ok.2 i hi).2.2.1
  have sj := (ok.2 j hj).2.2.1
  have sk := (ok.2 k hk).2.2.1
  have p1 : 0 < crs PH k j * phS PH i := Int.mul_pos h2 (by omega)
  have p2 : 0 < crs PH i k * phS PH j := Int.mul_pos h1 (by omega)
  have p3 : 0 * phS PH k < crs PH i j * phS PH k := by omega
  exact Int.lt_of_mul_lt_mul_right p3 (by omega)
theorem crs_ab {PH : List Ph} {i j : Nat} (ok : okPh PH) (hi : i < PH.length) (hj : j < PH.length) : -9801 ≤ crs PH i j ∧ crs PH i j ≤ 9801 := by
  obtain ⟨⟨a1, a2⟩, ⟨a3, a4⟩, _⟩ := ok.2 i hi
  obtain ⟨⟨b1, b2⟩, ⟨b3, b4⟩, _⟩ := ok.2 j hj
  have m1 : phP PH i * phQ PH j ≤ 99 * 99 := Int.mul_le_mul a2 b4 b3 (by decide)
  have m2 : phQ PH i * phP PH j ≤ 99 * 99 := Int.mul_le_mul a4 b2 b1 (by decide)
  have m3 : 0 ≤ phP PH i * phQ PH j := Int.mul_nonneg a1 b3
  have m4 : 0 ≤ phQ PH i * phP PH j := Int.mul_nonneg a3 b1
  unfold crs
  omega
theorem phE_ab {PH : List Ph} {i : Nat} (ok : okPh PH) (hi : i < PH.length) : Ab (phE PH i) 100000000 := Ab.of (ok.2 i hi).2.2.2.1 (ok.2 i hi).2.2.2.2
theorem phS_ab {PH : List Ph} {i : Nat} (ok : okPh PH) (hi : i < PH.length) : 1 ≤ phS PH i ∧ phS PH i ≤ 198 := by
  obtain ⟨⟨a1, a2⟩, ⟨a3, a4⟩, a5, _⟩ := ok.2 i hi
  unfold phS at *
  omega
theorem crs_abs {PH : List Ph} {i j : Nat} (ok : okPh PH) (hi : i < PH.length) (hj : j < PH.length) : Ab (crs PH i j) 9801 := Ab.of (crs_ab ok hi hj).1 (crs_ab ok hi hj).2
theorem sU_ab {PH : List Ph} {k i : Nat} (ok : okPh PH) (hk : k < PH.length) (hi : i < PH.length) : Ab (sU PH k i) 4000000000000 :=
  (((phE_ab ok hk).mul (Ab.of (a := 198) (by have := phS_ab ok hi; omega) (phS_ab ok hi).2)).sub ((phE_ab ok hi).mul (Ab.of (a := 198) (by have := phS_ab ok hk; omega) (phS_ab ok hk).2))).wk (by decide)
theorem mU_ab {PH : List Ph} {k i j : Nat} (ok : okPh PH) (hk : k < PH.length) (hi : i < PH.length) (hj : j < PH.length) : Ab (mU PH k i j) 4000000000000 :=
  ((((phE_ab ok hk).mul (crs_abs ok hi hj)).sub ((phE_ab ok hi).mul (crs_abs ok hk hj))).sub ((phE_ab ok hj).mul (crs_abs ok hi hk))).wk (by decide)
theorem Cd.b {PH : List Ph} {k n : Nat} (ok : okPh PH) (hk : k < PH.length) (hn : n ≤ PH.length) : Cb (Cd PH k n) := by
  rintro u l (⟨rfl, rfl⟩ | ⟨i, hi, ⟨_, rfl, rfl⟩ | ⟨c, j, hj, c2, rfl, rfl⟩⟩)
  · exact ⟨by decide, Ab.of (by decide) (by decide)⟩
  · have := phS_ab ok (show i < PH.length by omega)
    exact ⟨by omega, sU_ab ok hk (by omega)⟩
  · have := crs_pos ok (show i < PH.length by omega) hj hk c c2
    have := (crs_ab ok (show i < PH.length by omega) hj).2
    exact ⟨by omega, mU_ab ok hk (by omega) hj⟩
theorem CdJ.b {PH : List Ph} {k i n : Nat} (ok : okPh PH) (hk : k < PH.length) (hi : i < PH.length) (c : 0 < crs PH i k) (hn : n ≤ PH.length) : Cb (CdJ PH k i n) := by
  rintro u l ⟨j, hj, c2, rfl, rfl⟩
  have := crs_pos ok hi (show j < PH.length by omega) hk c c2
  have := (crs_ab ok hi (show j < PH.length by omega)).2
  exact ⟨by omega, mU_ab ok hk (by omega) (by omega)⟩
theorem Cr.b {PH : List Ph} {k n : Nat} (ok : okPh PH) (hk : k < PH.length) (hn : n ≤ PH.length) : Cb (Cr PH k n) := by
  rintro u l (⟨rfl, rfl⟩ | ⟨i, hi, ⟨_, rfl, rfl⟩ | ⟨j, hj, c, rfl, rfl⟩⟩)
  · exact ⟨by decide, Ab.of (by decide) (by decide)⟩
  · have := phS_ab ok (show i < PH.length by omega)
    exact ⟨by omega, sU_ab ok hk (by omega)⟩
  · have := (crs_ab ok (show i < PH.length by omega) hj).2
    exact ⟨by omega, mU_ab ok hk (by omega) hj⟩
theorem CrJ.b {PH : List Ph} {k i n : Nat} (ok : okPh PH) (hk : k < PH.length) (hi : i < PH.length) (hn : n ≤ PH.length) : Cb (CrJ PH k i n) := by
  rintro u l ⟨j, hj, c2, rfl, rfl⟩
  have := (crs_ab ok hi (show j < PH.length by omega)).2
  exact ⟨by omega, mU_ab ok hk (by omega) (by omega)⟩
theorem Cd.r {PH : List Ph} {k : Nat} (ok : okPh PH) (hk : k < PH.length) {u l : Int} (c : Cd PH k PH.length u l) : Cr PH k PH.length u l := by
  rcases c with c | ⟨i, hi, ⟨c, e1, e2⟩ | ⟨c, j, hj, c2, e1, e2⟩⟩
  · exact Or.inl c
  · exact Or.inr ⟨i, hi, Or.inl ⟨c, e1, e2⟩⟩
  · exact Or.inr ⟨i, hi, Or.inr ⟨j, hj, ⟨crs_pos ok hi hj hk c c2, by omega, by omega⟩, e1, e2⟩⟩
theorem Cr.d {PH : List Ph} {k : Nat} (ok : okPh PH) (hk : k < PH.length) {u l : Int} (c : Cr PH k PH.length u l) : ∃ u' l', Cd PH k PH.length u' l' ∧ u * l' = u' * l := by
  rcases c with c | ⟨i, hi, ⟨c, e1, e2⟩ | ⟨j, hj, ⟨c1, c2, c3⟩, e1, e2⟩⟩
  · exact ⟨u, l, Or.inl c, rfl⟩
  · exact ⟨u, l, Or.inr ⟨i, hi, Or.inl ⟨c, e1, e2⟩⟩, rfl⟩
  · have id := crs_id PH i j k
    by_cases z1 : crs PH k j = 0
    · refine ⟨sU PH k j, phS PH j, Or.inr ⟨j, hj, Or.inl ⟨by rw [crs_ng, z1]; rfl, rfl, rfl⟩⟩, ?_⟩
      subst e1 e2
      unfold mU sU
      rw [z1] at id ⊢
      generalize crs PH i j = d at *
      generalize crs PH i k = b at *
      generalize phS PH k = sk at *
      generalize phS PH j = sj at *
      grind
    · by_cases z2 : crs PH i k = 0
      · refine ⟨sU PH k i, phS PH i, Or.inr ⟨i, hi, Or.inl ⟨z2, rfl, rfl⟩⟩, ?_⟩
        subst e1 e2
        unfold mU sU
        rw [z2] at id ⊢
        generalize crs PH i j = d at *
        generalize crs PH k j = b at *
        generalize phS PH k = sk at *
        generalize phS PH i = sj at *
        grind
      · exact ⟨u, l, Or.inr ⟨i, hi, Or.inr ⟨by omega, j, hj, by omega, e1, e2⟩⟩, rfl⟩
theorem MX.nn {C : CdT} {U L : Int} (m : MX C U L) (c : C 0 1) : 0 ≤ U := by
  have := m.2.2 0 1 c
  omega
theorem MX.same {PH : List Ph} {k : Nat} {U L U' L' : Int} (ok : okPh PH) (hk : k < PH.length) (m : MX (Cd PH k PH.length) U L) (m' : MX (Cr PH k PH.length) U' L') : U * L' = U' * L := by
  have b := Cd.b ok hk (Nat.le_refl _)
  have b' := Cr.b ok hk (Nat.le_refl _)
  have h1 := MX.val b b' m m' (fun u l c => ⟨u, l, c.r ok hk, rfl⟩)
  have h2 := MX.val b' b m' m (fun u l c => c.d ok hk)
  omega
theorem red_eq {A B C D : Nat} (hB : 0 < B) (hD : 0 < D) (e : A * D = C * B) : A / Nat.gcd A B = C / Nat.gcd C D ∧ B / Nat.gcd A B = D / Nat.gcd C D := by
  have g1 : Nat.gcd A B * D = Nat.gcd (A * D) (B * D) := (Nat.gcd_mul_right A D B).symm
  have g2 : Nat.gcd C D * B = Nat.gcd (C * B) (D * B) := (Nat.gcd_mul_right C B D).symm
  have eg : Nat.gcd A B * D = Nat.gcd C D * B := by rw [g1, g2, e, Nat.mul_comm B D]
  refine ⟨?_, ?_⟩
  · rw [← Nat.mul_div_mul_right A (Nat.gcd A B) hD, ← Nat.mul_div_mul_right C (Nat.gcd C D) hB, e, eg]
  · rw [← Nat.mul_div_mul_right B (Nat.gcd A B) hD, ← Nat.mul_div_mul_right D (Nat.gcd C D) hB, eg, Nat.mul_comm B D]
/-- above of a phase, by a set of mixtures -/
def AbF (C : CdT) (s : Int) (x y : Int) : Prop := ∃ U L S : Nat, MX C U L ∧ (S : Int) = s ∧ x = ((U / Nat.gcd U (L * S) : Nat) : Int) ∧ y = ((L * S / Nat.gcd U (L * S) : Nat) : Int)
theorem AbF.same {PH : List Ph} {k : Nat} {x y x' y' : Int} (ok : okPh PH) (hk : k < PH.length) (m : AbF (Cd PH k PH.length) (phS PH k) x y) (m' : AbF (Cr PH k PH.length) (phS PH k) x' y') : x = x' ∧ y = y' := by
  obtain ⟨U, L, S, m1, m2, rfl, rfl⟩ := m
  obtain ⟨U', L', S', n1, n2, rfl, rfl⟩ := m'
  have s0 := phS_ab ok hk
  have e : S = S' := by omega
  subst e
  have ee := MX.same ok hk m1 n1
  have p1 := m1.1
  have p2 := n1.1
  have e1 : U * L' = U' * L := by exact_mod_cast ee
  have hS : 0 < S := by omega
  obtain ⟨r1, r2⟩ := red_eq (A := U) (B := L * S) (C := U') (D := L' * S) (Nat.mul_pos (by omega) hS) (Nat.mul_pos (by omega) hS) (by rw [← Nat.mul_assoc, e1, Nat.mul_assoc])
  exact ⟨by rw [r1], by rw [r2]⟩
theorem AbF.zero {C : CdT} {s x y : Int} (b : Cb C) (m : AbF C s x y) (c0 : C 0 1) (hs : 1 ≤ s) : x = 0 ↔ ∀ u l, C u l → u ≤ 0 := by
  obtain ⟨U, L, S, m1, m2, rfl, rfl⟩ := m
  have p1 := m1.1
  have hS : 0 < S := by omega
  have hp : 0 < L * S := Nat.mul_pos (by omega) hS
  have gp : 0 < Nat.gcd U (L * S) := Nat.gcd_pos_of_pos_right _ hp
  constructor
  · intro e u l q
    have hU : U = 0 := by
      have d := Nat.div_mul_cancel (Nat.gcd_dvd_left U (L * S))
      have e' : U / Nat.gcd U (L * S) = 0 := by exact_mod_cast e
      rw [e', Nat.zero_mul] at d
      exact d.symm
    have h := m1.2.2 u l q
    rw [hU] at h
    have h' : u * (L : Int) ≤ 0 * (L : Int) := by simpa using h
    exact Int.le_of_mul_le_mul_right h' p1
  · intro h
    have hU := h _ _ m1.2.1
    have : U = 0 := by omega
    rw [this, Nat.zero_div]
    rfl
def stab (PH : List Ph) (k : Nat) : Prop := ∀ u l, Cd PH k PH.length u l → u ≤ 0
theorem stab_r {PH : List Ph} {k : Nat} (ok : okPh PH) (hk : k < PH.length) : (∀ u l, Cr PH k PH.length u l → u ≤ 0) ↔ stab PH k := by
  refine ⟨fun h u l q => h u l (q.r ok hk), fun h u l q => ?_⟩
  obtain ⟨u', l', c, e⟩ := q.d ok hk
  have h1 := h u' l' c
  have b1 := (Cd.b ok hk (Nat.le_refl _) u' l' c).1.1
  have b2 := (Cr.b ok hk (Nat.le_refl _) u l q).1.1
  have h2 : u' * l ≤ 0 * l := Int.mul_le_mul_of_nonneg_right h1 (by omega)
  have h3 : u * l' ≤ 0 * l' := by omega
  exact Int.le_of_mul_le_mul_right h3 b1
noncomputable def stN (PH : List Ph) : Nat → Nat
  | 0 => 0
  | k + 1 => stN PH k + @ite Nat (stab PH k) (Classical.propDecidable _) 1 0
theorem stN_y {PH : List Ph} {k : Nat} (h : stab PH k) : stN PH (k + 1) = stN PH k + 1 := by
  show stN PH k + @ite Nat (stab PH k) (Classical.propDecidable _) 1 0 = _
  rw [if_pos h]
theorem stN_n {PH : List Ph} {k : Nat} (h : ¬ stab PH k) : stN PH (k + 1) = stN PH k := by
  show stN PH k + @ite Nat (stab PH k) (Classical.propDecidable _) 1 0 = _
  rw [if_neg h]
  rfl
theorem stN_le {PH : List Ph} (k : Nat) : stN PH k ≤ k := by
  induction k with
  | zero => exact Nat.le_refl _
  | succ k ih =>
    by_cases h : stab PH k
    · rw [stN_y h]; omega
    · rw [stN_n h]; omega
def AbG (PH : List Ph) (x y : Int32) (k : Nat) : Prop := k < PH.length ∧ x = nI k ∧ (y = 0 ∨ y = 1)
def AbvA (C : Nat → CdT) (PH : List Ph) (x y : Int32) (r : Int64) : Prop := (y = 2 ∧ r = zL (stN PH PH.length : Nat)) ∨ (y ≠ 2 ∧ ((∃ k u v, AbG PH x y k ∧ AbF (C k) (phS PH k) u v ∧ r = if y = 0 then zL u else zL v) ∨ ((¬ ∃ k, AbG PH x y k) ∧ r = 0)))
theorem AbvA.fn {PH : List Ph} {x y : Int32} {r r' : Int64} (ok : okPh PH) (h : AbvA (fun k => Cd PH k PH.length) PH x y r) (h' : AbvA (fun k => Cr PH k PH.length) PH x y r') : r = r' := by
  have hl := ok.1
  rcases h with ⟨e, h⟩ | ⟨e, h⟩ <;> rcases h' with ⟨e', h'⟩ | ⟨e', h'⟩
  · rw [h, h']
  · exact absurd e e'
  · exact absurd e' e
  · rcases h with ⟨k, u, v, g, a, q⟩ | ⟨n, q⟩ <;> rcases h' with ⟨k', u', v', g', a', q'⟩ | ⟨n', q'⟩
    · have ek : k = k' := (nI_inj (by have := g.1; omega) (by have := g'.1; omega)).mp (g.2.1.symm.trans g'.2.1)
      subst ek
      obtain ⟨e1, e2⟩ := a.same ok g.1 a'
      rw [q, q', e1, e2]
    · exact absurd ⟨k, g⟩ n'
    · exact absurd ⟨k', g'⟩ n
    · rw [q, q']
