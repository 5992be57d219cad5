/-! the reference keeps a half: words of bits, in their order -/
theorem nI_prd (a : Nat) : nI (a + 1) - (1 : Int32) = nI a := by rw [← nI_1]; exact Int32.add_sub_cancel _ _
theorem nI_prem (a : Nat) : nI (a + 1) + (-1 : Int32) = nI a := by rw [show (-1 : Int32) = zI (-1) from rfl, nI_addZ, ← zI_nat]; congr 1; omega
theorem sh64 : ∀ j, j < 64 → ∀ t, t < 64 → ((1 : Int64) <<< ((Int32.ofNat j).toInt64 &&& (63 : Int64))).toBitVec.getLsbD t = decide (t = j) := by decide +kernel
/-- the bits of a half among those below k, in word q -/
def WdK (x : Int64) (m : Nat → Bool) (q k : Nat) : Prop := ∀ i, i < 64 → x.toBitVec.getLsbD (63 - i) = (decide (64 * q + i < k) && !m (64 * q + i))
theorem WdK.zero (m : Nat → Bool) (q : Nat) : WdK 0 m q 0 := fun i _ => by
  rw [decide_eq_false (Nat.not_lt_zero _), Bool.false_and]
  show (0#64).getLsbD (63 - i) = false
  exact BitVec.getLsbD_zero
theorem WdK.out {x : Int64} {m : Nat → Bool} {q k : Nat} (h : WdK x m q k) (o : k < 64 * q ∨ 64 * q + 64 ≤ k) : WdK x m q (k + 1) := fun i hi => by
  rw [h i hi]
  congr 1
  exact decide_eq_decide.mpr (by omega)
theorem WdK.no {x : Int64} {m : Nat → Bool} {q k : Nat} (h : WdK x m q k) (o : m k = true) : WdK x m q (k + 1) := fun i hi => by
  rw [h i hi]
  by_cases e : 64 * q + i = k
  · rw [e, o]; simp
  · congr 1
    exact decide_eq_decide.mpr (by omega)
theorem WdK.set {x : Int64} {m : Nat → Bool} {q k : Nat} (h : WdK x m q k) (o : m k = false) (a : 64 * q ≤ k) (b : k < 64 * q + 64) : WdK (x ||| ((1 : Int64) <<< ((nI (64 * q + 63 - k)).toInt64 &&& (63 : Int64)))) m q (k + 1) := fun i hi => by
  rw [Int64.toBitVec_or, BitVec.getLsbD_or, h i hi]
  have := sh64 (64 * q + 63 - k) (by omega) (63 - i) (by omega)
  rw [show Int32.ofNat (64 * q + 63 - k) = nI (64 * q + 63 - k) from rfl] at this
  rw [this]
  by_cases e : 64 * q + i = k
  · rw [decide_eq_false (show ¬ 64 * q + i < k by omega), decide_eq_true (show 63 - i = 64 * q + 63 - k by omega), decide_eq_true (show 64 * q + i < k + 1 by omega), e, o]; rfl
  · rw [decide_eq_false (show ¬ 63 - i = 64 * q + 63 - k by omega), Bool.or_false]
    congr 1
    exact decide_eq_decide.mpr (by omega)
/-- numbers of words without a sign -/
def uN (x : Int64) : Nat := x.toBitVec.toNat
theorem uN_lt (x : Int64) : uN x < 2 ^ 64 := x.toBitVec.isLt
theorem uN_inj {x y : Int64} (h : uN x = uN y) : x = y := Int64.toBitVec_inj.mp (BitVec.eq_of_toNat_eq h)
theorem uN_toInt (x : Int64) : x.toInt = if 2 * uN x < 2 ^ 64 then (uN x : Int) else (uN x : Int) - 18446744073709551616 := by
  rw [← Int64.toInt_toBitVec, BitVec.toInt_eq_toNat_cond]; rfl
theorem uN_bit (x : Int64) (t : Nat) : (uN x).testBit t = x.toBitVec.getLsbD t := rfl
theorem sp_Ref_isGreater {h : MH} (x y : Int64) : SpI k_Ref_isGreater [.long x, .long y] h (fun r g => g = h ∧ ((r = 1 ∧ uN y < uN x) ∨ (r = 0 ∧ ¬ uN y < uN x))) := by
  have ex := uN_toInt x
  have ey := uN_toInt y
  have lx := uN_lt x
  have ly := uN_lt y
  have z0 : (0 : Int64).toInt = 0 := rfl
  refine v_Ref_isGreater _ _ _ _ ?_
  rw [lc_lt, lc_lt, z0]
  have same : (x.toInt < 0 ↔ y.toInt < 0) → ∀ s : Int32, WM k_Ref_isGreater p_Ref_isGreater_1 [.long x, Jv, .long y, Jv] [.int s, .int s] h 0 0 (fun v g => ∃ r, v = .int r ∧ g = h ∧ ((r = 1 ∧ uN y < uN x) ∨ (r = 0 ∧ ¬ uN y < uN x))) := fun e s => by
    refine v_Ref_isGreater_1 _ _ _ _ _ _ ⟨fun _ => ?_, fun q => absurd rfl q⟩
    rw [lc_gt]
    refine ⟨fun q => ⟨_, rfl, rfl, Or.inl ⟨rfl, ?_⟩⟩, fun q => ⟨_, rfl, rfl, Or.inr ⟨rfl, ?_⟩⟩⟩
    · split at ex <;> split at ey <;> omega
    · split at ex <;> split at ey <;> omega
  have diff : ∀ s t : Int32, s ≠ t → (x.toInt < 0 ↔ ¬ y.toInt < 0) → WM k_Ref_isGreater p_Ref_isGreater_1 [.long x, Jv, .long y, Jv] [.int t, .int s] h 0 0 (fun v g => ∃ r, v = .int r ∧ g = h ∧ ((r = 1 ∧ uN y < uN x) ∨ (r = 0 ∧ ¬ uN y < uN x))) := fun s t n e => by
    refine v_Ref_isGreater_1 _ _ _ _ _ _ ⟨fun q => absurd q n, fun _ => ?_⟩
    rw [lc_lt, z0]
    refine ⟨fun q => ⟨_, rfl, rfl, Or.inl ⟨rfl, ?_⟩⟩, fun q => ⟨_, rfl, rfl, Or.inr ⟨rfl, ?_⟩⟩⟩
    · split at ex <;> split at ey <;> omega
    · split at ex <;> split at ey <;> omega
  exact ⟨fun a => ⟨fun b => same (by omega) _, fun b => diff _ _ (by decide) (by omega)⟩, fun a => ⟨fun b => diff _ _ (by decide) (by omega), fun b => same (by omega) _⟩⟩
/-- words and order -/
theorem wd_eq {x y : Int64} {m m' : Nat → Bool} {q n : Nat} (hx : WdK x m q n) (hy : WdK y m' q n) (e : x = y) : ∀ i, 64 * q ≤ i → i < 64 * q + 64 → i < n → m i = m' i := fun i h1 h2 h3 => by
  have a := hx (i - 64 * q) (by omega)
  have b := hy (i - 64 * q) (by omega)
  rw [e, b, show 64 * q + (i - 64 * q) = i by omega, decide_eq_true h3] at a
  revert a
  cases m i <;> cases m' i <;> decide
theorem wd_gt {x y : Int64} {m m' : Nat → Bool} {q n : Nat} (hx : WdK x m q n) (hy : WdK y m' q n) (g : uN y < uN x) : ∃ i, 64 * q ≤ i ∧ i < n ∧ m i = false ∧ m' i = true ∧ ∀ j, 64 * q ≤ j → j < i → m j = m' j := by
  obtain ⟨k, kb, t1, t2, t3⟩ := tb_hi 64 _ _ (uN_lt y) (uN_lt x) g
  have a := hx (63 - k) (by omega)
  have b := hy (63 - k) (by omega)
  rw [show 63 - (63 - k) = k by omega, ← uN_bit] at a b
  rw [t2] at a
  rw [t1] at b
  have a := a.symm
  rw [Bool.and_eq_true] at a
  have lt := of_decide_eq_true a.1
  rw [decide_eq_true lt] at b
  refine ⟨64 * q + (63 - k), by omega, lt, ?_, ?_, fun j h1 h2 => ?_⟩
  · revert a; cases m (64 * q + (63 - k)) <;> simp
  · revert b; cases m' (64 * q + (63 - k)) <;> simp
  · have c := hx (j - 64 * q) (by omega)
    have d := hy (j - 64 * q) (by omega)
    rw [← uN_bit, show 64 * q + (j - 64 * q) = j by omega, decide_eq_true (show j < n by omega)] at c d
    have := t3 (63 - (j - 64 * q)) (by omega)
    rw [this] at d
    rw [d] at c
    revert c
    cases m j <;> cases m' j <;> decide
def WdR (l : (Nat → Nat → Int64)) (p : Nat) (n : Nat) (m : Nat → Bool) : Prop := WdK (l 70 p) m 0 n ∧ WdK (l 70 (p + 1)) m 1 n ∧ WdK (l 70 (p + 2)) m 2 n
theorem sp_Ref_comesAhead {h : MH} {f : (Nat → Nat → Int32)} {l : (Nat → Nat → Int64)} {n p : Nat} {m m' : Nat → Bool} {a b c : Int64} (hn : n ≤ 192) (hp : p + 2 < 23040) (w0 : WdK a m 0 n) (w1 : WdK b m 1 n) (w2 : WdK c m 2 n) (st : WdR l p n m') :
    SpI k_Ref_comesAhead [.ref 54, .long a, .long b, .long c, .int (nI p)] (sil h f l) (fun r g => g = sil h f l ∧ ((r = 1 ∧ Ahd n m m') ∨ (r = 0 ∧ ¬ Ahd n m m'))) := by
  obtain ⟨s0, s1, s2⟩ := st
  have tot : ∀ x y : Int64, x ≠ y → ¬ uN y < uN x → uN x < uN y := fun x y ne ng => by
    rcases Nat.lt_trichotomy (uN x) (uN y) with q | q | q
    · exact q
    · exact absurd (uN_inj q) ne
    · exact absurd q ng
  have e2 : nI p + 2 = nI (p + 2) := nI_add p 2
  refine v_Ref_comesAhead _ _ _ _ _ _ _ ⟨K54, ?_⟩
  rw [R54_23, nI_1, e2, ix_nI (by omega), ix_nI (by omega), ix_nI (by omega), ml_sil, lc_eq, lc_eq]
  refine ⟨K70, InB_nI (show p < 23040 by omega) (by omega), fun ea => ⟨InB_nI (show p + 1 < 23040 by omega) (by omega), fun eb => ⟨InB_nI (show p + 2 < 23040 by omega) (by omega), SpI.mono (sp_Ref_isGreater _ _) ?_⟩, fun nb => SpI.mono (sp_Ref_isGreater _ _) ?_⟩, fun na => SpI.mono (sp_Ref_isGreater _ _) ?_⟩
  · have q0 := wd_eq w0 s0 ea
    have q1 := wd_eq w1 s1 eb
    rintro r g ⟨rfl, ⟨rfl, z⟩ | ⟨rfl, z⟩⟩
    · obtain ⟨i, i1, i2, i3, i4, i5⟩ := wd_gt w2 s2 z
      refine ⟨Or.inr rfl, _, rfl, rfl, Or.inl ⟨rfl, i, i2, i3, i4, fun j hj => ?_⟩⟩
      by_cases c0 : j < 64
      · exact q0 j (by omega) (by omega) (by omega)
      · by_cases c1 : j < 128
        · exact q1 j (by omega) (by omega) (by omega)
        · exact i5 j (by omega) hj
    · refine ⟨Or.inl rfl, _, rfl, rfl, Or.inr ⟨rfl, fun A => ?_⟩⟩
      by_cases ec : c = l 70 (p + 2)
      · have q2 := wd_eq w2 s2 ec
        obtain ⟨i, i1, i2, i3, _⟩ := A
        have : m i = m' i := by
          by_cases c0 : i < 64
          · exact q0 i (by omega) (by omega) (by omega)
          · by_cases c1 : i < 128
            · exact q1 i (by omega) (by omega) (by omega)
            · exact q2 i (by omega) (by omega) (by omega)
        rw [i2, i3] at this
        exact absurd this (by decide)
      · obtain ⟨i, i1, i2, i3, i4, i5⟩ := wd_gt s2 w2 (tot _ _ ec z)
        refine Ahd.as A ⟨i, i2, i3, i4, fun j hj => ?_⟩
        by_cases c0 : j < 64
        · exact (q0 j (by omega) (by omega) (by omega)).symm
        · by_cases c1 : j < 128
          · exact (q1 j (by omega) (by omega) (by omega)).symm
          · exact i5 j (by omega) hj
  · have q0 := wd_eq w0 s0 ea
    rintro r g ⟨rfl, ⟨rfl, z⟩ | ⟨rfl, z⟩⟩
    · obtain ⟨i, i1, i2, i3, i4, i5⟩ := wd_gt w1 s1 z
      refine ⟨Or.inr rfl, _, rfl, rfl, Or.inl ⟨rfl, i, i2, i3, i4, fun j hj => ?_⟩⟩
      by_cases c0 : j < 64
      · exact q0 j (by omega) (by omega) (by omega)
      · exact i5 j (by omega) hj
    · refine ⟨Or.inl rfl, _, rfl, rfl, Or.inr ⟨rfl, fun A => ?_⟩⟩
      obtain ⟨i, i1, i2, i3, i4, i5⟩ := wd_gt s1 w1 (tot _ _ nb z)
      refine Ahd.as A ⟨i, i2, i3, i4, fun j hj => ?_⟩
      by_cases c0 : j < 64
      · exact (q0 j (by omega) (by omega) (by omega)).symm
      · exact i5 j (by omega) hj
  · rintro r g ⟨rfl, ⟨rfl, z⟩ | ⟨rfl, z⟩⟩
    · obtain ⟨i, i1, i2, i3, i4, i5⟩ := wd_gt w0 s0 z
      exact ⟨Or.inr rfl, _, rfl, rfl, Or.inl ⟨rfl, i, i2, i3, i4, fun j hj => i5 j (by omega) hj⟩⟩
    · refine ⟨Or.inl rfl, _, rfl, rfl, Or.inr ⟨rfl, fun A => ?_⟩⟩
      obtain ⟨i, i1, i2, i3, i4, i5⟩ := wd_gt s0 w0 (tot _ _ na z)
      exact Ahd.as A ⟨i, i2, i3, i4, fun j hj => i5 j (by omega) hj⟩
