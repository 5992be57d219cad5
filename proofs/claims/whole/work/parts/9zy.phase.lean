/-! phases: what above means -/
abbrev Ph := Int × Int × Int
abbrev zh : Ph := (0, 0, 0)
def phP (PH : List Ph) (i : Nat) : Int := (PH.getD i zh).1
def phQ (PH : List Ph) (i : Nat) : Int := (PH.getD i zh).2.1
def phE (PH : List Ph) (i : Nat) : Int := (PH.getD i zh).2.2
def phS (PH : List Ph) (i : Nat) : Int := phP PH i + phQ PH i
def crs (PH : List Ph) (i j : Nat) : Int := phP PH i * phQ PH j - phQ PH i * phP PH j
def okPh (PH : List Ph) : Prop := PH.length ≤ 40 ∧ ∀ i, i < PH.length → (0 ≤ phP PH i ∧ phP PH i ≤ 99) ∧ (0 ≤ phQ PH i ∧ phQ PH i ≤ 99) ∧ 1 ≤ phS PH i ∧ -100000000 ≤ phE PH i ∧ phE PH i ≤ 100000000
def sU (PH : List Ph) (k i : Nat) : Int := phE PH k * phS PH i - phE PH i * phS PH k
def mU (PH : List Ph) (k i j : Nat) : Int := phE PH k * crs PH i j - phE PH i * crs PH k j - phE PH j * crs PH i k
abbrev CdT := Int → Int → Prop
def MX (C : CdT) (U L : Int) : Prop := 0 < L ∧ C U L ∧ ∀ u l, C u l → u * L ≤ U * l
def Cb (C : CdT) : Prop := ∀ u l, C u l → (0 < l ∧ l ≤ 9801) ∧ Ab u 4000000000000
def or1 (C : CdT) (u l : Int) : CdT := fun x y => C x y ∨ (x = u ∧ y = l)
def CdJ (PH : List Ph) (k i n : Nat) : CdT := fun u l => ∃ j, j < n ∧ 0 < crs PH k j ∧ u = mU PH k i j ∧ l = crs PH i j
def CdI (PH : List Ph) (k i : Nat) : CdT := fun u l => (crs PH i k = 0 ∧ u = sU PH k i ∧ l = phS PH i) ∨ (0 < crs PH i k ∧ CdJ PH k i PH.length u l)
def Cd (PH : List Ph) (k n : Nat) : CdT := fun u l => (u = 0 ∧ l = 1) ∨ ∃ i, i < n ∧ CdI PH k i u l
/-- the reference's -/
def CrJ (PH : List Ph) (k i n : Nat) : CdT := fun u l => ∃ j, j < n ∧ (0 < crs PH i j ∧ 0 ≤ crs PH k j ∧ 0 ≤ crs PH i k) ∧ u = mU PH k i j ∧ l = crs PH i j
def CrI (PH : List Ph) (k i : Nat) : CdT := fun u l => (crs PH i k = 0 ∧ u = sU PH k i ∧ l = phS PH i) ∨ CrJ PH k i PH.length u l
def Cr (PH : List Ph) (k n : Nat) : CdT := fun u l => (u = 0 ∧ l = 1) ∨ ∃ i, i < n ∧ CrI PH k i u l
theorem MX.ext {C C' : CdT} {U L : Int} (m : MX C U L) (e : ∀ u l, C' u l ↔ C u l) : MX C' U L := ⟨m.1, (e _ _).mpr m.2.1, fun u l q => m.2.2 u l ((e _ _).mp q)⟩
theorem MX.keep {C : CdT} {U L u l : Int} (m : MX C U L) (c : ¬ U * l < u * L) : MX (or1 C u l) U L := ⟨m.1, Or.inl m.2.1, fun x y q => by
  rcases q with q | ⟨rfl, rfl⟩
  · exact m.2.2 x y q
  · omega⟩
theorem MX.take {C : CdT} {U L u l : Int} (b : Cb C) (m : MX C U L) (hl : 0 < l) (c : U * l < u * L) : MX (or1 C u l) u l := ⟨hl, Or.inr ⟨rfl, rfl⟩, fun x y q => by
  rcases q with q | ⟨rfl, rfl⟩
  · have h1 := m.2.2 x y q
    have hy := (b x y q).1.1
    have hL := m.1
    have h2 : x * L * l ≤ U * y * l := Int.mul_le_mul_of_nonneg_right h1 (by omega)
    have h3 : U * l * y ≤ u * L * y := Int.mul_le_mul_of_nonneg_right (by omega) (by omega)
    have h4 : x * l * L ≤ u * y * L := by
      have e1 : x * l * L = x * L * l := by rw [Int.mul_assoc, Int.mul_comm l L, ← Int.mul_assoc]
      have e2 : U * y * l = U * l * y := by rw [Int.mul_assoc, Int.mul_comm y l, ← Int.mul_assoc]
      have e3 : u * y * L = u * L * y := by rw [Int.mul_assoc, Int.mul_comm y L, ← Int.mul_assoc]
      omega
    exact Int.le_of_mul_le_mul_right h4 hL
  · exact Int.le_refl _⟩
theorem MX.val {C C' : CdT} {U L U' L' : Int} (b : Cb C) (b' : Cb C') (m : MX C U L) (m' : MX C' U' L') (e : ∀ u l, C u l → ∃ u' l', C' u' l' ∧ u * l' = u' * l) : U * L' ≤ U' * L := by
  obtain ⟨u', l', c, ev⟩ := e U L m.2.1
  have h1 := m'.2.2 u' l' c
  have hl := (b' _ _ c).1.1
  have hL := m.1
  have hL' := m'.1
  have h2 : u' * L' * L ≤ U' * l' * L := Int.mul_le_mul_of_nonneg_right h1 (by omega)
  have h3 : U * L' * l' ≤ U' * L * l' := by
    have e1 : U * L' * l' = u' * L' * L := by
      rw [Int.mul_assoc, Int.mul_comm L' l', ← Int.mul_assoc, ev, Int.mul_assoc, Int.mul_comm L L', ← Int.mul_assoc]
    have e2 : U' * L * l' = U' * l' * L := by rw [Int.mul_assoc, Int.mul_comm L l', ← Int.mul_assoc]
    omega
  exact Int.le_of_mul_le_mul_right h3 hl
theorem crs_id (PH : List Ph) (i j k : Nat) : crs PH i j * phS PH k = crs PH k j * phS PH i + crs PH i k * phS PH j := by
  unfold crs phS
  generalize phP PH i = a
  generalize phP PH j = b
  generalize phP PH k = c
  generalize phQ PH i = d
  generalize phQ PH j = e
  generalize phQ PH k = f
  simp only [Int.mul_add, Int.sub_mul, Int.mul_assoc]
  simp only [Int.mul_comm, Int.mul_left_comm]
  omega
