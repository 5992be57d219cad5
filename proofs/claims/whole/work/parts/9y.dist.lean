/-! distance, near: what they are -/
def apX (p q z : Nat) : Int := ((q / 576 : Nat) : Int) - ((p / 576 : Nat) : Int) + 24 * (((z / 9 % 3 : Nat) : Int) - 1)
def apY (p q z : Nat) : Int := ((q / 24 % 24 : Nat) : Int) - ((p / 24 % 24 : Nat) : Int) + 24 * (((z / 3 % 3 : Nat) : Int) - 1)
def apZ (p q z : Nat) : Int := ((q % 24 : Nat) : Int) - ((p % 24 : Nat) : Int) + 24 * (((z % 3 : Nat) : Int) - 1)
def apV (s : S6) (p q z : Nat) : Int := dotS s (apX p q z) (apY p q z) (apZ p q z) (apX p q z) (apY p q z) (apZ p q z)
theorem ap_ab {s : S6} (h : okC s) {p q : Nat} (hp : p < 13824) (hq : q < 13824) (z : Nat) : Ab (apV s p q z) 198810000 := by
  refine (dot_abN h.b4 (X := 47) (Y := 47) (Z := 47) (Ab.of ?_ ?_) (Ab.of ?_ ?_) (Ab.of ?_ ?_)).wk (by decide)
  · unfold apX; omega
  · unfold apX; omega
  · unfold apY; omega
  · unfold apY; omega
  · unfold apZ; omega
  · unfold apZ; omega
theorem dot_pos {s : S6} (h : okC s) (x y w : Int) : 0 ≤ dotS s x y w x y w := by
  obtain ⟨n, h⟩ := h
  obtain ⟨a, b, c, d, e, f⟩ := s
  obtain ⟨_, q1, _, _, _, _, _, h7, h8⟩ := h
  unfold nth6 at q1 h7 h8
  simp only [Nat.reduceEqDiff, if_true, if_false] at q1 h7 h8
  have ha : 0 < a := by have := q1.1; omega
  unfold det6 at h8
  unfold dotS
  simp only
  generalize hQ : a * x * x + b * y * y + c * w * w + d * (y * w + w * y) + e * (x * w + w * x) + f * (x * y + y * x) = Q
  have id1 : a * (a * b - f * f) * Q = (a * b - f * f) * ((a * x + f * y + e * w) * (a * x + f * y + e * w)) + ((a * b - f * f) * y + (a * d - e * f) * w) * ((a * b - f * f) * y + (a * d - e * f) * w) + a * (a * (b * c - d * d) - f * (f * c - d * e) + e * (f * d - b * e)) * (w * w) := by
    rw [← hQ]; grind
  generalize (a * (b * c - d * d) - f * (f * c - d * e) + e * (f * d - b * e)) = D at *
  generalize a * b - f * f = E at *
  have sq : ∀ t : Int, 0 ≤ t * t := fun t => by
    rcases Int.le_total 0 t with q | q
    · exact Int.mul_nonneg q q
    · exact Int.mul_nonneg_of_nonpos_of_nonpos q q
  have p1 := Int.mul_nonneg (Int.le_of_lt h7) (sq (a * x + f * y + e * w))
  have p2 := sq (E * y + (a * d - e * f) * w)
  have p3 := Int.mul_nonneg (Int.mul_nonneg (Int.le_of_lt ha) (Int.le_of_lt h8)) (sq w)
  have p4 : 0 ≤ a * E * Q := by rw [id1]; omega
  have p5 : 0 < a * E := Int.mul_pos ha h7
  exact Int.le_of_mul_le_mul_left (by rw [Int.mul_zero]; exact p4) p5
/-- the least, over the places below n that are not left out -/
def LsV (F : Nat → Int) (sk : Nat → Prop) (n : Nat) (v : Int) : Prop := (∃ z, z < n ∧ ¬ sk z ∧ v = F z) ∧ ∀ z, z < n → ¬ sk z → v ≤ F z
theorem LsV.fn {F : Nat → Int} {sk : Nat → Prop} {n : Nat} {v v' : Int} (h : LsV F sk n v) (h' : LsV F sk n v') : v = v' := by
  obtain ⟨⟨z, a, b, c⟩, d⟩ := h
  obtain ⟨⟨z', a', b', c'⟩, d'⟩ := h'
  have := d z' a' b'
  have := d' z a b
  omega
theorem LsV.skip {F : Nat → Int} {sk : Nat → Prop} {n : Nat} {v : Int} (h : LsV F sk n v) (s : sk n) : LsV F sk (n + 1) v := by
  obtain ⟨⟨z, a, b, c⟩, d⟩ := h
  refine ⟨⟨z, by omega, b, c⟩, fun z' h1 h2 => ?_⟩
  by_cases e : z' = n
  · subst e; exact absurd s h2
  · exact d z' (by omega) h2
theorem LsV.keep {F : Nat → Int} {sk : Nat → Prop} {n : Nat} {v : Int} (h : LsV F sk n v) (s : v ≤ F n) : LsV F sk (n + 1) v := by
  obtain ⟨⟨z, a, b, c⟩, d⟩ := h
  refine ⟨⟨z, by omega, b, c⟩, fun z' h1 h2 => ?_⟩
  by_cases e : z' = n
  · subst e; exact s
  · exact d z' (by omega) h2
theorem LsV.less {F : Nat → Int} {sk : Nat → Prop} {n : Nat} {v : Int} (h : LsV F sk n v) (ns : ¬ sk n) (s : F n < v) : LsV F sk (n + 1) (F n) := by
  obtain ⟨⟨z, a, b, c⟩, d⟩ := h
  refine ⟨⟨n, by omega, ns, rfl⟩, fun z' h1 h2 => ?_⟩
  by_cases e : z' = n
  · subst e; exact Int.le_refl _
  · have := d z' (by omega) h2; omega
theorem LsV.one {F : Nat → Int} {sk : Nat → Prop} (ns : ¬ sk 0) : LsV F sk 1 (F 0) := by
  refine ⟨⟨0, by omega, ns, rfl⟩, fun z h1 _ => ?_⟩
  have : z = 0 := by omega
  subst this
  exact Int.le_refl _
noncomputable def cnP (C : Nat → Prop) : Nat → Nat
  | 0 => 0
  | n + 1 => cnP C n + @ite _ (C n) (Classical.propDecidable _) 1 0
theorem cnP_y {C : Nat → Prop} {n : Nat} (h : C n) : cnP C (n + 1) = cnP C n + 1 := by
  show cnP C n + @ite _ (C n) (Classical.propDecidable _) 1 0 = _
  rw [if_pos h]
theorem cnP_n {C : Nat → Prop} {n : Nat} (h : ¬ C n) : cnP C (n + 1) = cnP C n := by
  show cnP C n + @ite _ (C n) (Classical.propDecidable _) 1 0 = _
  rw [if_neg h]; rfl
theorem cnP_le (C : Nat → Prop) (n : Nat) : cnP C n ≤ n := by
  induction n with
  | zero => exact Nat.le_refl _
  | succ n ih =>
    by_cases h : C n
    · rw [cnP_y h]; omega
    · rw [cnP_n h]; omega
def dsk (i j z : Nat) : Prop := i = j ∧ z = 13
def DstA (MS : List Mdl) (CS : List S6) (x y w : Int32) (r : Int64) : Prop := (∃ m i j, plG MS x y m i ∧ plG MS x w m j ∧ ∃ v, r = zL v ∧ LsV (apV (CS.getD (MS.getD m zM).2.1 z6) ((MS.getD m zM).2.2.2.getD i zp).1 ((MS.getD m zM).2.2.2.getD j zp).1) (dsk i j) 27 v) ∨ ((¬ ∃ m i j, plG MS x y m i ∧ plG MS x w m j) ∧ r = 0)
theorem DstA.fn {ng nc : Nat} {MS : List Mdl} {CS : List S6} {x y w : Int32} {r r' : Int64} (hl : MS.length ≤ 20) (ok : okMS ng nc MS) (h : DstA MS CS x y w r) (h' : DstA MS CS x y w r') : r = r' := by
  rcases h with ⟨m, i, j, g1, g2, v, e, a⟩ | ⟨n, e⟩ <;> rcases h' with ⟨m', i', j', g1', g2', v', e', a'⟩ | ⟨n', e'⟩
  · obtain ⟨rfl, rfl⟩ := g1.fn hl ok g1'
    obtain ⟨_, rfl⟩ := g2.fn hl ok g2'
    rw [e, e', a.fn a']
  · exact absurd ⟨m, i, j, g1, g2⟩ n'
  · exact absurd ⟨m', i', j', g1', g2'⟩ n
  · rw [e, e']
def nrC (s : S6) (P : List Pl) (i : Nat) (r : Int) (c : Nat) : Prop := ¬ dsk i (c / 27) (c % 27) ∧ apV s (P.getD i zp).1 (P.getD (c / 27) zp).1 (c % 27) ≤ r
def NrA (MS : List Mdl) (CS : List S6) (x y : Int32) (w : Int64) (r : Int32) : Prop := (∃ m i, plG MS x y m i ∧ r = nI (cnP (nrC (CS.getD (MS.getD m zM).2.1 z6) (MS.getD m zM).2.2.2 i w.toInt) (27 * (MS.getD m zM).2.2.2.length))) ∨ ((¬ ∃ m i, plG MS x y m i) ∧ r = -1)
theorem NrA.fn {ng nc : Nat} {MS : List Mdl} {CS : List S6} {x y : Int32} {w : Int64} {r r' : Int32} (hl : MS.length ≤ 20) (ok : okMS ng nc MS) (h : NrA MS CS x y w r) (h' : NrA MS CS x y w r') : r = r' := by
  rcases h with ⟨m, i, g1, e⟩ | ⟨n, e⟩ <;> rcases h' with ⟨m', i', g1', e'⟩ | ⟨n', e'⟩
  · obtain ⟨rfl, rfl⟩ := g1.fn hl ok g1'
    rw [e, e']
  · exact absurd ⟨m, i, g1⟩ n'
  · exact absurd ⟨m', i', g1'⟩ n
  · rw [e, e']
