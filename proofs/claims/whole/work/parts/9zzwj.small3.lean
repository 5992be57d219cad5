/-! the last stretch: what a round does -/
theorem ls_cases {a b c x y z a' b' c' x' y' z' : Int} (h : Sm a b c x y z) (L : LsN a b c x y z a' b' c' x' y' z') :
    (cx (a, b, c, x, y, z) ∧ b ≤ sz x ∧ a' = a ∧ b' = b ∧ c' = b + c - sz x ∧ z' = z ∧ ((0 < x ∧ 0 < y ∧ 0 < z ∧ x' = x - 2 * b ∧ y' = y - z) ∨ (x < 0 ∧ y ≤ 0 ∧ z ≤ 0 ∧ x' = x + 2 * b ∧ y' = y + z))) ∨
    (¬ cx (a, b, c, x, y, z) ∧ sz x ≤ b ∧ cy (a, b, c, x, y, z) ∧ a ≤ sz y ∧ a' = a ∧ b' = b ∧ c' = a + c - sz y ∧ z' = z ∧ ((0 < x ∧ 0 < y ∧ 0 < z ∧ x' = x - z ∧ y' = y - 2 * a) ∨ (x ≤ 0 ∧ y < 0 ∧ z ≤ 0 ∧ x' = x + z ∧ y' = y + 2 * a))) ∨
    (¬ cx (a, b, c, x, y, z) ∧ ¬ cy (a, b, c, x, y, z) ∧ sz x ≤ b ∧ sz y ≤ a ∧ a' = a ∧ b' = a + b - sz z ∧ c' = c) ∨
    (¬ cx (a, b, c, x, y, z) ∧ ¬ cy (a, b, c, x, y, z) ∧ sz x ≤ b ∧ sz y ≤ a ∧ sz z ≤ a) := by
  obtain ⟨ho, _, ab, _, _, _, g⟩ := h
  have bd := ho.bd.1
  clear ho
  have sx := sz_c x; have sy := sz_c y; have szz := sz_c z
  have ecx : cx (a, b, c, x, y, z) ↔ (b < sz x ∨ (x = b ∧ 2 * y < z) ∨ (x = -b ∧ z < 0)) := Iff.rfl
  have ecy : cy (a, b, c, x, y, z) ↔ (a < sz y ∨ (y = a ∧ 2 * x < z) ∨ (y = -a ∧ z < 0)) := Iff.rfl
  rw [ecx, ecy]
  clear ecx ecy
  unfold LsN at L
  rcases L with (⟨g1, p, e1, e2, e3, e4, e5, e6⟩ | ⟨g1, p, e1, e2, e3, e4, e5, e6⟩) | ⟨q, ⟨g1, p, e1, e2, e3, e4, e5, e6⟩ | ⟨g1, p, e1, e2, e3, e4, e5, e6⟩ | ⟨q2, ⟨g1, p, e1, e2, e3, e4, e5, e6⟩ | ⟨g1, p, e1, e2, e3, e4, e5, e6⟩ | ⟨q3, p, e1, e2, e3, e4, e5, e6⟩⟩⟩
  · exact Or.inl ⟨by omega, by omega, e4, e5, by omega, e6, Or.inl ⟨by omega, by omega, by omega, e2, e3⟩⟩
  · exact Or.inl ⟨by omega, by omega, e4, e5, by omega, e6, Or.inr ⟨by omega, by omega, by omega, e2, e3⟩⟩
  · exact Or.inr (Or.inl ⟨by omega, by omega, by omega, by omega, e4, e5, by omega, e6, Or.inl ⟨by omega, by omega, by omega, e2, e3⟩⟩)
  · exact Or.inr (Or.inl ⟨by omega, by omega, by omega, by omega, e4, e5, by omega, e6, Or.inr ⟨by omega, by omega, by omega, e2, e3⟩⟩)
  · exact Or.inr (Or.inr (Or.inl ⟨by omega, by omega, by omega, by omega, e4, by omega, e5⟩))
  · exact Or.inr (Or.inr (Or.inl ⟨by omega, by omega, by omega, by omega, e4, by omega, e5⟩))
  · exact Or.inr (Or.inr (Or.inr ⟨by omega, by omega, by omega, by omega, by omega⟩))
/-- behind a tie there is no second one -/
theorem tieY {a x y z x' y' x1 y1 z1 : Int} (a0 : 0 < a) (hc : a < sz y ∨ (y = a ∧ 2 * x < z) ∨ (y = -a ∧ z < 0)) (e : sz y = a) (hd : (0 < x ∧ 0 < y ∧ 0 < z ∧ x' = x - z ∧ y' = y - 2 * a) ∨ (x ≤ 0 ∧ y < 0 ∧ z ≤ 0 ∧ x' = x + z ∧ y' = y + 2 * a)) (e3 : sz x1 = sz x') (e4 : sz y1 = sz y') (ez : sz z1 = sz z) (sg : (posi x' y' z ∧ 0 < x1 ∧ 0 < y1 ∧ 0 < z1) ∨ (¬ posi x' y' z ∧ x1 ≤ 0 ∧ y1 ≤ 0 ∧ z1 ≤ 0)) : ¬ (a < sz y1 ∨ (y1 = a ∧ 2 * x1 < z1) ∨ (y1 = -a ∧ z1 < 0)) := by
  have sy := sz_c y
  have p : posi x' y' z := by
    unfold posi
    rcases hd with ⟨g1, g2, g3, h1, h2⟩ | ⟨g1, g2, g3, h1, h2⟩ <;> omega
  have sx' := sz_c x'; have sy' := sz_c y'; have szz := sz_c z
  rcases sg with ⟨_, g1, g2, g3⟩ | ⟨w, _⟩
  · rw [szp (by omega)] at e3 e4 ez
    rw [szp (by omega)]
    rcases hd with ⟨k1, k2, k3, h1, h2⟩ | ⟨k1, k2, k3, h1, h2⟩ <;> omega
  · exact absurd p w
theorem tieX {b x y z x' y' x1 y1 z1 : Int} (b0 : 0 < b) (hc : b < sz x ∨ (x = b ∧ 2 * y < z) ∨ (x = -b ∧ z < 0)) (e : sz x = b) (hd : (0 < x ∧ 0 < y ∧ 0 < z ∧ x' = x - 2 * b ∧ y' = y - z) ∨ (x < 0 ∧ y ≤ 0 ∧ z ≤ 0 ∧ x' = x + 2 * b ∧ y' = y + z)) (e3 : sz x1 = sz x') (e4 : sz y1 = sz y') (ez : sz z1 = sz z) (sg : (posi x' y' z ∧ 0 < x1 ∧ 0 < y1 ∧ 0 < z1) ∨ (¬ posi x' y' z ∧ x1 ≤ 0 ∧ y1 ≤ 0 ∧ z1 ≤ 0)) : ¬ (b < sz x1 ∨ (x1 = b ∧ 2 * y1 < z1) ∨ (x1 = -b ∧ z1 < 0)) := by
  refine tieY (x := y) (x' := y') (y' := x') b0 hc e ?_ e4 e3 ez ?_
  · rcases hd with ⟨k1, k2, k3, h1, h2⟩ | ⟨k1, k2, k3, h1, h2⟩
    · exact Or.inl ⟨k2, k1, k3, h2, h1⟩
    · exact Or.inr ⟨k2, k1, k3, h2, h1⟩
  · rcases sg with ⟨p, k1, k2, k3⟩ | ⟨p, k1, k2, k3⟩
    · exact Or.inl ⟨posi_sw1.mpr p, k2, k1, k3⟩
    · exact Or.inr ⟨fun w => p (posi_sw1.mp w), k2, k1, k3⟩
/-- the two rounds Y, X -/
theorem yx_geo {a b x y z x' y' x1 y1 z1 x2 y2 : Int} (a0 : 0 < a) (ab : a < b) (hx : sz x ≤ b) (hy : a ≤ sz y) (hd : (0 < x ∧ 0 < y ∧ 0 < z ∧ x' = x - z ∧ y' = y - 2 * a) ∨ (x ≤ 0 ∧ y < 0 ∧ z ≤ 0 ∧ x' = x + z ∧ y' = y + 2 * a)) (e3 : sz x1 = sz x') (e4 : sz y1 = sz y') (ez : sz z1 = sz z) (sg : (posi x' y' z ∧ 0 < x1 ∧ 0 < y1 ∧ 0 < z1) ∨ (¬ posi x' y' z ∧ x1 ≤ 0 ∧ y1 ≤ 0 ∧ z1 ≤ 0)) (hx1 : b ≤ sz x1) (hd2 : (0 < x1 ∧ 0 < y1 ∧ 0 < z1 ∧ x2 = x1 - 2 * b ∧ y2 = y1 - z1) ∨ (x1 < 0 ∧ y1 ≤ 0 ∧ z1 ≤ 0 ∧ x2 = x1 + 2 * b ∧ y2 = y1 + z1)) :
    ((0 < x ∧ 0 < y ∧ 0 < z ∧ sz x1 = z - x) ∨ (x ≤ 0 ∧ y < 0 ∧ z ≤ 0 ∧ sz x1 = -x - z)) ∧ (sz y2 = sz y + sz z - 2 * a ∨ sz y2 = -(sz y + sz z - 2 * a)) := by
  have sx := sz_c x; have sy := sz_c y; have szz := sz_c z; have sx' := sz_c x'; have sy' := sz_c y'; have sy2 := sz_c y2
  have A : (0 < x ∧ 0 < y ∧ 0 < z ∧ sz x1 = z - x) ∨ (x ≤ 0 ∧ y < 0 ∧ z ≤ 0 ∧ sz x1 = -x - z) := by
    clear sg hd2 sy' sy2 e4 ez
    rcases hd with ⟨k1, k2, k3, h1, h2⟩ | ⟨k1, k2, k3, h1, h2⟩
    · exact Or.inl ⟨k1, k2, k3, by omega⟩
    · exact Or.inr ⟨k1, k2, k3, by omega⟩
  refine ⟨A, ?_⟩
  rcases sg with ⟨p, g1, g2, g3⟩ | ⟨p, g1, g2, g3⟩
  · rw [szp (by omega : 0 ≤ y1)] at e4
    rw [szp (by omega : 0 ≤ z1)] at ez
    have hd2 : y2 = y1 - z1 := by omega
    unfold posi at p
    rcases hd with ⟨k1, k2, k3, h1, h2⟩ | ⟨k1, k2, k3, h1, h2⟩
    · have : x' < 0 := by omega
      have : y' < 0 := by omega
      omega
    · have : x' < 0 := by omega
      have : 0 < y' := by omega
      omega
  · rw [szn (by omega : y1 ≤ 0)] at e4
    rw [szn (by omega : z1 ≤ 0)] at ez
    have hd2 : y2 = y1 + z1 := by omega
    unfold posi at p
    rcases hd with ⟨k1, k2, k3, h1, h2⟩ | ⟨k1, k2, k3, h1, h2⟩
    · have : x' < 0 := by omega
      have : 0 ≤ y' := by omega
      omega
    · have : x' < 0 := by omega
      have : y' ≤ 0 ∨ z = 0 := by omega
      omega
/-- what is claimed of n rounds: of any state; of one with no x-step at hand, a < b; of one with a = b -/
def clS (u : S6) (n : Nat) : Prop := ∀ a b c x y z E : Int, Sm a b c x y z → Red n (a, b, c, x, y, z) u → 0 ≤ E → (cx (a, b, c, x, y, z) → sz x + b < 2 * (b * E) + 2 * b ∨ 12 ≤ E) → 7 * (n : Int) ≤ a + b + c - tT u + 1680021 + 150 * (a + b) + 100 + 7 * E
def clB (u : S6) (n : Nat) : Prop := ∀ a b c x y z N q G : Int, Sm a b c x y z → a < b → ¬ cx (a, b, c, x, y, z) → Red n (a, b, c, x, y, z) u → 0 ≤ N → (cy (a, b, c, x, y, z) → sz y + a < 2 * (a * N) + 2 * a) → 4 * (a * q) ≤ y * y → G ≤ q - 7 * N → G ≤ 400 → 7 * (n : Int) + G ≤ a + b + c - tT u + 1680021 + 150 * (a + b)
def clC (u : S6) (n : Nat) : Prop := ∀ a c x y z E : Int, Sm a a c x y z → Red n (a, a, c, x, y, z) u → 0 ≤ E → (cx (a, a, c, x, y, z) → sz x + a < 2 * (a * E) + 2 * a ∨ 12 ≤ E) → 7 * (n : Int) ≤ a + a + c - tT u + 1680021 + 300 * a + 7 * E
/-- a z-step far from the end -/
theorem stepZ {u : S6} {n k : Nat} {a b c x y z a' b' c' x' y' z' : Int} (ihS : ∀ k, k < n → clS u k) (hk : k < n) (h : Sm a b c x y z) (fr : (4 * (a * b) - z * z) * 54400 ≤ b * (y * y) + a * (x * x) - x * y * z) (hx : sz x ≤ b) (hy : sz y ≤ a) (ea : a' = a) (eb : b' = a + b - sz z) (ec : c' = c) (f0 : 0 < a + b + c - tT u) (r : Red k (a', b', c', x', y', z') u) (o : OKs (a', b', c', x', y', z')) (e : Ev (a', b', c', x', y', z')) : 7 * (k : Int) ≤ a + b + c - tT u + 1680021 + 150 * (a + b) - 700 ∨ 7 * (k : Int) ≤ 1680021 := by
  have hz := sm_z h fr hx hy
  have b0 := o.bd.1
  obtain ⟨_, _, ab, _, a1, b1, _⟩ := h
  rcases nxS o e r (by omega) (by omega) (by omega) with w | ⟨a2, b2, x1, y1, z1, h1, r1, sw, _⟩
  · exact Or.inr w
  · have s := ihS k hk a2 b2 c' x1 y1 z1 12 h1 r1 (by omega) (fun _ => Or.inr (by omega))
    left
    have : a2 + b2 = a' + b' := by omega
    omega
