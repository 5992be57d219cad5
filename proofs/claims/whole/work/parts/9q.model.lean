/-! models: what they are -/
def sZ (F : Nat → Int) : Nat → Int
  | 0 => 0
  | n + 1 => sZ F n + F n
/-- a placed atom: its place, its weight, the number of its atom -/
abbrev Pl := Nat × Int × Nat
abbrev zp : Pl := (0, 0, 0)
def tn (p : Nat) (v : V3) : Int := (v.1 * ((p / 576 : Nat) : Int) + v.2.1 * ((p / 24 % 24 : Nat) : Int) + v.2.2 * ((p % 24 : Nat) : Int)) % 24
def csT : List Int := [4, 0, 0, 0, 0, 1, 0, 1, 0, 0, 2, 0, 0, 2, 0, 0, 2, 0, 0, 0, 0, -1, 0, 1, 0, 0, 0, 0, 0, 1, 0, -1, -2, 0, 0, 0, 0, -2, 0, 0, 0, 0, -2, 0, 0, -1, 0, -1, -4, 0, 0, 0, 0, -1, 0, -1, 0, 0, -2, 0, 0, -2, 0, 0, -2, 0, 0, 0, 0, 1, 0, -1, 0, 0, 0, 0, 0, -1, 0, 1, 2, 0, 0, 0, 0, 2, 0, 0, 0, 0, 2, 0, 0, 1, 0, 1]
def wvA (P : List Pl) (v : V3) (a i : Nat) : Int := sZ (fun k => (P.getD k zp).2.1 * csT.getD (4 * (((tn (P.getD k zp).1 v).toNat + a) % 24) + i) 0) P.length
def pw1 (n : Nat → Int) (j : Nat) : Int := if j = 0 then n 0 * n 0 + 2 * n 1 * n 1 + 3 * n 2 * n 2 + 6 * n 3 * n 3 else if j = 1 then 2 * n 0 * n 1 + 6 * n 2 * n 3 else if j = 2 then 2 * n 0 * n 2 + 4 * n 1 * n 3 else 2 * n 0 * n 3 + 2 * n 1 * n 2
def pwA (P : List Pl) (v : V3) (j : Nat) : Int := pw1 (wvA P v 0) j + pw1 (wvA P v 18) j
def rcS : S6 → S6 := fun (a, b, c, d, e, f) => (b * c - d * d, a * c - e * e, a * b - f * f, e * f - a * d, d * f - b * e, d * e - c * f)
def bN (m : Nat) : Nat := (2 * m + 1) * (2 * m + 1) * (2 * m + 1)
def bx (m i : Nat) : V3 := (((i / ((2 * m + 1) * (2 * m + 1)) : Nat) : Int) - m, ((i / (2 * m + 1) % (2 * m + 1) : Nat) : Int) - m, ((i % (2 * m + 1) : Nat) : Int) - m)
abbrev lnC (P : List Pl) (m i : Nat) : Prop := i ≠ bN m / 2 ∧ pwA P (bx m i) 0 ≠ 0
def lnQ (s : S6) (m i : Nat) : Int := dotS (rcS s) (bx m i).1 (bx m i).2.1 (bx m i).2.2 (bx m i).1 (bx m i).2.1 (bx m i).2.2
/-- what a line of Q shows, from the places a to n of the box -/
def lnV (s : S6) (P : List Pl) (m a n : Nat) (q : Int) (i : Nat) : Int := if i = 0 then q else sZ (fun x => if a ≤ x ∧ lnC P m x ∧ lnQ s m x = q then (if i = 1 then 1 else pwA P (bx m x) (i - 2)) else 0) n
def LinL (s : S6) (P : List Pl) (m a n : Nat) (L : List Int) : Prop := L.Pairwise (· < ·) ∧ ∀ q, q ∈ L ↔ ∃ i, a ≤ i ∧ i < n ∧ lnC P m i ∧ lnQ s m i = q
/-- a model: group, cell, atoms told, what stands where -/
abbrev Mdl := Nat × Nat × Nat × List Pl
abbrev zM : Mdl := (0, 0, 0, [])
def okP (t : Nat) (P : List Pl) : Prop := P.length ≤ 300 ∧ (∀ p ∈ P, p.1 < 13824 ∧ -99 ≤ p.2.1 ∧ p.2.1 ≤ 99 ∧ p.2.2 < t) ∧ ∀ i j, i < P.length → j < P.length → (P.getD i zp).1 = (P.getD j zp).1 → i = j
def okM (ng nc : Nat) (M : Mdl) : Prop := M.1 < ng ∧ M.2.1 < nc ∧ M.2.2.1 ≤ 30 ∧ okP M.2.2.1 M.2.2.2
theorem okM.mono {a b a' b' : Nat} {M : Mdl} (h : okM a b M) (ha : a ≤ a') (hb : b ≤ b') : okM a' b' M := ⟨Nat.lt_of_lt_of_le h.1 ha, Nat.lt_of_lt_of_le h.2.1 hb, h.2.2⟩
/-- the class's model -/
def MdK (h : MH) (x a b : Nat) : Prop := (kd h x = 6 ∧ mr h x 0 = a ∧ mr h x 1 = b ∧ mr h x 2 = x + 1 ∧ mr h x 3 = x + 2 ∧ mr h x 5 = x + 3 ∧ mr h x 7 = x + 4 ∧ mr h x 8 = x + 6) ∧ (kd h (x + 1) = 20 ∧ ln h (x + 1) = 900) ∧ (kd h (x + 2) = 20 ∧ ln h (x + 2) = 300) ∧ (kd h (x + 3) = 20 ∧ ln h (x + 3) = 30) ∧ (kd h (x + 4) = 9 ∧ mr h (x + 4) 0 = x + 5 ∧ kd h (x + 5) = 20 ∧ ln h (x + 5) = 300) ∧ kd h (x + 6) = 27 ∧ ln h (x + 6) = 7
def PlA (f : (Nat → Nat → Int32)) (x : Nat) (P : List Pl) : Prop := ∀ i, i < P.length → f (x + 1) (3 * i) = nI ((P.getD i zp).1 / 576) ∧ f (x + 1) (3 * i + 1) = nI ((P.getD i zp).1 / 24 % 24) ∧ f (x + 1) (3 * i + 2) = nI ((P.getD i zp).1 % 24) ∧ f (x + 2) i = nI (P.getD i zp).2.2 ∧ f (x + 3) (P.getD i zp).2.2 = zI (P.getD i zp).2.1
def TkL (P : List Pl) (T : List Int) : Prop := T.length ≤ P.length ∧ ∀ z, z ∈ T ↔ ∃ i, i < P.length ∧ z = ((512 * (P.getD i zp).1 + i : Nat) : Int)
def MdA (h : MH) (x t : Nat) (P : List Pl) : Prop := mi h x 4 = nI P.length ∧ mi h x 6 = nI t ∧ PlA (mi h) x P ∧ ∃ T, RowZ h (x + 4) (x + 5) T ∧ TkL P T
def LnAt (h : MH) (y : Nat) (L : List Int) (V : Int → Nat → Int) : Prop := ∃ o : Nat → Nat, (∀ k, k < L.length → o k < L.length ∧ mi h (y + 2) k = nI (o k)) ∧ (∀ j k, j < L.length → k < L.length → o j = o k → j = k) ∧ ∀ k, k < L.length → ∀ i, i < 6 → ml h (y + 1) (6 * o k + i) = zL (V (L.getD k 0) i)
def LnB (h : MH) (O : Nat → Nat) (t y m τ : Nat) : Prop := (99 ≤ y ∧ y + 2 < hn h ∧ O y = t ∧ O (y + 1) = t ∧ O (y + 2) = t) ∧ (kd h y = 5 ∧ mi h y 0 = nI m ∧ mr h y 1 = y + 1 ∧ mr h y 2 = y + 2 ∧ mi h y 4 = nI τ) ∧ kd h (y + 1) = 21 ∧ ln h (y + 1) = 6 * (bN m / 2) ∧ kd h (y + 2) = 20 ∧ ln h (y + 2) = bN m / 2
def LnC (h : MH) (y m : Nat) (s : S6) (P : List Pl) : Prop := ∃ L, L.length ≤ bN m / 2 ∧ LinL s P m 0 (bN m) L ∧ mi h y 3 = nI L.length ∧ LnAt h y L (lnV s P m 0 (bN m))
def MdC (h : MH) (O : Nat → Nat) (t x τ : Nat) (s : S6) (P : List Pl) : Prop := ∀ m, m < 7 → mr h (x + 6) m = 0 ∨ (1 ≤ m ∧ ∃ τ', τ' ≤ τ ∧ LnB h O t (mr h (x + 6) m) m τ' ∧ (τ' = τ → LnC h (mr h (x + 6) m) m s P))
def MdB (h : MH) (O : Nat → Nat) (t x a b : Nat) (s : S6) (M : Mdl) : Prop := (99 ≤ x ∧ x + 6 < hn h ∧ ∀ j, j < 7 → O (x + j) = t) ∧ MdK h x a b ∧ MdA h x M.2.2.1 M.2.2.2 ∧ MdC h O t x M.2.2.1 s M.2.2.2
def HMdl (h : MH) (O : Nat → Nat) (ng : Nat) (CS : List S6) (MS : List Mdl) : Prop := MS.length ≤ 20 ∧ mi h 5 16 = nI MS.length ∧ ∀ j, j < MS.length → okM ng CS.length (MS.getD j zM) ∧ MdB h O (100 + j) (mr h 44 j) (mr h 29 (MS.getD j zM).1) (mr h 43 (MS.getD j zM).2.1 + 1) (CS.getD (MS.getD j zM).2.1 z6) (MS.getD j zM)
theorem MdK.kp {A : List Nat} {h k : MH} {x a b : Nat} (m : MdK h x a b) (c : Kp A h k) (hx : x + 6 < hn h) (n0 : x ∉ A) (n4 : x + 4 ∉ A) : MdK k x a b := by
  obtain ⟨⟨a1, a2, a3, a4, a5, a6, a7, a8⟩, ⟨b1, b2⟩, ⟨b3, b4⟩, ⟨b5, b6⟩, ⟨b7, b8, b9, b10⟩, b11, b12⟩ := m
  have r0 := c.r (x := x) (by omega) n0
  refine ⟨⟨by rw [c.k (by omega)]; exact a1, by rw [r0]; exact a2, by rw [r0]; exact a3, by rw [r0]; exact a4, by rw [r0]; exact a5, by rw [r0]; exact a6, by rw [r0]; exact a7, by rw [r0]; exact a8⟩, ⟨by rw [c.k (by omega)]; exact b1, by rw [c.n (by omega)]; exact b2⟩, ⟨by rw [c.k (by omega)]; exact b3, by rw [c.n (by omega)]; exact b4⟩, ⟨by rw [c.k (by omega)]; exact b5, by rw [c.n (by omega)]; exact b6⟩, ⟨by rw [c.k (by omega)]; exact b7, by rw [c.r (by omega) n4]; exact b8, by rw [c.k (by omega)]; exact b9, by rw [c.n (by omega)]; exact b10⟩, by rw [c.k (by omega)]; exact b11, by rw [c.n (by omega)]; exact b12⟩
theorem RowZ.kp2 {A : List Nat} {h k : MH} {r a : Nat} {T : List Int} (b : RowZ h r a T) (c : Kp A h k) (hr : r < hn h) (ha : a < hn h) (n1 : r ∉ A) (n2 : a ∉ A) : RowZ k r a T := by
  unfold RowZ at *
  rw [c.r hr n1, c.k hr, c.k ha, c.i hr n1, c.n ha, c.i ha n2]
  exact b
theorem MdA.kp {A : List Nat} {h k : MH} {x a b t : Nat} {P : List Pl} (m : MdA h x t P) (mk : MdK h x a b) (c : Kp A h k) (hx : x + 6 < hn h) (no : ∀ j, j < 7 → x + j ∉ A) : MdA k x t P := by
  obtain ⟨m1, m2, m3, T, m4, m5⟩ := m
  have i0 := c.i (x := x) (by omega) (no 0 (by decide))
  refine ⟨by rw [i0]; exact m1, by rw [i0]; exact m2, ?_, T, m4.kp2 c (by omega) (by omega) (no 4 (by decide)) (no 5 (by decide)), m5⟩
  unfold PlA
  rw [c.i (x := x + 1) (by omega) (no 1 (by decide)), c.i (x := x + 2) (by omega) (no 2 (by decide)), c.i (x := x + 3) (by omega) (no 3 (by decide))]
  exact m3
theorem MdC.kp {A : List Nat} {h k : MH} {O O' : Nat → Nat} {t x τ : Nat} {s : S6} {P : List Pl} (m : MdC h O t x τ s P) (c : Kp A h k) (hx : x + 6 < hn h) (n6 : x + 6 ∉ A) (no : ∀ y, 99 ≤ y → O y = t → y ∉ A) (hO : ∀ a, a < hn h → O' a = O a) : MdC k O' t x τ s P := by
  have l := c.2.1
  intro i hi
  rw [c.r (x := x + 6) (by omega) n6]
  refine (m i hi).imp id ?_
  rintro ⟨q0, τ', q1, ⟨⟨b1, b2, b3, b4, b5⟩, ⟨c1, c2, c3, c4, c5⟩, d1, d2, d3, d4⟩, q2⟩
  generalize mr h (x + 6) i = y at *
  have n0 := no y b1 b3
  have n1 := no (y + 1) (by omega) b4
  have n2 := no (y + 2) (by omega) b5
  have i0 := c.i (x := y) (by omega) n0
  have r0 := c.r (x := y) (by omega) n0
  refine ⟨q0, τ', q1, ⟨⟨b1, by omega, by rw [hO _ (by omega)]; exact b3, by rw [hO _ (by omega)]; exact b4, by rw [hO _ (by omega)]; exact b5⟩, ⟨by rw [c.k (by omega)]; exact c1, by rw [i0]; exact c2, by rw [r0]; exact c3, by rw [r0]; exact c4, by rw [i0]; exact c5⟩, by rw [c.k (by omega)]; exact d1, by rw [c.n (by omega)]; exact d2, by rw [c.k (by omega)]; exact d3, by rw [c.n (by omega)]; exact d4⟩, fun e => ?_⟩
  obtain ⟨L, e1, e2, e3, e4⟩ := q2 e
  refine ⟨L, e1, e2, by rw [i0]; exact e3, ?_⟩
  unfold LnAt
  rw [c.i (x := y + 2) (by omega) n2, c.l (x := y + 1) (by omega) n1]
  exact e4
theorem MdB.kp {A : List Nat} {h k : MH} {O O' : Nat → Nat} {t x a b : Nat} {s : S6} {M : Mdl} (m : MdB h O t x a b s M) (c : Kp A h k) (hA : ∀ a ∈ A, a < 99 ∨ O a ≠ t) (hO : ∀ a, a < hn h → O' a = O a) : MdB k O' t x a b s M := by
  obtain ⟨⟨b1, b2, b3⟩, mk, ma, mc⟩ := m
  have l := c.2.1
  have no : ∀ y, 99 ≤ y → O y = t → y ∉ A := fun y h1 h2 q => by
    rcases hA y q with w | w
    · omega
    · exact w h2
  have no' : ∀ j, j < 7 → x + j ∉ A := fun j hj => no _ (by omega) (b3 j hj)
  exact ⟨⟨b1, by omega, fun j hj => by rw [hO _ (by omega)]; exact b3 j hj⟩, mk.kp c b2 (no' 0 (by decide)) (no' 4 (by decide)), ma.kp mk c b2 no', mc.kp c b2 (no' 6 (by decide)) no hO⟩
theorem HMdl.kp {A : List Nat} {h k : MH} {O O' : Nat → Nat} {ng ng' : Nat} {CS CS' : List S6} {MS : List Mdl} (H : SS h) (b : HMdl h O ng CS MS) (c : Kp A h k) (hA : ∀ a ∈ A, (a < 99 ∧ a ≠ 44) ∨ (99 ≤ a ∧ O a < 100)) (h5 : mi k 5 16 = mi h 5 16) (hO : ∀ a, a < hn h → O' a = O a) (eg : ∀ i, i < ng → mr k 29 i = mr h 29 i) (ec : ∀ i, i < CS.length → mr k 43 i = mr h 43 i) (lg : ng ≤ ng') (lc : CS.length ≤ CS'.length) (ecs : ∀ i, i < CS.length → CS'.getD i z6 = CS.getD i z6) : HMdl k O' ng' CS' MS := by
  have h99 := H.1
  have n44 : 44 ∉ A := fun q => by
    have := hA 44 q
    omega
  have e44 := c.r (x := 44) (by omega) n44
  refine ⟨b.1, by rw [h5]; exact b.2.1, fun j hj => ?_⟩
  have hA' : ∀ a ∈ A, a < 99 ∨ O a ≠ 100 + j := fun a ha => by
    rcases hA a ha with q | q
    · exact Or.inl q.1
    · exact Or.inr (by omega)
  obtain ⟨g1, g2⟩ := b.2.2 j hj
  rw [e44, eg _ g1.1, ec _ g1.2.1, ecs _ g1.2.1]
  exact ⟨g1.mono lg lc, g2.kp c hA' hO⟩
