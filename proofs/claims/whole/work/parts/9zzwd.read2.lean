/-! the reader reads one instruction, whatever is done with it -/
theorem dgs_e (B : Nat) : ∀ (n N : Nat) (l : List Nat), ∃ m, ∀ (α : Type) (k : List Nat → α), dgs B n N l k = k m
  | 0, _, l => ⟨l, fun _ _ => rfl⟩
  | n + 1, N, l => by
    obtain ⟨m, e⟩ := dgs_e B n (Nat.div N B) (Nat.mod N B :: l)
    exact ⟨m, fun α k => by rw [dgs, frd_e, frd_e]; exact e α k⟩
theorem dgm_e (m N : Nat) : ∃ l, ∀ (α : Type) (k : List Nat → α), dgm m N k = k l := by
  obtain ⟨l, e⟩ := dgs_e (Nat.pow 2 (Nat.mod m 32)) (Nat.div m 32) N []
  exact ⟨l, fun α k => by unfold dgm; rw [frd_e, frd_e]; exact e α k⟩
theorem zf_e (n : Nat) : ∃ z : Int, ∀ (α : Type) (k : Int → α), zf n k = k z := by
  cases h : Nat.beq (Nat.mod n 2) 0
  · exact ⟨Int.negSucc (Nat.div n 2), fun α k => by unfold zf; rw [frd_e, h]; rfl⟩
  · exact ⟨Int.ofNat (Nat.div n 2), fun α k => by unfold zf; rw [frd_e, h]; rfl⟩
theorem rdVc_e (l : List Nat) : ∃ v t, ∀ (α : Type) (k : Vc → List Nat → α), rdVc l k = k v t := by
  unfold rdVc
  split
  · rename_i a b c t
    obtain ⟨a', ea⟩ := zf_e a
    obtain ⟨b', eb⟩ := zf_e b
    obtain ⟨c', ec⟩ := zf_e c
    exact ⟨(a', b', c'), t, fun α k => by rw [ea, eb, ec]⟩
  · exact ⟨(0, 0, 0), [], fun α k => rfl⟩
theorem rdRw_e (l : List Nat) : ∃ v t, ∀ (α : Type) (k : Rw → List Nat → α), rdRw l k = k v t := by
  unfold rdRw
  split
  · rename_i a b c d e f g t
    obtain ⟨a', ea⟩ := zf_e a
    obtain ⟨b', eb⟩ := zf_e b
    obtain ⟨c', ec⟩ := zf_e c
    obtain ⟨d', ed⟩ := zf_e d
    obtain ⟨e', ee⟩ := zf_e e
    obtain ⟨f', ef⟩ := zf_e f
    obtain ⟨g', eg⟩ := zf_e g
    exact ⟨(a', b', c', d', e', f', g'), t, fun α k => by rw [ea, eb, ec, ed, ee, ef, eg]⟩
  · exact ⟨(0, 0, 0, 0, 0, 0, 0), [], fun α k => rfl⟩
theorem rdVs_e : ∀ (n : Nat) (l : List Nat) (s : List Vc), ∃ v t, ∀ (α : Type) (k : List Vc → List Nat → α), rdVs n l s k = k v t
  | 0, l, s => ⟨s, l, fun _ _ => rfl⟩
  | n + 1, l, s => by
    obtain ⟨v, t, e⟩ := rdVc_e l
    obtain ⟨w, u, e2⟩ := rdVs_e n t (v :: s)
    exact ⟨w, u, fun α k => by rw [rdVs, e, e2]⟩
theorem rdRs_e : ∀ (n : Nat) (l : List Nat) (s : List Rw), ∃ v t, ∀ (α : Type) (k : List Rw → List Nat → α), rdRs n l s k = k v t
  | 0, l, s => ⟨s, l, fun _ _ => rfl⟩
  | n + 1, l, s => by
    obtain ⟨v, t, e⟩ := rdRw_e l
    obtain ⟨w, u, e2⟩ := rdRs_e n t (v :: s)
    exact ⟨w, u, fun α k => by rw [rdRs, e, e2]⟩
theorem rdP_e : ∀ (n : Nat) (l : List Nat) (s : List (Nat × Nat)), ∃ v t, ∀ (α : Type) (k : List (Nat × Nat) → List Nat → α), rdP n l s k = k v t
  | 0, l, s => ⟨s, l, fun _ _ => rfl⟩
  | n + 1, a :: b :: t, s => by
    obtain ⟨w, u, e2⟩ := rdP_e n t ((a, b) :: s)
    exact ⟨w, u, fun α k => by rw [rdP, e2]⟩
  | n + 1, [], s => ⟨s, [], fun _ _ => rfl⟩
  | n + 1, [a], s => ⟨s, [], fun _ _ => rfl⟩
theorem rdQ_e : ∀ (n : Nat) (l : List Nat) (s : List (Vc × Nat)), ∃ v t, ∀ (α : Type) (k : List (Vc × Nat) → List Nat → α), rdQ n l s k = k v t
  | 0, l, s => ⟨s, l, fun _ _ => rfl⟩
  | n + 1, l, s => by
    obtain ⟨v, t, e⟩ := rdVc_e l
    cases t with
    | nil => exact ⟨s, [], fun α k => by rw [rdQ, e]⟩
    | cons m t =>
      obtain ⟨w, u, e2⟩ := rdQ_e n t ((v, m) :: s)
      exact ⟨w, u, fun α k => by rw [rdQ, e]; exact e2 α k⟩
theorem rdCs_e : ∀ (n : Nat) (l : List Nat) (s : List Ct), ∃ v t, ∀ (α : Type) (k : List Ct → List Nat → α), rdCs n l s k = k v t
  | 0, l, s => ⟨s, l, fun _ _ => rfl⟩
  | n + 1, d :: a :: t, s => by
    obtain ⟨ps, t1, e1⟩ := rdP_e a t []
    cases t1 with
    | nil => exact ⟨s, [], fun α k => by rw [rdCs, e1]⟩
    | cons b t1 =>
      obtain ⟨qs, t2, e2⟩ := rdQ_e b t1 []
      obtain ⟨w, u, e3⟩ := rdCs_e n t2 ((d, ps, qs) :: s)
      exact ⟨w, u, fun α k => by rw [rdCs, e1]; simp only; rw [e2, e3]⟩
  | n + 1, [], s => ⟨s, [], fun _ _ => rfl⟩
  | n + 1, [a], s => ⟨s, [], fun _ _ => rfl⟩
theorem rdT_e (n N : Nat) : ∃ tk, ∀ (α : Type) (k : Tk → α), rdT n N k = k tk := by
  obtain ⟨l, e⟩ := dgm_e n N
  unfold rdT
  match l, e with
  | [], e => exact ⟨(99, [], [], []), fun α k => by rw [e]⟩
  | [_], e => exact ⟨(99, [], [], []), fun α k => by rw [e]⟩
  | o :: a :: t, e =>
    obtain ⟨vs, t1, e1⟩ := rdVs_e a t []
    match t1, e1 with
    | [], e1 => exact ⟨(99, [], [], []), fun α k => by rw [e]; simp only; rw [e1]⟩
    | b :: t1, e1 =>
      obtain ⟨rs, t2, e2⟩ := rdRs_e b t1 []
      match t2, e2 with
      | [], e2 => exact ⟨(99, [], [], []), fun α k => by rw [e]; simp only; rw [e1]; simp only; rw [e2]⟩
      | c :: t2, e2 =>
        obtain ⟨cs, t3, e3⟩ := rdCs_e c t2 []
        exact ⟨(o, vs, rs, cs), fun α k => by rw [e]; simp only; rw [e1]; simp only; rw [e2]; simp only; rw [e3]⟩
theorem rdK_e (n N : Nat) : ∃ c, ∀ (α : Type) (k : Cx → α), rdK n N k = k c := by
  obtain ⟨l, e⟩ := dgm_e n N
  unfold rdK
  match l, e with
  | [], e => exact ⟨bad, fun α k => by rw [e]⟩
  | [_], e => exact ⟨bad, fun α k => by rw [e]⟩
  | [_, _], e => exact ⟨bad, fun α k => by rw [e]⟩
  | s :: g :: K :: t, e =>
    obtain ⟨p, t1, e1⟩ := rdVc_e t
    obtain ⟨q, t2, e2⟩ := rdVc_e t1
    obtain ⟨r, t3, e3⟩ := rdVc_e t2
    match t3, e3 with
    | [], e3 => exact ⟨bad, fun α k => by rw [e]; simp only; rw [e1, e2, e3]⟩
    | a :: t3, e3 =>
      obtain ⟨P, t4, e4⟩ := rdRs_e a t3 []
      match t4, e4 with
      | [], e4 => exact ⟨bad, fun α k => by rw [e]; simp only; rw [e1, e2, e3]; simp only; rw [e4]⟩
      | b :: t4, e4 =>
        obtain ⟨H, t5, e5⟩ := rdRs_e b t4 []
        exact ⟨(s, Nat.beq g 1, K, p, q, r, P, H), fun α k => by rw [e]; simp only; rw [e1, e2, e3]; simp only; rw [e4]; simp only; rw [e5]⟩
/-- the context that a number says -/
def cxN (x : Nat × Nat) : Cx := rdK x.1 x.2 id
theorem rdK_c {α : Type} (x : Nat × Nat) (k : Cx → α) : rdK x.1 x.2 k = k (cxN x) := by
  obtain ⟨c, e⟩ := rdK_e x.1 x.2
  unfold cxN
  rw [e, e]; rfl
def rvN : List (Nat × Nat) → List Cx → List Cx
  | [], s => s
  | x :: l, s => rvN l (cxN x :: s)
theorem rdL_c {α : Type} : ∀ (l : List (Nat × Nat)) (s : List Cx) (k : List Cx → α), rdL l s k = k (rvN l s)
  | [], _, _ => rfl
  | x :: l, s, k => by rw [rdL, rdK_c, rdL_c l]; rfl
