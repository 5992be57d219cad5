/-! what stays -/
def Fr {α : Type} (A : List Nat) (f f' : Nat → Nat → α) : Prop := ∀ a, a ∉ A → f' a = f a
theorem Fr.refl {α : Type} {A : List Nat} {f : Nat → Nat → α} : Fr A f f := fun _ _ => rfl
theorem Fr.trans {α : Type} {A : List Nat} {f g k : Nat → Nat → α} (h1 : Fr A f g) (h2 : Fr A g k) : Fr A f k := fun a ha => (h2 a ha).trans (h1 a ha)
theorem Fr.mono {α : Type} {A B : List Nat} {f g : Nat → Nat → α} (h1 : Fr A f g) (h : ∀ a ∈ A, a ∈ B) : Fr B f g := fun a ha => h1 a (fun q => ha (h a q))
theorem Fr.up {α : Type} {A : List Nat} {f g : Nat → Nat → α} {a i : Nat} {x : α} (h1 : Fr A f g) (h : a ∈ A) : Fr A f (up2 g a i x) := fun b hb => by
  rw [up2_row (fun q => hb (by rw [q]; exact h))]
  exact h1 b hb
/-! a text: reading it -/
def bt (T : Nat → Int32) (n p : Nat) : Int32 := if p < n then T p else -1
theorem bt_lt {T : Nat → Int32} {n p : Nat} (h : p < n) : bt T n p = T p := if_pos h
theorem bt_ge {T : Nat → Int32} {n p : Nat} (h : ¬ p < n) : bt T n p = -1 := if_neg h
def skF (T : Nat → Int32) (n : Nat) : Nat → Nat → Nat
  | 0, p => p
  | d + 1, p => if bt T n p = 32 then skF T n d (p + 1) else p
def sk (T : Nat → Int32) (n p : Nat) : Nat := skF T n (n - p) p
theorem sk_no {T : Nat → Int32} {n p : Nat} (h : bt T n p ≠ 32) : sk T n p = p := by
  unfold sk
  cases n - p with
  | zero => rfl
  | succ d => exact if_neg h
theorem bt_32 {T : Nat → Int32} {n p : Nat} (h : bt T n p = 32) : p < n := by
  by_cases q : p < n
  · exact q
  · rw [bt_ge q] at h; exact absurd h (by decide)
theorem sk_sp {T : Nat → Int32} {n p : Nat} (h : bt T n p = 32) : sk T n p = sk T n (p + 1) := by
  have q := bt_32 h
  unfold sk
  rw [show n - p = (n - (p + 1)) + 1 by omega]
  exact if_pos h
theorem sk_ind {T : Nat → Int32} {n : Nat} (P : Nat → Prop) (h0 : ∀ p, bt T n p ≠ 32 → P p) (h1 : ∀ p, bt T n p = 32 → p < n → P (p + 1) → P p) : ∀ p, P p := by
  have main : ∀ d p, n - p = d → P p := by
    intro d
    induction d with
    | zero => intro p hp; exact h0 p (fun q => by have := bt_32 q; omega)
    | succ d ih =>
      intro p hp
      by_cases q : bt T n p = 32
      · exact h1 p q (bt_32 q) (ih (p + 1) (by omega))
      · exact h0 p q
  exact fun p => main _ p rfl
theorem sk_ge {T : Nat → Int32} {n : Nat} (p : Nat) : p ≤ sk T n p :=
  sk_ind (T := T) (n := n) (fun p => p ≤ sk T n p) (fun p h => by rw [sk_no h]; exact Nat.le_refl _) (fun p h _ ih => by rw [sk_sp h]; omega) p
theorem sk_le {T : Nat → Int32} {n m : Nat} (p : Nat) (hm : n ≤ m) : p ≤ m → sk T n p ≤ m :=
  sk_ind (T := T) (n := n) (fun p => p ≤ m → sk T n p ≤ m) (fun p h hp => by rw [sk_no h]; exact hp) (fun p h q ih hp => by rw [sk_sp h]; exact ih (by omega)) p
theorem sk_bt {T : Nat → Int32} {n : Nat} (p : Nat) : bt T n (sk T n p) ≠ 32 :=
  sk_ind (T := T) (n := n) (fun p => bt T n (sk T n p) ≠ 32) (fun p h => by rw [sk_no h]; exact h) (fun p h _ ih => by rw [sk_sp h]; exact ih) p
theorem sk_sk {T : Nat → Int32} {n : Nat} (p : Nat) : sk T n (sk T n p) = sk T n p := sk_no (sk_bt p)
def dg (c : Int32) : Prop := 48 ≤ c.toInt ∧ c.toInt ≤ 57
theorem bt_dg {T : Nat → Int32} {n p : Nat} (h : dg (bt T n p)) : p < n := by
  by_cases q : p < n
  · exact q
  · rw [bt_ge q] at h; exact absurd h.1 (by decide)
theorem bt_ne {T : Nat → Int32} {n p : Nat} {c : Int32} (h : bt T n p = c) (hc : c ≠ -1) : p < n := by
  by_cases q : p < n
  · exact q
  · rw [bt_ge q] at h; exact absurd h.symm hc
def dv (c : Int32) : Nat := (c.toInt - 48).toNat
noncomputable def nmF (T : Nat → Int32) (n p : Nat) : Nat × Nat := @ite _ (dg (bt T n (p + 1))) (Classical.propDecidable _) (10 * dv (bt T n p) + dv (bt T n (p + 1)), p + 2) (dv (bt T n p), p + 1)
theorem nmF_1 {T : Nat → Int32} {n p : Nat} (h : dg (bt T n (p + 1))) : nmF T n p = (10 * dv (bt T n p) + dv (bt T n (p + 1)), p + 2) := if_pos h
theorem nmF_0 {T : Nat → Int32} {n p : Nat} (h : ¬ dg (bt T n (p + 1))) : nmF T n p = (dv (bt T n p), p + 1) := if_neg h
theorem dv_lt {c : Int32} (h : dg c) : dv c ≤ 9 := by unfold dv dg at *; omega
theorem nmF_b {T : Nat → Int32} {n p : Nat} (h : dg (bt T n p)) : (nmF T n p).1 ≤ 99 ∧ p < (nmF T n p).2 ∧ (nmF T n p).2 ≤ n := by
  have h1 := dv_lt h
  have h2 := bt_dg h
  by_cases q : dg (bt T n (p + 1))
  · rw [nmF_1 q]
    have := dv_lt q
    have := bt_dg q
    exact ⟨by show 10 * _ + _ ≤ 99; omega, by show p < p + 2; omega, by show p + 2 ≤ n; omega⟩
  · rw [nmF_0 q]
    exact ⟨by show dv _ ≤ 99; omega, by show p < p + 1; omega, by show p + 1 ≤ n; omega⟩
def addAt (M : Nat → Int) (i : Nat) (s : Int) : Nat → Int := fun j => if j = i then M j + s else M j
def setAt (S : Nat → Int) (i : Nat) (s : Int) : Nat → Int := fun j => if j = i then s else S j
abbrev PRs : Type := Except (Nat × Nat) (Nat × (Nat → Int) × (Nat → Int))
noncomputable def tmF (T : Nat → Int32) (n i : Nat) (s : Int) (p : Nat) (M S : Nat → Int) : PRs :=
  if bt T n (sk T n p) = 120 ∨ bt T n (sk T n p) = 121 ∨ bt T n (sk T n p) = 122 then .ok (sk T n p + 1, addAt M (3 * i + ((bt T n (sk T n p)).toInt - 120).toNat) s, S)
  else @ite _ (dg (bt T n (sk T n p))) (Classical.propDecidable _)
    (if bt T n (sk T n (nmF T n (sk T n p)).2) = 47 then
      @ite _ (dg (bt T n (sk T n (sk T n (nmF T n (sk T n p)).2 + 1)))) (Classical.propDecidable _)
        (if (nmF T n (sk T n (sk T n (nmF T n (sk T n p)).2 + 1))).1 = 0 ∨ 24 * (nmF T n (sk T n p)).1 % (nmF T n (sk T n (sk T n (nmF T n (sk T n p)).2 + 1))).1 ≠ 0 then .error (2, sk T n p)
         else .ok ((nmF T n (sk T n (sk T n (nmF T n (sk T n p)).2 + 1))).2, M, setAt S i ((S i + s * ((24 * (nmF T n (sk T n p)).1 / (nmF T n (sk T n (sk T n (nmF T n (sk T n p)).2 + 1))).1 : Nat) : Int)) % 24)))
        (.error (1, sk T n (sk T n (nmF T n (sk T n p)).2 + 1)))
     else .ok (sk T n (nmF T n (sk T n p)).2, M, S))
    (.error (1, sk T n p))
theorem tmF_x {T : Nat → Int32} {n i : Nat} {s : Int} {p q : Nat} {M S : Nat → Int} (hq : sk T n p = q) (h : bt T n q = 120 ∨ bt T n q = 121 ∨ bt T n q = 122) : tmF T n i s p M S = .ok (q + 1, addAt M (3 * i + ((bt T n q).toInt - 120).toNat) s, S) := by
  subst hq
  exact if_pos h
theorem tmF_e {T : Nat → Int32} {n i : Nat} {s : Int} {p q : Nat} {M S : Nat → Int} (hq : sk T n p = q) (h : ¬ (bt T n q = 120 ∨ bt T n q = 121 ∨ bt T n q = 122)) (h2 : ¬ dg (bt T n q)) : tmF T n i s p M S = .error (1, q) := by
  subst hq
  unfold tmF
  rw [if_neg h, if_neg h2]
theorem tmF_w {T : Nat → Int32} {n i : Nat} {s : Int} {p q v p2 p3 : Nat} {M S : Nat → Int} (hq : sk T n p = q) (h2 : dg (bt T n q)) (hv : nmF T n q = (v, p2)) (h3 : sk T n p2 = p3) (h4 : bt T n p3 ≠ 47) : tmF T n i s p M S = .ok (p3, M, S) := by
  subst hq
  have h : ¬ (bt T n (sk T n p) = 120 ∨ bt T n (sk T n p) = 121 ∨ bt T n (sk T n p) = 122) := by
    intro q
    have a : (120 : Int32).toInt = 120 := rfl
    have b : (121 : Int32).toInt = 121 := rfl
    have c : (122 : Int32).toInt = 122 := rfl
    rcases q with q | q | q <;> rw [q] at h2 <;> unfold dg at h2 <;> omega
  unfold tmF
  rw [if_neg h, if_pos h2]
  simp only [hv, h3, if_neg h4]
theorem tmF_d {T : Nat → Int32} {n i : Nat} {s : Int} {p q v p2 p3 p4 : Nat} {M S : Nat → Int} (hq : sk T n p = q) (h2 : dg (bt T n q)) (hv : nmF T n q = (v, p2)) (h3 : sk T n p2 = p3) (h4 : bt T n p3 = 47) (h5 : sk T n (p3 + 1) = p4) (h6 : ¬ dg (bt T n p4)) : tmF T n i s p M S = .error (1, p4) := by
  subst hq
  have h : ¬ (bt T n (sk T n p) = 120 ∨ bt T n (sk T n p) = 121 ∨ bt T n (sk T n p) = 122) := by
    intro q
    have a : (120 : Int32).toInt = 120 := rfl
    have b : (121 : Int32).toInt = 121 := rfl
    have c : (122 : Int32).toInt = 122 := rfl
    rcases q with q | q | q <;> rw [q] at h2 <;> unfold dg at h2 <;> omega
  unfold tmF
  rw [if_neg h, if_pos h2]
  rw [if_pos (by rw [hv]; show bt T n (sk T n p2) = 47; rw [h3]; exact h4), if_neg (by rw [hv]; show ¬ dg (bt T n (sk T n (sk T n p2 + 1))); rw [h3, h5]; exact h6), hv]
  show Except.error (1, sk T n (sk T n p2 + 1)) = _
  rw [h3, h5]
theorem tmF_f {T : Nat → Int32} {n i : Nat} {s : Int} {p q v p2 p3 p4 w p5 : Nat} {M S : Nat → Int} (hq : sk T n p = q) (h2 : dg (bt T n q)) (hv : nmF T n q = (v, p2)) (h3 : sk T n p2 = p3) (h4 : bt T n p3 = 47) (h5 : sk T n (p3 + 1) = p4) (h6 : dg (bt T n p4)) (hw : nmF T n p4 = (w, p5)) : tmF T n i s p M S = if w = 0 ∨ 24 * v % w ≠ 0 then .error (2, q) else .ok (p5, M, setAt S i ((S i + s * ((24 * v / w : Nat) : Int)) % 24)) := by
  subst hq
  have h : ¬ (bt T n (sk T n p) = 120 ∨ bt T n (sk T n p) = 121 ∨ bt T n (sk T n p) = 122) := by
    intro q
    have a : (120 : Int32).toInt = 120 := rfl
    have b : (121 : Int32).toInt = 121 := rfl
    have c : (122 : Int32).toInt = 122 := rfl
    rcases q with q | q | q <;> rw [q] at h2 <;> unfold dg at h2 <;> omega
  unfold tmF
  rw [if_neg h, if_pos h2]
  rw [if_pos (by rw [hv]; show bt T n (sk T n p2) = 47; rw [h3]; exact h4), if_pos (by rw [hv]; show dg (bt T n (sk T n (sk T n p2 + 1))); rw [h3, h5]; exact h6), hv]
  show (if (nmF T n (sk T n (sk T n p2 + 1))).1 = 0 ∨ 24 * v % (nmF T n (sk T n (sk T n p2 + 1))).1 ≠ 0 then Except.error (2, sk T n p) else Except.ok ((nmF T n (sk T n (sk T n p2 + 1))).2, M, setAt S i ((S i + s * ((24 * v / (nmF T n (sk T n (sk T n p2 + 1))).1 : Nat) : Int)) % 24))) = _
  rw [h3, h5, hw]
/-- a term eats something, and not more than there is -/
theorem tmF_b {T : Nat → Int32} {n i : Nat} {s : Int} {p : Nat} {M S : Nat → Int} {r : Nat × (Nat → Int) × (Nat → Int)} (hi : i < 3) (hS : sOK S) (h : tmF T n i s p M S = .ok r) : p < r.1 ∧ r.1 ≤ n ∧ sOK r.2.2 := by
  have g := sk_ge (T := T) (n := n) p
  by_cases hx : bt T n (sk T n p) = 120 ∨ bt T n (sk T n p) = 121 ∨ bt T n (sk T n p) = 122
  · rw [tmF_x rfl hx] at h
    cases h
    have : sk T n p < n := by rcases hx with q | q | q <;> exact bt_ne q (by decide)
    exact ⟨by show p < sk T n p + 1; omega, by show sk T n p + 1 ≤ n; omega, hS⟩
  · by_cases h2 : dg (bt T n (sk T n p))
    · have b1 := nmF_b h2
      have g2 := sk_ge (T := T) (n := n) (nmF T n (sk T n p)).2
      have g3 := sk_le (T := T) (nmF T n (sk T n p)).2 (Nat.le_refl n) b1.2.2
      by_cases h4 : bt T n (sk T n (nmF T n (sk T n p)).2) = 47
      · by_cases h6 : dg (bt T n (sk T n (sk T n (nmF T n (sk T n p)).2 + 1)))
        · rw [tmF_f (v := (nmF T n (sk T n p)).1) (p2 := (nmF T n (sk T n p)).2) (w := (nmF T n (sk T n (sk T n (nmF T n (sk T n p)).2 + 1))).1) (p5 := (nmF T n (sk T n (sk T n (nmF T n (sk T n p)).2 + 1))).2) rfl h2 rfl rfl h4 rfl h6 rfl] at h
          have b2 := nmF_b h6
          have g4 := sk_ge (T := T) (n := n) (sk T n (nmF T n (sk T n p)).2 + 1)
          split at h
          · cases h
          · cases h
            refine ⟨by show p < (nmF T n (sk T n (sk T n (nmF T n (sk T n p)).2 + 1))).2; omega, b2.2.2, fun j hj => ?_⟩
            show 0 ≤ setAt S i _ j ∧ setAt S i _ j < 24
            unfold setAt
            split
            · exact ⟨Int.emod_nonneg _ (by decide), Int.emod_lt_of_pos _ (by decide)⟩
            · exact hS j hj
        · rw [tmF_d (v := (nmF T n (sk T n p)).1) (p2 := (nmF T n (sk T n p)).2) rfl h2 rfl rfl h4 rfl h6] at h
          cases h
      · rw [tmF_w (v := (nmF T n (sk T n p)).1) (p2 := (nmF T n (sk T n p)).2) rfl h2 rfl rfl h4] at h
        cases h
        exact ⟨by show p < sk T n (nmF T n (sk T n p)).2; omega, g3, hS⟩
    · rw [tmF_e rfl hx h2] at h
      cases h
/-- the terms behind the first -/
noncomputable def exL (T : Nat → Int32) (n i : Nat) : Nat → Nat → (Nat → Int) → (Nat → Int) → PRs
  | 0, _, _, _ => .error (0, 0)
  | d + 1, p, M, S => if bt T n (sk T n p) = 43 ∨ bt T n (sk T n p) = 45 then
      (match tmF T n i (if bt T n (sk T n p) = 45 then -1 else 1) (sk T n p + 1) M S with
        | .error e => .error e
        | .ok r => exL T n i d r.1 r.2.1 r.2.2)
    else .ok (sk T n p, M, S)
noncomputable def exN (T : Nat → Int32) (n i p : Nat) (M S : Nat → Int) : PRs :=
  match tmF T n i (if bt T n (sk T n p) = 45 then -1 else 1) (if bt T n (sk T n p) = 43 ∨ bt T n (sk T n p) = 45 then sk T n p + 1 else sk T n p) M S with
    | .error e => .error e
    | .ok r => exL T n i 101 r.1 r.2.1 r.2.2
def due (i : Nat) : Int32 := if i < 2 then 44 else -1
def bdF (T : Nat → Int32) (n i : Nat) (r : PRs) : PRs := match r with
  | .error e => .error e
  | .ok r => if bt T n r.1 = due i then .ok (r.1 + 1, r.2.1, r.2.2) else .error (1, r.1)
noncomputable def exB (T : Nat → Int32) (n i p : Nat) (M S : Nat → Int) : PRs := bdF T n i (exN T n i p M S)
/-- the whole text, up to the numbers -/
noncomputable def rdF (T : Nat → Int32) (n : Nat) : PRs :=
  match exB T n 0 0 (fun _ => 0) (fun _ => 0) with
  | .error e => .error e
  | .ok r => match exB T n 1 r.1 r.2.1 r.2.2 with
    | .error e => .error e
    | .ok r => exB T n 2 r.1 r.2.1 r.2.2
