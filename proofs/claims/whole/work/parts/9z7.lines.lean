/-! lines: how they grow -/
theorem lnV_0 {s : S6} {P : List Pl} {m a n : Nat} {q : Int} : lnV s P m a n q 0 = q := if_pos rfl
theorem lnV_s {s : S6} {P : List Pl} {m a n i : Nat} {q : Int} (hi : 1 ≤ i) : lnV s P m a (n + 1) q i = lnV s P m a n q i + (if a ≤ n ∧ lnC P m n ∧ lnQ s m n = q then (if i = 1 then 1 else pwA P (bx m n) (i - 2)) else 0) := by
  unfold lnV
  rw [if_neg (by omega), if_neg (by omega)]
  rfl
theorem lnV_no {s : S6} {P : List Pl} {m a n i : Nat} {q : Int} (h : ¬ (a ≤ n ∧ lnC P m n ∧ lnQ s m n = q)) : lnV s P m a (n + 1) q i = lnV s P m a n q i := by
  by_cases e : i = 0
  · subst e; rw [lnV_0, lnV_0]
  · rw [lnV_s (by omega), if_neg h, Int.add_zero]
theorem lnV_new {s : S6} {P : List Pl} {m a n i : Nat} {q : Int} {L : List Int} (hL : LinL s P m a n L) (hq : q ∉ L) (hi : 1 ≤ i) : lnV s P m a n q i = 0 := by
  unfold lnV
  rw [if_neg (by omega)]
  refine sZ_0 (fun j hj => if_neg (fun c => hq ((hL.2 q).mpr ⟨j, c.1, hj, c.2.1, c.2.2⟩)))
theorem LinL.skip {s : S6} {P : List Pl} {m a n : Nat} {L : List Int} (h : LinL s P m a n L) (no : ¬ (a ≤ n ∧ lnC P m n)) : LinL s P m a (n + 1) L := by
  refine ⟨h.1, fun q => (h.2 q).trans ⟨fun ⟨i, a1, a2, a3⟩ => ⟨i, a1, by omega, a3⟩, fun ⟨i, a1, a2, a3, a4⟩ => ?_⟩⟩
  by_cases e : i = n
  · subst e; exact absurd ⟨a1, a3⟩ no
  · exact ⟨i, a1, by omega, a3, a4⟩
theorem LinL.put {s : S6} {P : List Pl} {m a n : Nat} {L L' : List Int} (h : LinL s P m a n L) (ha : a ≤ n) (hc : lnC P m n) (so : L'.Pairwise (· < ·)) (mem : ∀ q, q ∈ L' ↔ q = lnQ s m n ∨ q ∈ L) : LinL s P m a (n + 1) L' := by
  refine ⟨so, fun q => (mem q).trans ⟨fun c => ?_, fun ⟨i, a1, a2, a3, a4⟩ => ?_⟩⟩
  · rcases c with rfl | c
    · exact ⟨n, ha, by omega, hc, rfl⟩
    · obtain ⟨i, a1, a2, a3⟩ := (h.2 q).mp c
      exact ⟨i, a1, by omega, a3⟩
  · by_cases e : i = n
    · subst e; exact Or.inl a4.symm
    · exact Or.inr ((h.2 q).mpr ⟨i, a1, by omega, a3, a4⟩)
theorem LinL.nil {s : S6} {P : List Pl} {m a : Nat} : LinL s P m a a [] := ⟨List.Pairwise.nil, fun q => ⟨fun c => absurd c List.not_mem_nil, fun ⟨i, a1, a2, _⟩ => absurd a1 (by omega)⟩⟩
theorem LinL.fn {s : S6} {P : List Pl} {m a n : Nat} {L L' : List Int} (h : LinL s P m a n L) (h' : LinL s P m a n L') : L = L' := zsrt_eq h.1 h'.1 (fun z => (h.2 z).trans (h'.2 z).symm)
/-! the two halves of the box -/
theorem sZ_sh {F : Nat → Int} (n : Nat) : sZ F (n + 1) = F 0 + sZ (fun i => F (i + 1)) n := by
  induction n with
  | zero => show (0 : Int) + F 0 = F 0 + 0; omega
  | succ n ih =>
    show sZ F (n + 1) + F (n + 1) = F 0 + (sZ (fun i => F (i + 1)) n + F (n + 1))
    rw [ih]; omega
theorem sZ_rev {F : Nat → Int} (n : Nat) : sZ F n = sZ (fun i => F (n - 1 - i)) n := by
  induction n generalizing F with
  | zero => rfl
  | succ n ih =>
    rw [sZ_sh (F := fun i => F (n + 1 - 1 - i))]
    show sZ F n + F n = F (n + 1 - 1 - 0) + sZ (fun i => F (n + 1 - 1 - (i + 1))) n
    rw [ih (F := F), show n + 1 - 1 - 0 = n by omega, Int.add_comm]
    congr 1
    exact sZ_ext (fun u hu => by rw [show n + 1 - 1 - (u + 1) = n - 1 - u by omega])
theorem sZ_cut {F : Nat → Int} (n k : Nat) : sZ F (n + k) = sZ F n + sZ (fun i => F (n + i)) k := by
  induction k with
  | zero => show sZ F n = sZ F n + 0; omega
  | succ k ih =>
    show sZ F (n + k) + F (n + k) = sZ F n + (sZ (fun i => F (n + i)) k + F (n + k))
    rw [ih]; omega
theorem sZ_half {F : Nat → Int} (c : Nat) (h0 : F c = 0) (sy : ∀ i, i ≤ 2 * c → F (2 * c - i) = F i) : sZ F (2 * c + 1) = 2 * sZ (fun i => if c + 1 ≤ i then F i else 0) (2 * c + 1) := by
  have e1 : sZ F (2 * c + 1) = sZ F (c + 1) + sZ (fun i => F (c + 1 + i)) c := by rw [← sZ_cut]; congr 1; omega
  have e2 : sZ (fun i => if c + 1 ≤ i then F i else 0) (2 * c + 1) = sZ (fun i => F (c + 1 + i)) c := by
    have := sZ_cut (F := fun i => if c + 1 ≤ i then F i else 0) (c + 1) c
    rw [show c + 1 + c = 2 * c + 1 by omega] at this
    rw [this, sZ_0 (fun j hj => if_neg (by omega)), Int.zero_add]
    exact sZ_ext (fun u hu => if_pos (by omega))
  have e3 : sZ F (c + 1) = sZ F c := by
    show sZ F c + F c = sZ F c
    rw [h0]; omega
  have e4 : sZ F c = sZ (fun i => F (c + 1 + i)) c := by
    rw [sZ_rev (F := F) c]
    exact sZ_ext (fun u hu => by rw [← sy (c - 1 - u) (by omega), show 2 * c - (c - 1 - u) = c + 1 + u by omega])
  rw [e1, e2, e3, e4]; omega
def ngV (v : V3) : V3 := (-v.1, -v.2.1, -v.2.2)
theorem bN_odd (m : Nat) : bN m = 2 * (bN m / 2) + 1 := by
  have : bN m % 2 = 1 := by
    unfold bN
    rw [Nat.mul_mod, Nat.mul_mod (2 * m + 1)]
    have : (2 * m + 1) % 2 = 1 := by omega
    rw [this]
  omega
theorem cs_even : ∀ t, t < 24 → ∀ i, i < 4 → csT.getD (4 * ((24 - t) % 24) + i) 0 = csT.getD (4 * t + i) 0 := by decide
theorem cs_oddd : ∀ t, t < 24 → ∀ i, i < 4 → csT.getD (4 * (((24 - t) % 24 + 18) % 24) + i) 0 = -csT.getD (4 * ((t + 18) % 24) + i) 0 := by decide
theorem tn_ng (p : Nat) (v : V3) : (tn p (ngV v)).toNat = (24 - (tn p v).toNat) % 24 := by
  unfold tn ngV
  simp only [Int.neg_mul]
  generalize v.1 * ((p / 576 : Nat) : Int) = x
  generalize v.2.1 * ((p / 24 % 24 : Nat) : Int) = y
  generalize v.2.2 * ((p % 24 : Nat) : Int) = z
  omega
theorem sZ_neg {F : Nat → Int} (n : Nat) : sZ (fun i => -F i) n = -sZ F n := by
  induction n with
  | zero => rfl
  | succ n ih =>
    show sZ (fun i => -F i) n + -F n = -(sZ F n + F n)
    rw [ih]; omega
theorem wv_ng0 (P : List Pl) (v : V3) {i : Nat} (hi : i < 4) : wvA P (ngV v) 0 i = wvA P v 0 i := by
  rw [wvA_F, wvA_F]
  refine sZ_ext (fun k _ => ?_)
  unfold wvF
  have t := tn_lt (P.getD k zp).1 v
  rw [tn_ng, Nat.add_zero, Nat.add_zero, Nat.mod_mod, cs_even _ t i hi, Nat.mod_eq_of_lt t]
theorem wv_ng1 (P : List Pl) (v : V3) {i : Nat} (hi : i < 4) : wvA P (ngV v) 18 i = -wvA P v 18 i := by
  rw [wvA_F, wvA_F, ← sZ_neg]
  refine sZ_ext (fun k _ => ?_)
  unfold wvF
  have t := tn_lt (P.getD k zp).1 v
  rw [tn_ng, cs_oddd _ t i hi, Int.mul_neg]
theorem pw_ng (P : List Pl) (v : V3) (j : Nat) : pwA P (ngV v) j = pwA P v j := by
  unfold pwA pw1
  rw [wv_ng0 P v (i := 0) (by decide), wv_ng0 P v (i := 1) (by decide), wv_ng0 P v (i := 2) (by decide), wv_ng0 P v (i := 3) (by decide), wv_ng1 P v (i := 0) (by decide), wv_ng1 P v (i := 1) (by decide), wv_ng1 P v (i := 2) (by decide), wv_ng1 P v (i := 3) (by decide)]
  simp only [Int.neg_mul_neg, Int.mul_neg, Int.neg_mul, Int.neg_neg]
