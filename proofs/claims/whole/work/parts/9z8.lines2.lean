/-! the half of the box stands for the whole -/
theorem bx_ng {m i : Nat} (hm : m < 7) (hi : i < bN m) : bx m (2 * (bN m / 2) - i) = ngV (bx m i) := by
  have : m = 0 ∨ m = 1 ∨ m = 2 ∨ m = 3 ∨ m = 4 ∨ m = 5 ∨ m = 6 := by omega
  unfold bN at hi
  unfold bx ngV bN
  rcases this with rfl | rfl | rfl | rfl | rfl | rfl | rfl <;> simp only [Nat.reduceMul, Nat.reduceAdd, Nat.reduceDiv] at hi ⊢ <;> refine Prod.ext ?_ (Prod.ext ?_ ?_) <;> simp only <;> omega
theorem lnQ_ng {s : S6} {m i : Nat} (hm : m < 7) (hi : i < bN m) : lnQ s m (2 * (bN m / 2) - i) = lnQ s m i := by
  unfold lnQ
  rw [bx_ng hm hi]
  obtain ⟨a, b, c, d, e, f⟩ := rcS s
  unfold dotS ngV
  simp only [Int.mul_neg, Int.neg_mul, Int.neg_neg]
theorem lnC_ng {P : List Pl} {m i : Nat} (hm : m < 7) (hi : i < bN m) : lnC P m (2 * (bN m / 2) - i) ↔ lnC P m i := by
  have o := bN_odd m
  unfold lnC
  rw [bx_ng hm hi, pw_ng]
  exact ⟨fun c => ⟨by omega, c.2⟩, fun c => ⟨by omega, c.2⟩⟩
theorem LinL.half {s : S6} {P : List Pl} {m : Nat} {L : List Int} (hm : m < 7) (h : LinL s P m (bN m / 2 + 1) (bN m) L) : LinL s P m 0 (bN m) L := by
  have o := bN_odd m
  refine ⟨h.1, fun q => (h.2 q).trans ⟨fun ⟨i, a1, a2, a3⟩ => ⟨i, Nat.zero_le _, a2, a3⟩, fun ⟨i, a1, a2, a3, a4⟩ => ?_⟩⟩
  by_cases c : bN m / 2 + 1 ≤ i
  · exact ⟨i, c, a2, a3, a4⟩
  · have := a3.1
    exact ⟨2 * (bN m / 2) - i, by omega, by omega, (lnC_ng hm a2).mpr a3, (lnQ_ng hm a2).trans a4⟩
theorem lnV_half {s : S6} {P : List Pl} {m i : Nat} {q : Int} (hm : m < 7) (hi : 1 ≤ i) : lnV s P m 0 (bN m) q i = 2 * lnV s P m (bN m / 2 + 1) (bN m) q i := by
  have o := bN_odd m
  unfold lnV
  rw [if_neg (by omega), if_neg (by omega)]
  have e := sZ_half (F := fun x => if 0 ≤ x ∧ lnC P m x ∧ lnQ s m x = q then (if i = 1 then 1 else pwA P (bx m x) (i - 2)) else 0) (bN m / 2) (if_neg (fun c => c.2.1.1 rfl)) (fun j hj => by
    have hj' : j < bN m := by omega
    have c1 := lnC_ng (P := P) hm hj'
    have c2 := lnQ_ng (s := s) hm hj'
    have pe : (if i = 1 then (1 : Int) else pwA P (bx m (2 * (bN m / 2) - j)) (i - 2)) = if i = 1 then 1 else pwA P (bx m j) (i - 2) := by rw [bx_ng hm hj', pw_ng]
    by_cases c : lnC P m j ∧ lnQ s m j = q
    · exact (if_pos ⟨Nat.zero_le _, c1.mpr c.1, c2.trans c.2⟩).trans (pe.trans (if_pos ⟨Nat.zero_le _, c⟩).symm)
    · exact (if_neg (fun w => c ⟨c1.mp w.2.1, c2.symm.trans w.2.2⟩)).trans (if_neg (fun w => c w.2)).symm)
  rw [← o] at e
  rw [e]
  congr 1
  refine sZ_ext (fun u hu => ?_)
  by_cases a : bN m / 2 + 1 ≤ u
  · rw [if_pos a]
    by_cases c : lnC P m u ∧ lnQ s m u = q
    · exact (if_pos ⟨Nat.zero_le _, c⟩).trans (if_pos ⟨a, c⟩).symm
    · exact (if_neg (fun w => c w.2)).trans (if_neg (fun w => c w.2)).symm
  · exact (if_neg a).trans (if_neg (fun w => a w.1)).symm
/-- no atom, no line -/
theorem pw_nil (v : V3) (j : Nat) : pwA [] v j = 0 := by
  have z : ∀ a i, wvA [] v a i = 0 := fun a i => rfl
  unfold pwA pw1
  simp [z]
theorem LinL.none {s : S6} {m a n : Nat} : LinL s [] m a n [] := ⟨List.Pairwise.nil, fun q => ⟨fun c => absurd c List.not_mem_nil, fun ⟨i, _, _, c, _⟩ => absurd (pw_nil _ _) c.2⟩⟩
/-- the power's first number is made of squares -/
theorem sq_z {t : Int} (h : t * t = 0) : t = 0 := by
  rcases Int.mul_eq_zero.mp h with q | q <;> exact q
theorem pw1_0 (n : Nat → Int) : 0 ≤ pw1 n 0 ∧ (pw1 n 0 = 0 → n 0 = 0 ∧ n 1 = 0 ∧ n 2 = 0 ∧ n 3 = 0) := by
  have e : pw1 n 0 = n 0 * n 0 + 2 * (n 1 * n 1) + 3 * (n 2 * n 2) + 6 * (n 3 * n 3) := by
    unfold pw1
    rw [if_pos rfl, Int.mul_assoc, Int.mul_assoc, Int.mul_assoc]
  have a := sq_nn (n 0); have b := sq_nn (n 1); have c := sq_nn (n 2); have d := sq_nn (n 3)
  rw [e]
  exact ⟨by omega, fun z => ⟨sq_z (by omega), sq_z (by omega), sq_z (by omega), sq_z (by omega)⟩⟩
theorem pw_zero {P : List Pl} {v : V3} (h : pwA P v 0 = 0) (j : Nat) : pwA P v j = 0 := by
  have a := pw1_0 (wvA P v 0)
  have b := pw1_0 (wvA P v 18)
  unfold pwA at h
  obtain ⟨a0, a1, a2, a3⟩ := a.2 (by omega)
  obtain ⟨b0, b1, b2, b3⟩ := b.2 (by omega)
  unfold pwA pw1
  rw [a0, a1, a2, a3, b0, b1, b2, b3]
  simp
