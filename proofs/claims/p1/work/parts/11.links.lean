def decAll (b : ByteArray) (l : List (Nat × Instr × Nat)) : Bool := l.all (fun r => decide (decode b r.1 = .ok (r.2.1, r.2.2)))
theorem dAt {b : ByteArray} {l : List (Nat × Instr × Nat)} (h : decAll b l = true) (j : Nat) {pc len : Nat} {i : Instr} (hj : l[j]? = some (pc, i, len)) : decode b pc = .ok (i, len) := by
  have h1 : decide (decode b pc = .ok (i, len)) = true := List.all_eq_true.mp h (pc, i, len) (List.mem_of_getElem? hj)
  exact of_decide_eq_true h1
theorem sw_range {lo hi : Int} {ks : List (Int32 × Nat)} (h : ∀ i : Nat, i < (hi - lo + 1).toNat → (ks.map (fun q => q.1.toInt))[i]? = some (lo + i)) (_ : lo ≤ hi + 1) : ∀ x : Int32, ¬ x.toInt < lo → ¬ hi < x.toInt → ∃ q ∈ ks, x = q.1 := by
  intro x h1 h2
  have h3 := h (x.toInt - lo).toNat (by omega)
  rw [List.getElem?_map] at h3
  cases e : ks[(x.toInt - lo).toNat]? with
  | none => rw [e] at h3; cases h3
  | some q =>
    rw [e] at h3
    have h3 : q.1.toInt = lo + ((x.toInt - lo).toNat : Nat) := Option.some.inj h3
    exact ⟨q, List.mem_of_getElem? e, Int32.toInt_inj.mp (by omega)⟩
theorem off_none : ∀ (ps : List (Int × Int)) (d x : Int), (∀ q ∈ ps, q.1 ≠ x) → offOf ps d x = d
  | [], d, x, _ => rfl
  | (a, o) :: ps, d, x, h => by
    rw [offOf_cons, if_neg (h (a, o) List.mem_cons_self), off_none ps d x (fun q hq => h q (List.mem_cons_of_mem _ hq))]
theorem sw_look {ps : List (Int × Int)} {ks : List (Int32 × Nat)} {dflt : Int} {x : Int32} {pc t : Nat} (h : ks.map (fun q => q.1.toInt) = ps.map (fun q => q.1)) (hx : ∀ q ∈ ks, x ≠ q.1) (ht : (pc : Int) + dflt = (t : Int)) : (pc : Int) + offOf ps dflt x.toInt = (t : Int) := by
  rw [off_none ps dflt x.toInt]
  · exact ht
  · intro q hq e
    have h1 : q.1 ∈ ks.map (fun q => q.1.toInt) := by rw [h]; exact List.mem_map.mpr ⟨q, hq, rfl⟩
    obtain ⟨z, hz, e2⟩ := List.mem_map.mp h1
    exact hx z hz (Int32.toInt_inj.mp (by rw [e2, e]))
theorem wc1 {w : Cond} (p : Nat) (h : tables_1_1[p]? = some w) (g : goodWord w = true) : w ∈ wsG := List.mem_append_left _ (List.mem_filter.mpr ⟨(List.mem_append_left _ (List.mem_of_getElem? h)), g⟩)
theorem wc2 {w : Cond} (p : Nat) (h : tables_1_2[p]? = some w) (g : goodWord w = true) : w ∈ wsG := List.mem_append_left _ (List.mem_filter.mpr ⟨List.mem_append_right _ ((List.mem_append_left _ (List.mem_of_getElem? h))), g⟩)
theorem wc3 {w : Cond} (p : Nat) (h : tables_1_3[p]? = some w) (g : goodWord w = true) : w ∈ wsG := List.mem_append_left _ (List.mem_filter.mpr ⟨List.mem_append_right _ (List.mem_append_right _ ((List.mem_append_left _ (List.mem_of_getElem? h)))), g⟩)
theorem wc4 {w : Cond} (p : Nat) (h : tables_1_4[p]? = some w) (g : goodWord w = true) : w ∈ wsG := List.mem_append_left _ (List.mem_filter.mpr ⟨List.mem_append_right _ (List.mem_append_right _ (List.mem_append_right _ ((List.mem_append_left _ (List.mem_of_getElem? h))))), g⟩)
theorem wc5 {w : Cond} (p : Nat) (h : tables_1_5[p]? = some w) (g : goodWord w = true) : w ∈ wsG := List.mem_append_left _ (List.mem_filter.mpr ⟨List.mem_append_right _ (List.mem_append_right _ (List.mem_append_right _ (List.mem_append_right _ ((List.mem_append_left _ (List.mem_of_getElem? h)))))), g⟩)
theorem wc6 {w : Cond} (p : Nat) (h : tables_1_6[p]? = some w) (g : goodWord w = true) : w ∈ wsG := List.mem_append_left _ (List.mem_filter.mpr ⟨List.mem_append_right _ (List.mem_append_right _ (List.mem_append_right _ (List.mem_append_right _ (List.mem_append_right _ ((List.mem_append_left _ (List.mem_of_getElem? h))))))), g⟩)
theorem wc7 {w : Cond} (p : Nat) (h : tables_1_7[p]? = some w) (g : goodWord w = true) : w ∈ wsG := List.mem_append_left _ (List.mem_filter.mpr ⟨List.mem_append_right _ (List.mem_append_right _ (List.mem_append_right _ (List.mem_append_right _ (List.mem_append_right _ (List.mem_append_right _ ((List.mem_append_left _ (List.mem_of_getElem? h)))))))), g⟩)
theorem wc8 {w : Cond} (p : Nat) (h : tables_1_8[p]? = some w) (g : goodWord w = true) : w ∈ wsG := List.mem_append_left _ (List.mem_filter.mpr ⟨List.mem_append_right _ (List.mem_append_right _ (List.mem_append_right _ (List.mem_append_right _ (List.mem_append_right _ (List.mem_append_right _ (List.mem_append_right _ ((List.mem_of_getElem? h)))))))), g⟩)
theorem fd_0_0 : 0 < 13 ∧ 0 < cN 0 ∧ fK 0 0 = 2 := by decide +kernel
theorem fd_0_1 : 0 < 13 ∧ 1 < cN 0 ∧ fK 0 1 = 2 := by decide +kernel
theorem fd_0_2 : 0 < 13 ∧ 2 < cN 0 ∧ fK 0 2 = 2 := by decide +kernel
theorem fd_0_3 : 0 < 13 ∧ 3 < cN 0 ∧ fK 0 3 = 2 := by decide +kernel
theorem fd_0_4 : 0 < 13 ∧ 4 < cN 0 ∧ fK 0 4 = 2 := by decide +kernel
theorem fd_0_5 : 0 < 13 ∧ 5 < cN 0 ∧ fK 0 5 = 0 := by decide +kernel
theorem fd_1_0 : 1 < 13 ∧ 0 < cN 1 ∧ fK 1 0 = 2 := by decide +kernel
theorem fd_1_1 : 1 < 13 ∧ 1 < cN 1 ∧ fK 1 1 = 2 := by decide +kernel
theorem fd_1_2 : 1 < 13 ∧ 2 < cN 1 ∧ fK 1 2 = 2 := by decide +kernel
theorem fd_1_3 : 1 < 13 ∧ 3 < cN 1 ∧ fK 1 3 = 0 := by decide +kernel
theorem fd_1_4 : 1 < 13 ∧ 4 < cN 1 ∧ fK 1 4 = 2 := by decide +kernel
theorem fd_1_5 : 1 < 13 ∧ 5 < cN 1 ∧ fK 1 5 = 2 := by decide +kernel
theorem fd_1_6 : 1 < 13 ∧ 6 < cN 1 ∧ fK 1 6 = 2 := by decide +kernel
theorem fd_2_0 : 2 < 13 ∧ 0 < cN 2 ∧ fK 2 0 = 1 := by decide +kernel
theorem fd_2_1 : 2 < 13 ∧ 1 < cN 2 ∧ fK 2 1 = 1 := by decide +kernel
theorem fd_2_2 : 2 < 13 ∧ 2 < cN 2 ∧ fK 2 2 = 1 := by decide +kernel
theorem fd_2_3 : 2 < 13 ∧ 3 < cN 2 ∧ fK 2 3 = 1 := by decide +kernel
theorem fd_2_4 : 2 < 13 ∧ 4 < cN 2 ∧ fK 2 4 = 1 := by decide +kernel
theorem fd_2_5 : 2 < 13 ∧ 5 < cN 2 ∧ fK 2 5 = 1 := by decide +kernel
theorem fd_3_0 : 3 < 13 ∧ 0 < cN 3 ∧ fK 3 0 = 2 := by decide +kernel
theorem fd_3_1 : 3 < 13 ∧ 1 < cN 3 ∧ fK 3 1 = 2 := by decide +kernel
theorem fd_3_2 : 3 < 13 ∧ 2 < cN 3 ∧ fK 3 2 = 0 := by decide +kernel
theorem fd_3_3 : 3 < 13 ∧ 3 < cN 3 ∧ fK 3 3 = 2 := by decide +kernel
theorem fd_3_4 : 3 < 13 ∧ 4 < cN 3 ∧ fK 3 4 = 0 := by decide +kernel
theorem fd_4_0 : 4 < 13 ∧ 0 < cN 4 ∧ fK 4 0 = 0 := by decide +kernel
theorem fd_4_1 : 4 < 13 ∧ 1 < cN 4 ∧ fK 4 1 = 2 := by decide +kernel
theorem fd_4_2 : 4 < 13 ∧ 2 < cN 4 ∧ fK 4 2 = 2 := by decide +kernel
theorem fd_4_3 : 4 < 13 ∧ 3 < cN 4 ∧ fK 4 3 = 0 := by decide +kernel
theorem fd_4_4 : 4 < 13 ∧ 4 < cN 4 ∧ fK 4 4 = 0 := by decide +kernel
theorem fd_5_0 : 5 < 13 ∧ 0 < cN 5 ∧ fK 5 0 = 2 := by decide +kernel
theorem fd_5_1 : 5 < 13 ∧ 1 < cN 5 ∧ fK 5 1 = 2 := by decide +kernel
theorem fd_5_2 : 5 < 13 ∧ 2 < cN 5 ∧ fK 5 2 = 2 := by decide +kernel
theorem fd_5_3 : 5 < 13 ∧ 3 < cN 5 ∧ fK 5 3 = 2 := by decide +kernel
theorem fd_5_4 : 5 < 13 ∧ 4 < cN 5 ∧ fK 5 4 = 0 := by decide +kernel
theorem fd_5_5 : 5 < 13 ∧ 5 < cN 5 ∧ fK 5 5 = 2 := by decide +kernel
theorem fd_5_6 : 5 < 13 ∧ 6 < cN 5 ∧ fK 5 6 = 0 := by decide +kernel
theorem fd_5_7 : 5 < 13 ∧ 7 < cN 5 ∧ fK 5 7 = 2 := by decide +kernel
theorem fd_5_8 : 5 < 13 ∧ 8 < cN 5 ∧ fK 5 8 = 2 := by decide +kernel
theorem fd_6_0 : 6 < 13 ∧ 0 < cN 6 ∧ fK 6 0 = 2 := by decide +kernel
theorem fd_6_1 : 6 < 13 ∧ 1 < cN 6 ∧ fK 6 1 = 2 := by decide +kernel
theorem fd_7_0 : 7 < 13 ∧ 0 < cN 7 ∧ fK 7 0 = 2 := by decide +kernel
theorem fd_7_1 : 7 < 13 ∧ 1 < cN 7 ∧ fK 7 1 = 2 := by decide +kernel
theorem fd_7_2 : 7 < 13 ∧ 2 < cN 7 ∧ fK 7 2 = 2 := by decide +kernel
theorem fd_7_3 : 7 < 13 ∧ 3 < cN 7 ∧ fK 7 3 = 0 := by decide +kernel
theorem fd_7_4 : 7 < 13 ∧ 4 < cN 7 ∧ fK 7 4 = 1 := by decide +kernel
theorem fd_7_5 : 7 < 13 ∧ 5 < cN 7 ∧ fK 7 5 = 1 := by decide +kernel
theorem fd_8_0 : 8 < 13 ∧ 0 < cN 8 ∧ fK 8 0 = 2 := by decide +kernel
theorem fd_8_1 : 8 < 13 ∧ 1 < cN 8 ∧ fK 8 1 = 0 := by decide +kernel
theorem fd_9_0 : 9 < 13 ∧ 0 < cN 9 ∧ fK 9 0 = 2 := by decide +kernel
theorem fd_9_1 : 9 < 13 ∧ 1 < cN 9 ∧ fK 9 1 = 2 := by decide +kernel
theorem fd_9_2 : 9 < 13 ∧ 2 < cN 9 ∧ fK 9 2 = 0 := by decide +kernel
theorem fd_9_3 : 9 < 13 ∧ 3 < cN 9 ∧ fK 9 3 = 0 := by decide +kernel
theorem fd_9_4 : 9 < 13 ∧ 4 < cN 9 ∧ fK 9 4 = 0 := by decide +kernel
theorem fd_9_5 : 9 < 13 ∧ 5 < cN 9 ∧ fK 9 5 = 0 := by decide +kernel
theorem fd_9_6 : 9 < 13 ∧ 6 < cN 9 ∧ fK 9 6 = 2 := by decide +kernel
theorem fd_9_7 : 9 < 13 ∧ 7 < cN 9 ∧ fK 9 7 = 2 := by decide +kernel
theorem fd_9_8 : 9 < 13 ∧ 8 < cN 9 ∧ fK 9 8 = 0 := by decide +kernel
theorem fd_10_0 : 10 < 13 ∧ 0 < cN 10 ∧ fK 10 0 = 2 := by decide +kernel
theorem fd_10_1 : 10 < 13 ∧ 1 < cN 10 ∧ fK 10 1 = 2 := by decide +kernel
theorem fd_10_2 : 10 < 13 ∧ 2 < cN 10 ∧ fK 10 2 = 2 := by decide +kernel
theorem fd_10_3 : 10 < 13 ∧ 3 < cN 10 ∧ fK 10 3 = 2 := by decide +kernel
theorem fd_11_0 : 11 < 13 ∧ 0 < cN 11 ∧ fK 11 0 = 2 := by decide +kernel
theorem fd_11_1 : 11 < 13 ∧ 1 < cN 11 ∧ fK 11 1 = 2 := by decide +kernel
theorem fd_11_2 : 11 < 13 ∧ 2 < cN 11 ∧ fK 11 2 = 2 := by decide +kernel
theorem fd_11_3 : 11 < 13 ∧ 3 < cN 11 ∧ fK 11 3 = 0 := by decide +kernel
theorem fd_11_4 : 11 < 13 ∧ 4 < cN 11 ∧ fK 11 4 = 2 := by decide +kernel
theorem fd_11_5 : 11 < 13 ∧ 5 < cN 11 ∧ fK 11 5 = 2 := by decide +kernel
theorem fd_11_6 : 11 < 13 ∧ 6 < cN 11 ∧ fK 11 6 = 0 := by decide +kernel
theorem fd_11_7 : 11 < 13 ∧ 7 < cN 11 ∧ fK 11 7 = 2 := by decide +kernel
theorem fd_11_8 : 11 < 13 ∧ 8 < cN 11 ∧ fK 11 8 = 2 := by decide +kernel
theorem fd_11_9 : 11 < 13 ∧ 9 < cN 11 ∧ fK 11 9 = 2 := by decide +kernel
theorem fd_11_10 : 11 < 13 ∧ 10 < cN 11 ∧ fK 11 10 = 2 := by decide +kernel
theorem fd_11_11 : 11 < 13 ∧ 11 < cN 11 ∧ fK 11 11 = 2 := by decide +kernel
theorem fd_11_12 : 11 < 13 ∧ 12 < cN 11 ∧ fK 11 12 = 2 := by decide +kernel
theorem fd_11_13 : 11 < 13 ∧ 13 < cN 11 ∧ fK 11 13 = 2 := by decide +kernel
theorem fd_11_14 : 11 < 13 ∧ 14 < cN 11 ∧ fK 11 14 = 0 := by decide +kernel
theorem fd_11_15 : 11 < 13 ∧ 15 < cN 11 ∧ fK 11 15 = 2 := by decide +kernel
theorem fd_11_16 : 11 < 13 ∧ 16 < cN 11 ∧ fK 11 16 = 0 := by decide +kernel
theorem fd_11_17 : 11 < 13 ∧ 17 < cN 11 ∧ fK 11 17 = 2 := by decide +kernel
theorem fd_11_18 : 11 < 13 ∧ 18 < cN 11 ∧ fK 11 18 = 2 := by decide +kernel
theorem fd_12_0 : 12 < 13 ∧ 0 < cN 12 ∧ fK 12 0 = 2 := by decide +kernel
theorem fd_12_1 : 12 < 13 ∧ 1 < cN 12 ∧ fK 12 1 = 0 := by decide +kernel
theorem fd_12_2 : 12 < 13 ∧ 2 < cN 12 ∧ fK 12 2 = 2 := by decide +kernel
theorem fd_12_3 : 12 < 13 ∧ 3 < cN 12 ∧ fK 12 3 = 2 := by decide +kernel
theorem fd_12_4 : 12 < 13 ∧ 4 < cN 12 ∧ fK 12 4 = 2 := by decide +kernel
theorem fd_12_5 : 12 < 13 ∧ 5 < cN 12 ∧ fK 12 5 = 2 := by decide +kernel
theorem fd_12_6 : 12 < 13 ∧ 6 < cN 12 ∧ fK 12 6 = 2 := by decide +kernel
theorem fd_12_7 : 12 < 13 ∧ 7 < cN 12 ∧ fK 12 7 = 2 := by decide +kernel
theorem fd_12_8 : 12 < 13 ∧ 8 < cN 12 ∧ fK 12 8 = 2 := by decide +kernel
theorem fd_12_9 : 12 < 13 ∧ 9 < cN 12 ∧ fK 12 9 = 0 := by decide +kernel
theorem fd_12_10 : 12 < 13 ∧ 10 < cN 12 ∧ fK 12 10 = 0 := by decide +kernel
theorem fd_12_11 : 12 < 13 ∧ 11 < cN 12 ∧ fK 12 11 = 0 := by decide +kernel
theorem fd_12_12 : 12 < 13 ∧ 12 < cN 12 ∧ fK 12 12 = 0 := by decide +kernel
theorem fd_12_13 : 12 < 13 ∧ 13 < cN 12 ∧ fK 12 13 = 2 := by decide +kernel
theorem fd_12_14 : 12 < 13 ∧ 14 < cN 12 ∧ fK 12 14 = 0 := by decide +kernel
theorem fd_12_15 : 12 < 13 ∧ 15 < cN 12 ∧ fK 12 15 = 2 := by decide +kernel
theorem fd_12_16 : 12 < 13 ∧ 16 < cN 12 ∧ fK 12 16 = 2 := by decide +kernel
theorem fd_12_17 : 12 < 13 ∧ 17 < cN 12 ∧ fK 12 17 = 0 := by decide +kernel
theorem fd_12_18 : 12 < 13 ∧ 18 < cN 12 ∧ fK 12 18 = 2 := by decide +kernel
theorem fd_12_19 : 12 < 13 ∧ 19 < cN 12 ∧ fK 12 19 = 0 := by decide +kernel
theorem fd_12_20 : 12 < 13 ∧ 20 < cN 12 ∧ fK 12 20 = 2 := by decide +kernel
theorem fd_12_21 : 12 < 13 ∧ 21 < cN 12 ∧ fK 12 21 = 2 := by decide +kernel
theorem fd_12_22 : 12 < 13 ∧ 22 < cN 12 ∧ fK 12 22 = 2 := by decide +kernel
theorem fd_12_23 : 12 < 13 ∧ 23 < cN 12 ∧ fK 12 23 = 2 := by decide +kernel
theorem fd_12_24 : 12 < 13 ∧ 24 < cN 12 ∧ fK 12 24 = 2 := by decide +kernel
theorem fd_12_25 : 12 < 13 ∧ 25 < cN 12 ∧ fK 12 25 = 2 := by decide +kernel
theorem fd_12_26 : 12 < 13 ∧ 26 < cN 12 ∧ fK 12 26 = 2 := by decide +kernel
theorem fd_12_27 : 12 < 13 ∧ 27 < cN 12 ∧ fK 12 27 = 2 := by decide +kernel
theorem fd_12_28 : 12 < 13 ∧ 28 < cN 12 ∧ fK 12 28 = 2 := by decide +kernel
theorem fd_12_29 : 12 < 13 ∧ 29 < cN 12 ∧ fK 12 29 = 2 := by decide +kernel
theorem fd_12_30 : 12 < 13 ∧ 30 < cN 12 ∧ fK 12 30 = 2 := by decide +kernel
theorem fd_12_31 : 12 < 13 ∧ 31 < cN 12 ∧ fK 12 31 = 2 := by decide +kernel
theorem fd_12_32 : 12 < 13 ∧ 32 < cN 12 ∧ fK 12 32 = 0 := by decide +kernel
theorem fd_12_33 : 12 < 13 ∧ 33 < cN 12 ∧ fK 12 33 = 2 := by decide +kernel
theorem fd_12_34 : 12 < 13 ∧ 34 < cN 12 ∧ fK 12 34 = 2 := by decide +kernel
theorem fd_12_35 : 12 < 13 ∧ 35 < cN 12 ∧ fK 12 35 = 0 := by decide +kernel
theorem fd_12_36 : 12 < 13 ∧ 36 < cN 12 ∧ fK 12 36 = 0 := by decide +kernel
theorem fd_12_37 : 12 < 13 ∧ 37 < cN 12 ∧ fK 12 37 = 0 := by decide +kernel
theorem fd_12_38 : 12 < 13 ∧ 38 < cN 12 ∧ fK 12 38 = 2 := by decide +kernel
theorem fd_12_39 : 12 < 13 ∧ 39 < cN 12 ∧ fK 12 39 = 2 := by decide +kernel
theorem fd_12_40 : 12 < 13 ∧ 40 < cN 12 ∧ fK 12 40 = 2 := by decide +kernel
theorem fd_12_41 : 12 < 13 ∧ 41 < cN 12 ∧ fK 12 41 = 2 := by decide +kernel
theorem fd_12_42 : 12 < 13 ∧ 42 < cN 12 ∧ fK 12 42 = 2 := by decide +kernel
theorem fd_12_43 : 12 < 13 ∧ 43 < cN 12 ∧ fK 12 43 = 2 := by decide +kernel
theorem fd_12_44 : 12 < 13 ∧ 44 < cN 12 ∧ fK 12 44 = 2 := by decide +kernel
theorem fd_12_45 : 12 < 13 ∧ 45 < cN 12 ∧ fK 12 45 = 0 := by decide +kernel
theorem fd_12_46 : 12 < 13 ∧ 46 < cN 12 ∧ fK 12 46 = 2 := by decide +kernel
theorem fd_12_47 : 12 < 13 ∧ 47 < cN 12 ∧ fK 12 47 = 2 := by decide +kernel
theorem fd_12_48 : 12 < 13 ∧ 48 < cN 12 ∧ fK 12 48 = 2 := by decide +kernel
theorem fd_12_49 : 12 < 13 ∧ 49 < cN 12 ∧ fK 12 49 = 2 := by decide +kernel
theorem fd_12_50 : 12 < 13 ∧ 50 < cN 12 ∧ fK 12 50 = 0 := by decide +kernel
theorem fd_12_51 : 12 < 13 ∧ 51 < cN 12 ∧ fK 12 51 = 0 := by decide +kernel
theorem fd_12_52 : 12 < 13 ∧ 52 < cN 12 ∧ fK 12 52 = 0 := by decide +kernel
theorem fd_12_53 : 12 < 13 ∧ 53 < cN 12 ∧ fK 12 53 = 2 := by decide +kernel
theorem fd_12_54 : 12 < 13 ∧ 54 < cN 12 ∧ fK 12 54 = 2 := by decide +kernel
theorem fd_12_55 : 12 < 13 ∧ 55 < cN 12 ∧ fK 12 55 = 2 := by decide +kernel
theorem fd_12_56 : 12 < 13 ∧ 56 < cN 12 ∧ fK 12 56 = 0 := by decide +kernel
theorem fd_12_57 : 12 < 13 ∧ 57 < cN 12 ∧ fK 12 57 = 1 := by decide +kernel
theorem fd_12_58 : 12 < 13 ∧ 58 < cN 12 ∧ fK 12 58 = 1 := by decide +kernel
theorem fd_12_59 : 12 < 13 ∧ 59 < cN 12 ∧ fK 12 59 = 2 := by decide +kernel
theorem fd_12_60 : 12 < 13 ∧ 60 < cN 12 ∧ fK 12 60 = 2 := by decide +kernel
theorem fd_12_61 : 12 < 13 ∧ 61 < cN 12 ∧ fK 12 61 = 2 := by decide +kernel
theorem fd_12_62 : 12 < 13 ∧ 62 < cN 12 ∧ fK 12 62 = 0 := by decide +kernel
theorem fd_12_63 : 12 < 13 ∧ 63 < cN 12 ∧ fK 12 63 = 0 := by decide +kernel
theorem fd_12_64 : 12 < 13 ∧ 64 < cN 12 ∧ fK 12 64 = 0 := by decide +kernel
theorem fd_12_65 : 12 < 13 ∧ 65 < cN 12 ∧ fK 12 65 = 0 := by decide +kernel
theorem fd_12_66 : 12 < 13 ∧ 66 < cN 12 ∧ fK 12 66 = 2 := by decide +kernel
theorem w_19 : (Cond.classLink "CrystalHouseLaw" (7 : Nat) "CrystalHouse") ∈ wsG := wc1 19 rfl rfl
theorem w_21 : (Cond.methodLink "CrystalHouseLaw" (9 : Nat) ({ cls := "CrystalHouse", name := "<init>", desc := "()V" } : MethodName)) ∈ wsG := wc1 21 rfl rfl
theorem w_24 : (Cond.methodLink "CrystalHouse" (3 : Nat) ({ cls := "java/lang/Object", name := "<init>", desc := "()V" } : MethodName)) ∈ wsG := wc1 24 rfl rfl
theorem w_27 : (Cond.classLink "CrystalHouse" (9 : Nat) "CrystalHouse$Scribe") ∈ wsG := wc1 27 rfl rfl
theorem w_32 : (Cond.methodLink "CrystalHouse$Scribe" (3 : Nat) ({ cls := "java/lang/Object", name := "<init>", desc := "()V" } : MethodName)) ∈ wsG := wc1 32 rfl rfl
theorem w_33 : (Cond.classLink "CrystalHouse$Scribe" (31 : Nat) "CrystalHouse$Motion") ∈ wsG := wc1 33 rfl rfl
theorem w_38 : (Cond.methodLink "CrystalHouse$Motion" (3 : Nat) ({ cls := "java/lang/Object", name := "<init>", desc := "()V" } : MethodName)) ∈ wsG := wc1 38 rfl rfl
theorem w_39 : (Cond.fieldLink "CrystalHouse$Motion" (9 : Nat) "CrystalHouse$Motion" "m" "[I") ∈ wsG := wc1 39 rfl rfl
theorem w_40 : (Cond.fieldLink "CrystalHouse$Scribe" (106 : Nat) "CrystalHouse$Motion" "m" "[I") ∈ wsG := wc1 40 rfl rfl
theorem w_41 : (Cond.fieldLink "CrystalHouse" (364 : Nat) "CrystalHouse$Motion" "m" "[I") ∈ wsG := wc1 41 rfl rfl
theorem w_42 : (Cond.fieldLink "CrystalHouse$Motion" (15 : Nat) "CrystalHouse$Motion" "s" "[I") ∈ wsG := wc1 42 rfl rfl
theorem w_43 : (Cond.fieldLink "CrystalHouse$Scribe" (118 : Nat) "CrystalHouse$Motion" "s" "[I") ∈ wsG := wc1 43 rfl rfl
theorem w_50 : (Cond.fieldLink "CrystalHouse$Scribe" (11 : Nat) "CrystalHouse$Scribe" "waiting" "[I") ∈ wsG := wc1 50 rfl rfl
theorem w_51 : (Cond.fieldLink "CrystalHouse$Scribe" (15 : Nat) "CrystalHouse$Scribe" "text" "[I") ∈ wsG := wc1 51 rfl rfl
theorem w_52 : (Cond.fieldLink "CrystalHouse$Scribe" (18 : Nat) "CrystalHouse$Scribe" "length" "I") ∈ wsG := wc1 52 rfl rfl
theorem w_53 : (Cond.fieldLink "CrystalHouse$Scribe" (22 : Nat) "CrystalHouse$Scribe" "spot" "I") ∈ wsG := wc1 53 rfl rfl
theorem w_54 : (Cond.fieldLink "CrystalHouse$Scribe" (25 : Nat) "CrystalHouse$Scribe" "flaw" "I") ∈ wsG := wc1 54 rfl rfl
theorem w_55 : (Cond.fieldLink "CrystalHouse" (122 : Nat) "CrystalHouse$Scribe" "flaw" "I") ∈ wsG := wc1 55 rfl rfl
theorem w_56 : (Cond.fieldLink "CrystalHouse$Scribe" (28 : Nat) "CrystalHouse$Scribe" "flawPlace" "I") ∈ wsG := wc1 56 rfl rfl
theorem w_57 : (Cond.fieldLink "CrystalHouse" (125 : Nat) "CrystalHouse$Scribe" "flawPlace" "I") ∈ wsG := wc1 57 rfl rfl
theorem w_58 : (Cond.fieldLink "CrystalHouse$Scribe" (34 : Nat) "CrystalHouse$Scribe" "found" "LCrystalHouse$Motion;") ∈ wsG := wc1 58 rfl rfl
theorem w_59 : (Cond.fieldLink "CrystalHouse$Scribe" (38 : Nat) "CrystalHouse$Scribe" "out" "[C") ∈ wsG := wc1 59 rfl rfl
theorem w_60 : (Cond.fieldLink "CrystalHouse" (159 : Nat) "CrystalHouse$Scribe" "out" "[C") ∈ wsG := wc1 60 rfl rfl
theorem w_61 : (Cond.fieldLink "CrystalHouse$Scribe" (42 : Nat) "CrystalHouse$Scribe" "outCount" "I") ∈ wsG := wc1 61 rfl rfl
theorem w_62 : (Cond.fieldLink "CrystalHouse" (156 : Nat) "CrystalHouse$Scribe" "outCount" "I") ∈ wsG := wc1 62 rfl rfl
theorem w_83 : (Cond.classLink "CrystalHouse" (28 : Nat) "CrystalHouse$Closure") ∈ wsG := wc1 83 rfl rfl
theorem w_88 : (Cond.methodLink "CrystalHouse$Closure" (3 : Nat) ({ cls := "java/lang/Object", name := "<init>", desc := "()V" } : MethodName)) ∈ wsG := wc1 88 rfl rfl
theorem w_89 : (Cond.classLink "CrystalHouse$Closure" (9 : Nat) "CrystalHouse$Row") ∈ wsG := wc1 89 rfl rfl
theorem w_91 : (Cond.methodLink "CrystalHouse$Closure" (11 : Nat) ({ cls := "CrystalHouse$Row", name := "<init>", desc := "(I)V" } : MethodName)) ∈ wsG := wc1 91 rfl rfl
theorem w_94 : (Cond.methodLink "CrystalHouse$Row" (3 : Nat) ({ cls := "java/lang/Object", name := "<init>", desc := "()V" } : MethodName)) ∈ wsG := wc1 94 rfl rfl
theorem w_95 : (Cond.methodLink "CrystalHouse$Row" (15 : Nat) ({ cls := "java/lang/Math", name := "max", desc := "(II)I" } : MethodName)) ∈ wsG := wc1 95 rfl rfl
theorem w_98 : (Cond.fieldLink "CrystalHouse$Row" (21 : Nat) "CrystalHouse$Row" "at" "[I") ∈ wsG := wc1 98 rfl rfl
theorem w_99 : (Cond.fieldLink "CrystalHouse$Group" (60 : Nat) "CrystalHouse$Row" "at" "[I") ∈ wsG := wc1 99 rfl rfl
theorem w_100 : (Cond.fieldLink "CrystalHouse$Model" (56 : Nat) "CrystalHouse$Row" "at" "[I") ∈ wsG := wc1 100 rfl rfl
theorem w_101 : (Cond.fieldLink "CrystalHouse" (153 : Nat) "CrystalHouse$Row" "at" "[I") ∈ wsG := wc1 101 rfl rfl
theorem w_102 : (Cond.fieldLink "CrystalHouse$Row" (9 : Nat) "CrystalHouse$Row" "count" "I") ∈ wsG := wc1 102 rfl rfl
theorem w_103 : (Cond.fieldLink "CrystalHouse$Group" (30 : Nat) "CrystalHouse$Row" "count" "I") ∈ wsG := wc1 103 rfl rfl
theorem w_104 : (Cond.fieldLink "CrystalHouse$Closure" (56 : Nat) "CrystalHouse$Row" "count" "I") ∈ wsG := wc1 104 rfl rfl
theorem w_105 : (Cond.fieldLink "CrystalHouse$Model" (55 : Nat) "CrystalHouse$Row" "count" "I") ∈ wsG := wc1 105 rfl rfl
theorem w_106 : (Cond.fieldLink "CrystalHouse" (150 : Nat) "CrystalHouse$Row" "count" "I") ∈ wsG := wc1 106 rfl rfl
theorem w_113 : (Cond.classLink "CrystalHouse$Closure" (31 : Nat) "CrystalHouse$Motion") ∈ wsG := wc1 113 rfl rfl
theorem w_115 : (Cond.fieldLink "CrystalHouse$Closure" (14 : Nat) "CrystalHouse$Closure" "ops" "LCrystalHouse$Row;") ∈ wsG := wc1 115 rfl rfl
theorem w_116 : (Cond.fieldLink "CrystalHouse$Group" (24 : Nat) "CrystalHouse$Closure" "ops" "LCrystalHouse$Row;") ∈ wsG := wc1 116 rfl rfl
theorem w_117 : (Cond.fieldLink "CrystalHouse" (173 : Nat) "CrystalHouse$Closure" "ops" "LCrystalHouse$Row;") ∈ wsG := wc1 117 rfl rfl
theorem w_118 : (Cond.fieldLink "CrystalHouse$Closure" (20 : Nat) "CrystalHouse$Closure" "found" "[I") ∈ wsG := wc1 118 rfl rfl
theorem w_119 : (Cond.fieldLink "CrystalHouse$Closure" (24 : Nat) "CrystalHouse$Closure" "makers" "[I") ∈ wsG := wc1 119 rfl rfl
theorem w_120 : (Cond.fieldLink "CrystalHouse$Group" (41 : Nat) "CrystalHouse$Closure" "makers" "[I") ∈ wsG := wc1 120 rfl rfl
theorem w_121 : (Cond.fieldLink "CrystalHouse$Closure" (27 : Nat) "CrystalHouse$Closure" "makerCount" "I") ∈ wsG := wc1 121 rfl rfl
theorem w_122 : (Cond.fieldLink "CrystalHouse$Group" (44 : Nat) "CrystalHouse$Closure" "makerCount" "I") ∈ wsG := wc1 122 rfl rfl
theorem w_123 : (Cond.fieldLink "CrystalHouse$Closure" (34 : Nat) "CrystalHouse$Closure" "first" "LCrystalHouse$Motion;") ∈ wsG := wc1 123 rfl rfl
theorem w_124 : (Cond.fieldLink "CrystalHouse$Closure" (38 : Nat) "CrystalHouse$Closure" "second" "LCrystalHouse$Motion;") ∈ wsG := wc1 124 rfl rfl
theorem w_125 : (Cond.fieldLink "CrystalHouse$Closure" (41 : Nat) "CrystalHouse$Closure" "both" "LCrystalHouse$Motion;") ∈ wsG := wc1 125 rfl rfl
theorem w_141 : (Cond.classLink "CrystalHouse" (35 : Nat) "CrystalHouse$Group") ∈ wsG := wc1 141 rfl rfl
theorem w_143 : (Cond.classLink "CrystalHouse" (44 : Nat) "CrystalHouse$Motion") ∈ wsG := wc1 143 rfl rfl
theorem w_145 : (Cond.classLink "CrystalHouse" (57 : Nat) "CrystalHouse$Row") ∈ wsG := wc1 145 rfl rfl
theorem w_146 : (Cond.methodLink "CrystalHouse" (59 : Nat) ({ cls := "CrystalHouse$Row", name := "<init>", desc := "(I)V" } : MethodName)) ∈ wsG := wc1 146 rfl rfl
theorem w_147 : (Cond.classLink "CrystalHouse" (72 : Nat) "CrystalHouse$Cell") ∈ wsG := wc1 147 rfl rfl
theorem w_149 : (Cond.classLink "CrystalHouse" (81 : Nat) "CrystalHouse$Model") ∈ wsG := wc1 149 rfl rfl
theorem w_151 : (Cond.classLink "CrystalHouse" (90 : Nat) "CrystalHouse$Wave") ∈ wsG := wc1 151 rfl rfl
theorem w_156 : (Cond.methodLink "CrystalHouse$Wave" (3 : Nat) ({ cls := "java/lang/Object", name := "<init>", desc := "()V" } : MethodName)) ∈ wsG := wc1 156 rfl rfl
theorem w_157 : (Cond.fieldLink "CrystalHouse$Wave" (9 : Nat) "CrystalHouse$Wave" "cosines" "[J") ∈ wsG := wc1 157 rfl rfl
theorem w_158 : (Cond.fieldLink "CrystalHouse" (409 : Nat) "CrystalHouse$Wave" "cosines" "[J") ∈ wsG := wc1 158 rfl rfl
theorem w_159 : (Cond.fieldLink "CrystalHouse$Wave" (15 : Nat) "CrystalHouse$Wave" "sines" "[J") ∈ wsG := wc1 159 rfl rfl
theorem w_160 : (Cond.fieldLink "CrystalHouse" (413 : Nat) "CrystalHouse$Wave" "sines" "[J") ∈ wsG := wc1 160 rfl rfl
theorem w_161 : (Cond.fieldLink "CrystalHouse$Wave" (18 : Nat) "CrystalHouse$Wave" "power" "[J") ∈ wsG := wc1 161 rfl rfl
theorem w_162 : (Cond.fieldLink "CrystalHouse$Lines" (66 : Nat) "CrystalHouse$Wave" "power" "[J") ∈ wsG := wc1 162 rfl rfl
theorem w_163 : (Cond.fieldLink "CrystalHouse" (416 : Nat) "CrystalHouse$Wave" "power" "[J") ∈ wsG := wc1 163 rfl rfl
theorem w_164 : (Cond.fieldLink "CrystalHouse$Wave" (21 : Nat) "CrystalHouse$Wave" "heaps" "[I") ∈ wsG := wc1 164 rfl rfl
theorem w_175 : (Cond.classLink "CrystalHouse" (97 : Nat) "CrystalHouse$Phases") ∈ wsG := wc1 175 rfl rfl
theorem w_180 : (Cond.methodLink "CrystalHouse$Phases" (3 : Nat) ({ cls := "java/lang/Object", name := "<init>", desc := "()V" } : MethodName)) ∈ wsG := wc1 180 rfl rfl
theorem w_181 : (Cond.fieldLink "CrystalHouse$Phases" (9 : Nat) "CrystalHouse$Phases" "p" "[I") ∈ wsG := wc1 181 rfl rfl
theorem w_182 : (Cond.fieldLink "CrystalHouse$Phases" (15 : Nat) "CrystalHouse$Phases" "q" "[I") ∈ wsG := wc1 182 rfl rfl
theorem w_183 : (Cond.fieldLink "CrystalHouse$Phases" (18 : Nat) "CrystalHouse$Phases" "energy" "[J") ∈ wsG := wc1 183 rfl rfl
theorem w_184 : (Cond.fieldLink "CrystalHouse$Phases" (22 : Nat) "CrystalHouse$Phases" "count" "I") ∈ wsG := wc1 184 rfl rfl
theorem w_185 : (Cond.fieldLink "CrystalHouse" (458 : Nat) "CrystalHouse$Phases" "count" "I") ∈ wsG := wc1 185 rfl rfl
theorem w_186 : (Cond.fieldLink "CrystalHouse$Phases" (26 : Nat) "CrystalHouse$Phases" "upper" "J") ∈ wsG := wc1 186 rfl rfl
theorem w_187 : (Cond.fieldLink "CrystalHouse" (462 : Nat) "CrystalHouse$Phases" "upper" "J") ∈ wsG := wc1 187 rfl rfl
theorem w_188 : (Cond.fieldLink "CrystalHouse$Phases" (30 : Nat) "CrystalHouse$Phases" "lower" "J") ∈ wsG := wc1 188 rfl rfl
theorem w_189 : (Cond.fieldLink "CrystalHouse" (466 : Nat) "CrystalHouse$Phases" "lower" "J") ∈ wsG := wc1 189 rfl rfl
theorem w_203 : (Cond.fieldLink "CrystalHouse" (12 : Nat) "CrystalHouse" "scribe" "LCrystalHouse$Scribe;") ∈ wsG := wc1 203 rfl rfl
theorem w_204 : (Cond.fieldLink "CrystalHouse" (16 : Nat) "CrystalHouse" "toldCodes" "[I") ∈ wsG := wc1 204 rfl rfl
theorem w_205 : (Cond.fieldLink "CrystalHouse" (20 : Nat) "CrystalHouse" "chosen" "[Z") ∈ wsG := wc1 205 rfl rfl
theorem w_206 : (Cond.fieldLink "CrystalHouse" (24 : Nat) "CrystalHouse" "toldCount" "I") ∈ wsG := wc1 206 rfl rfl
theorem w_207 : (Cond.fieldLink "CrystalHouse" (31 : Nat) "CrystalHouse" "closure" "LCrystalHouse$Closure;") ∈ wsG := wc1 207 rfl rfl
theorem w_208 : (Cond.fieldLink "CrystalHouse" (37 : Nat) "CrystalHouse" "groups" "[LCrystalHouse$Group;") ∈ wsG := wc1 208 rfl rfl
theorem w_209 : (Cond.fieldLink "CrystalHouse" (41 : Nat) "CrystalHouse" "groupCount" "I") ∈ wsG := wc1 209 rfl rfl
theorem w_210 : (Cond.fieldLink "CrystalHouse" (47 : Nat) "CrystalHouse" "left" "LCrystalHouse$Motion;") ∈ wsG := wc1 210 rfl rfl
theorem w_211 : (Cond.fieldLink "CrystalHouse" (51 : Nat) "CrystalHouse" "right" "LCrystalHouse$Motion;") ∈ wsG := wc1 211 rfl rfl
theorem w_212 : (Cond.fieldLink "CrystalHouse" (54 : Nat) "CrystalHouse" "done" "LCrystalHouse$Motion;") ∈ wsG := wc1 212 rfl rfl
theorem w_213 : (Cond.fieldLink "CrystalHouse" (62 : Nat) "CrystalHouse" "gathered" "LCrystalHouse$Row;") ∈ wsG := wc1 213 rfl rfl
theorem w_214 : (Cond.fieldLink "CrystalHouse" (66 : Nat) "CrystalHouse" "marks" "[I") ∈ wsG := wc1 214 rfl rfl
theorem w_215 : (Cond.fieldLink "CrystalHouse" (69 : Nat) "CrystalHouse" "queue" "[I") ∈ wsG := wc1 215 rfl rfl
theorem w_216 : (Cond.fieldLink "CrystalHouse" (74 : Nat) "CrystalHouse" "cells" "[LCrystalHouse$Cell;") ∈ wsG := wc1 216 rfl rfl
theorem w_217 : (Cond.fieldLink "CrystalHouse" (78 : Nat) "CrystalHouse" "cellCount" "I") ∈ wsG := wc1 217 rfl rfl
theorem w_218 : (Cond.fieldLink "CrystalHouse" (83 : Nat) "CrystalHouse" "models" "[LCrystalHouse$Model;") ∈ wsG := wc1 218 rfl rfl
theorem w_219 : (Cond.fieldLink "CrystalHouse" (87 : Nat) "CrystalHouse" "modelCount" "I") ∈ wsG := wc1 219 rfl rfl
theorem w_220 : (Cond.fieldLink "CrystalHouse" (93 : Nat) "CrystalHouse" "waves" "LCrystalHouse$Wave;") ∈ wsG := wc1 220 rfl rfl
theorem w_221 : (Cond.fieldLink "CrystalHouse" (100 : Nat) "CrystalHouse" "phases" "LCrystalHouse$Phases;") ∈ wsG := wc1 221 rfl rfl
theorem w_261 : (Cond.methodLink "CrystalHouseLaw" (13 : Nat) ({ cls := "CrystalHouse", name := "feed", desc := "(IIIII)V" } : MethodName)) ∈ wsG := wc2 21 rfl rfl
theorem w_265 : (Cond.methodLink "CrystalHouse" (104 : Nat) ({ cls := "CrystalHouse$Scribe", name := "lay", desc := "(II)V" } : MethodName)) ∈ wsG := wc2 25 rfl rfl
theorem w_269 : (Cond.methodLink "CrystalHouseLaw" (18 : Nat) ({ cls := "CrystalHouse", name := "end", desc := "(I)I" } : MethodName)) ∈ wsG := wc2 29 rfl rfl
theorem w_273 : (Cond.methodLink "CrystalHouse" (108 : Nat) ({ cls := "CrystalHouse$Scribe", name := "append", desc := "(I)I" } : MethodName)) ∈ wsG := wc2 33 rfl rfl
theorem w_277 : (Cond.methodLink "CrystalHouse$Scribe" (45 : Nat) ({ cls := "java/lang/System", name := "arraycopy", desc := "(Ljava/lang/Object;ILjava/lang/Object;II)V" } : MethodName)) ∈ wsG := wc2 37 rfl rfl
theorem w_280 : (Cond.methodLink "CrystalHouse$Scribe" (51 : Nat) ({ cls := "java/util/Arrays", name := "fill", desc := "([II)V" } : MethodName)) ∈ wsG := wc2 40 rfl rfl
theorem w_283 : (Cond.methodLink "CrystalHouseLaw" (23 : Nat) ({ cls := "CrystalHouse", name := "read", desc := "()I" } : MethodName)) ∈ wsG := wc2 43 rfl rfl
theorem w_287 : (Cond.methodLink "CrystalHouse" (112 : Nat) ({ cls := "CrystalHouse$Scribe", name := "parse", desc := "()I" } : MethodName)) ∈ wsG := wc2 47 rfl rfl
theorem w_291 : (Cond.methodLink "CrystalHouse$Scribe" (57 : Nat) ({ cls := "CrystalHouse$Scribe", name := "report", desc := "(II)V" } : MethodName)) ∈ wsG := wc2 51 rfl rfl
theorem w_295 : (Cond.methodLink "CrystalHouse$Scribe" (61 : Nat) ({ cls := "CrystalHouse$Motion", name := "clear", desc := "()V" } : MethodName)) ∈ wsG := wc2 55 rfl rfl
theorem w_299 : (Cond.methodLink "CrystalHouse$Motion" (18 : Nat) ({ cls := "java/util/Arrays", name := "fill", desc := "([II)V" } : MethodName)) ∈ wsG := wc2 59 rfl rfl
theorem w_300 : (Cond.methodLink "CrystalHouse$Scribe" (64 : Nat) ({ cls := "CrystalHouse$Scribe", name := "parseExpression", desc := "(I)V" } : MethodName)) ∈ wsG := wc2 60 rfl rfl
theorem w_304 : (Cond.methodLink "CrystalHouse$Scribe" (94 : Nat) ({ cls := "CrystalHouse$Scribe", name := "skipBlanks", desc := "()V" } : MethodName)) ∈ wsG := wc2 64 rfl rfl
theorem w_308 : (Cond.methodLink "CrystalHouse$Scribe" (97 : Nat) ({ cls := "CrystalHouse$Scribe", name := "seesSign", desc := "()Z" } : MethodName)) ∈ wsG := wc2 68 rfl rfl
theorem w_312 : (Cond.methodLink "CrystalHouse$Scribe" (100 : Nat) ({ cls := "CrystalHouse$Scribe", name := "takeSign", desc := "()I" } : MethodName)) ∈ wsG := wc2 72 rfl rfl
theorem w_316 : (Cond.methodLink "CrystalHouse$Scribe" (91 : Nat) ({ cls := "CrystalHouse$Scribe", name := "peek", desc := "()I" } : MethodName)) ∈ wsG := wc2 76 rfl rfl
theorem w_320 : (Cond.methodLink "CrystalHouse$Scribe" (103 : Nat) ({ cls := "CrystalHouse$Scribe", name := "parseTerm", desc := "(II)V" } : MethodName)) ∈ wsG := wc2 80 rfl rfl
theorem w_324 : (Cond.methodLink "CrystalHouse$Scribe" (109 : Nat) ({ cls := "CrystalHouse$Scribe", name := "seesDigit", desc := "()Z" } : MethodName)) ∈ wsG := wc2 84 rfl rfl
theorem w_328 : (Cond.methodLink "CrystalHouse$Scribe" (112 : Nat) ({ cls := "CrystalHouse$Scribe", name := "parseShift", desc := "(II)V" } : MethodName)) ∈ wsG := wc2 88 rfl rfl
theorem w_332 : (Cond.methodLink "CrystalHouse$Scribe" (115 : Nat) ({ cls := "CrystalHouse$Scribe", name := "takeNumber", desc := "()I" } : MethodName)) ∈ wsG := wc2 92 rfl rfl
theorem w_336 : (Cond.methodLink "CrystalHouse$Scribe" (121 : Nat) ({ cls := "java/lang/Math", name := "floorMod", desc := "(II)I" } : MethodName)) ∈ wsG := wc2 96 rfl rfl
theorem w_339 : (Cond.methodLink "CrystalHouse$Scribe" (68 : Nat) ({ cls := "CrystalHouse$Scribe", name := "parseBorder", desc := "(I)V" } : MethodName)) ∈ wsG := wc2 99 rfl rfl
theorem w_343 : (Cond.methodLink "CrystalHouse$Scribe" (71 : Nat) ({ cls := "CrystalHouse$Scribe", name := "checkMatrix", desc := "()V" } : MethodName)) ∈ wsG := wc2 103 rfl rfl
theorem w_347 : (Cond.methodLink "CrystalHouse$Scribe" (78 : Nat) ({ cls := "CrystalHouse$Motion", name := "isSmall", desc := "()Z" } : MethodName)) ∈ wsG := wc2 107 rfl rfl
theorem w_351 : (Cond.methodLink "CrystalHouse$Scribe" (82 : Nat) ({ cls := "CrystalHouse$Motion", name := "determinant", desc := "()I" } : MethodName)) ∈ wsG := wc2 111 rfl rfl
theorem w_355 : (Cond.methodLink "CrystalHouse$Scribe" (85 : Nat) ({ cls := "java/lang/Math", name := "abs", desc := "(I)I" } : MethodName)) ∈ wsG := wc2 115 rfl rfl
theorem w_358 : (Cond.methodLink "CrystalHouse$Scribe" (74 : Nat) ({ cls := "CrystalHouse$Motion", name := "code", desc := "()I" } : MethodName)) ∈ wsG := wc2 118 rfl rfl
theorem w_362 : (Cond.methodLink "CrystalHouse$Motion" (24 : Nat) ({ cls := "CrystalHouse$Motion", name := "isSmall", desc := "()Z" } : MethodName)) ∈ wsG := wc2 122 rfl rfl
theorem w_363 : (Cond.methodLink "CrystalHouse" (116 : Nat) ({ cls := "CrystalHouse$Scribe", name := "report", desc := "(II)V" } : MethodName)) ∈ wsG := wc2 123 rfl rfl
theorem w_364 : (Cond.methodLink "CrystalHouse" (119 : Nat) ({ cls := "CrystalHouse", name := "keepOperation", desc := "(I)I" } : MethodName)) ∈ wsG := wc2 124 rfl rfl
theorem w_368 : (Cond.methodLink "CrystalHouseLaw" (28 : Nat) ({ cls := "CrystalHouse", name := "fault", desc := "(I)I" } : MethodName)) ∈ wsG := wc2 128 rfl rfl
theorem w_372 : (Cond.methodLink "CrystalHouseLaw" (32 : Nat) ({ cls := "CrystalHouse", name := "operation", desc := "(II)I" } : MethodName)) ∈ wsG := wc2 132 rfl rfl
theorem w_376 : (Cond.methodLink "CrystalHouse" (128 : Nat) ({ cls := "CrystalHouse$Motion", name := "open", desc := "(I)V" } : MethodName)) ∈ wsG := wc2 136 rfl rfl
theorem w_380 : (Cond.methodLink "CrystalHouse" (131 : Nat) ({ cls := "CrystalHouse$Motion", name := "determinant", desc := "()I" } : MethodName)) ∈ wsG := wc2 140 rfl rfl
theorem w_381 : (Cond.methodLink "CrystalHouse" (134 : Nat) ({ cls := "java/lang/Math", name := "abs", desc := "(I)I" } : MethodName)) ∈ wsG := wc2 141 rfl rfl
theorem w_382 : (Cond.methodLink "CrystalHouseLaw" (37 : Nat) ({ cls := "CrystalHouse", name := "tell", desc := "(I)I" } : MethodName)) ∈ wsG := wc2 142 rfl rfl
theorem w_386 : (Cond.methodLink "CrystalHouse" (139 : Nat) ({ cls := "CrystalHouse$Scribe", name := "write", desc := "(LCrystalHouse$Motion;)I" } : MethodName)) ∈ wsG := wc2 146 rfl rfl
theorem w_390 : (Cond.methodLink "CrystalHouse$Scribe" (125 : Nat) ({ cls := "CrystalHouse$Scribe", name := "writeChar", desc := "(I)V" } : MethodName)) ∈ wsG := wc2 150 rfl rfl
theorem w_394 : (Cond.methodLink "CrystalHouse$Scribe" (128 : Nat) ({ cls := "CrystalHouse$Scribe", name := "writeLetters", desc := "(LCrystalHouse$Motion;I)V" } : MethodName)) ∈ wsG := wc2 154 rfl rfl
theorem w_398 : (Cond.methodLink "CrystalHouse$Scribe" (132 : Nat) ({ cls := "CrystalHouse$Scribe", name := "writeShift", desc := "(I)V" } : MethodName)) ∈ wsG := wc2 158 rfl rfl
theorem w_402 : (Cond.constantLong "CrystalHouse$Scribe" (135 : Nat) (24 : Int64)) ∈ wsG := wc2 162 rfl rfl
theorem w_406 : (Cond.methodLink "CrystalHouse" (469 : Nat) ({ cls := "java/lang/Math", name := "max", desc := "(JJ)J" } : MethodName)) ∈ wsG := wc2 166 rfl rfl
theorem w_409 : (Cond.methodLink "CrystalHouse$Scribe" (141 : Nat) ({ cls := "CrystalHouse$Scribe", name := "writeNumber", desc := "(I)V" } : MethodName)) ∈ wsG := wc2 169 rfl rfl
theorem w_413 : (Cond.methodLink "CrystalHouseLaw" (41 : Nat) ({ cls := "CrystalHouse", name := "tellOf", desc := "(II)I" } : MethodName)) ∈ wsG := wc2 173 rfl rfl
theorem w_417 : (Cond.methodLink "CrystalHouse" (143 : Nat) ({ cls := "CrystalHouse", name := "groupAt", desc := "(I)LCrystalHouse$Group;" } : MethodName)) ∈ wsG := wc2 177 rfl rfl
theorem w_421 : (Cond.methodLink "CrystalHouseLaw" (45 : Nat) ({ cls := "CrystalHouse", name := "letter", desc := "(I)I" } : MethodName)) ∈ wsG := wc2 181 rfl rfl
theorem w_425 : (Cond.methodLink "CrystalHouseLaw" (49 : Nat) ({ cls := "CrystalHouse", name := "choose", desc := "(I)Z" } : MethodName)) ∈ wsG := wc2 185 rfl rfl
theorem w_429 : (Cond.methodLink "CrystalHouseLaw" (54 : Nat) ({ cls := "CrystalHouse", name := "group", desc := "()I" } : MethodName)) ∈ wsG := wc2 189 rfl rfl
theorem w_433 : (Cond.methodLink "CrystalHouse" (163 : Nat) ({ cls := "CrystalHouse$Closure", name := "begin", desc := "()V" } : MethodName)) ∈ wsG := wc2 193 rfl rfl
theorem w_437 : (Cond.methodLink "CrystalHouse$Closure" (44 : Nat) ({ cls := "CrystalHouse$Row", name := "clear", desc := "()V" } : MethodName)) ∈ wsG := wc2 197 rfl rfl
theorem w_441 : (Cond.constant "CrystalHouse$Closure" (47 : Nat) (227874816 : Int32)) ∈ wsG := wc2 201 rfl rfl
theorem w_442 : (Cond.methodLink "CrystalHouse$Closure" (48 : Nat) ({ cls := "CrystalHouse$Row", name := "put", desc := "(I)Z" } : MethodName)) ∈ wsG := wc2 202 rfl rfl
theorem w_446 : (Cond.methodLink "CrystalHouse$Row" (25 : Nat) ({ cls := "CrystalHouse$Row", name := "seat", desc := "(I)I" } : MethodName)) ∈ wsG := wc2 206 rfl rfl
theorem w_450 : (Cond.methodLink "CrystalHouse$Row" (29 : Nat) ({ cls := "java/lang/System", name := "arraycopy", desc := "(Ljava/lang/Object;ILjava/lang/Object;II)V" } : MethodName)) ∈ wsG := wc2 210 rfl rfl
theorem w_451 : (Cond.methodLink "CrystalHouse" (166 : Nat) ({ cls := "CrystalHouse$Closure", name := "take", desc := "(I)Z" } : MethodName)) ∈ wsG := wc2 211 rfl rfl
theorem w_455 : (Cond.methodLink "CrystalHouse$Closure" (52 : Nat) ({ cls := "CrystalHouse$Row", name := "find", desc := "(I)I" } : MethodName)) ∈ wsG := wc2 215 rfl rfl
theorem w_459 : (Cond.methodLink "CrystalHouse$Closure" (59 : Nat) ({ cls := "CrystalHouse$Closure", name := "extend", desc := "(II)Z" } : MethodName)) ∈ wsG := wc2 219 rfl rfl
theorem w_463 : (Cond.methodLink "CrystalHouse$Closure" (63 : Nat) ({ cls := "CrystalHouse$Motion", name := "open", desc := "(I)V" } : MethodName)) ∈ wsG := wc2 223 rfl rfl
theorem w_464 : (Cond.methodLink "CrystalHouse$Closure" (66 : Nat) ({ cls := "CrystalHouse$Motion", name := "join", desc := "(LCrystalHouse$Motion;LCrystalHouse$Motion;)V" } : MethodName)) ∈ wsG := wc2 224 rfl rfl
theorem w_468 : (Cond.methodLink "CrystalHouse$Motion" (32 : Nat) ({ cls := "java/lang/Math", name := "floorMod", desc := "(II)I" } : MethodName)) ∈ wsG := wc2 228 rfl rfl
theorem w_469 : (Cond.methodLink "CrystalHouse$Closure" (70 : Nat) ({ cls := "CrystalHouse$Motion", name := "code", desc := "()I" } : MethodName)) ∈ wsG := wc2 229 rfl rfl
theorem w_470 : (Cond.methodLink "CrystalHouse" (170 : Nat) ({ cls := "CrystalHouse", name := "keepGroup", desc := "()I" } : MethodName)) ∈ wsG := wc2 230 rfl rfl
theorem w_474 : (Cond.methodLink "CrystalHouse" (174 : Nat) ({ cls := "CrystalHouse$Row", name := "sameAs", desc := "(LCrystalHouse$Row;)Z" } : MethodName)) ∈ wsG := wc2 234 rfl rfl
theorem w_479 : (Cond.methodLink "CrystalHouse" (178 : Nat) ({ cls := "CrystalHouse$Group", name := "<init>", desc := "(LCrystalHouse$Closure;)V" } : MethodName)) ∈ wsG := wc2 239 rfl rfl
theorem w_482 : (Cond.methodLink "CrystalHouse$Group" (3 : Nat) ({ cls := "java/lang/Object", name := "<init>", desc := "()V" } : MethodName)) ∈ wsG := wc3 2 rfl rfl
theorem w_483 : (Cond.classLink "CrystalHouse$Group" (22 : Nat) "CrystalHouse$Row") ∈ wsG := wc3 3 rfl rfl
theorem w_484 : (Cond.methodLink "CrystalHouse$Group" (33 : Nat) ({ cls := "CrystalHouse$Row", name := "<init>", desc := "(I)V" } : MethodName)) ∈ wsG := wc3 4 rfl rfl
theorem w_485 : (Cond.methodLink "CrystalHouse$Group" (37 : Nat) ({ cls := "CrystalHouse$Row", name := "copy", desc := "(LCrystalHouse$Row;)V" } : MethodName)) ∈ wsG := wc3 5 rfl rfl
theorem w_489 : (Cond.methodLink "CrystalHouse$Row" (35 : Nat) ({ cls := "java/lang/Math", name := "min", desc := "(II)I" } : MethodName)) ∈ wsG := wc3 9 rfl rfl
theorem w_492 : (Cond.methodLink "CrystalHouse$Group" (47 : Nat) ({ cls := "java/lang/Math", name := "max", desc := "(II)I" } : MethodName)) ∈ wsG := wc3 12 rfl rfl
theorem w_493 : (Cond.methodLink "CrystalHouse$Group" (53 : Nat) ({ cls := "java/util/Arrays", name := "copyOf", desc := "([II)[I" } : MethodName)) ∈ wsG := wc3 13 rfl rfl
theorem w_503 : (Cond.methodLink "java/util/Arrays" (304 : Nat) ({ cls := "java/lang/Math", name := "min", desc := "(II)I" } : MethodName)) ∈ wsG := wc3 23 rfl rfl
theorem w_504 : (Cond.methodLink "java/util/Arrays" (150 : Nat) ({ cls := "java/lang/System", name := "arraycopy", desc := "(Ljava/lang/Object;ILjava/lang/Object;II)V" } : MethodName)) ∈ wsG := wc3 24 rfl rfl
theorem w_505 : (Cond.fieldLink "CrystalHouse$Group" (36 : Nat) "CrystalHouse$Group" "ops" "LCrystalHouse$Row;") ∈ wsG := wc3 25 rfl rfl
theorem w_506 : (Cond.fieldLink "CrystalHouse" (147 : Nat) "CrystalHouse$Group" "ops" "LCrystalHouse$Row;") ∈ wsG := wc3 26 rfl rfl
theorem w_507 : (Cond.fieldLink "CrystalHouse$Group" (59 : Nat) "CrystalHouse$Group" "makers" "[I") ∈ wsG := wc3 27 rfl rfl
theorem w_508 : (Cond.fieldLink "CrystalHouse" (235 : Nat) "CrystalHouse$Group" "makers" "[I") ∈ wsG := wc3 28 rfl rfl
theorem w_509 : (Cond.fieldLink "CrystalHouse$Group" (9 : Nat) "CrystalHouse$Group" "alike" "I") ∈ wsG := wc3 29 rfl rfl
theorem w_510 : (Cond.fieldLink "CrystalHouse" (226 : Nat) "CrystalHouse$Group" "alike" "I") ∈ wsG := wc3 30 rfl rfl
theorem w_511 : (Cond.fieldLink "CrystalHouse$Group" (15 : Nat) "CrystalHouse$Group" "sides" "[I") ∈ wsG := wc3 31 rfl rfl
theorem w_512 : (Cond.fieldLink "CrystalHouse" (264 : Nat) "CrystalHouse$Group" "sides" "[I") ∈ wsG := wc3 32 rfl rfl
theorem w_513 : (Cond.fieldLink "CrystalHouse$Group" (19 : Nat) "CrystalHouse$Group" "sideBits" "I") ∈ wsG := wc3 33 rfl rfl
theorem w_514 : (Cond.fieldLink "CrystalHouse" (261 : Nat) "CrystalHouse$Group" "sideBits" "I") ∈ wsG := wc3 34 rfl rfl
theorem w_526 : (Cond.methodLink "CrystalHouseLaw" (58 : Nat) ({ cls := "CrystalHouse", name := "about", desc := "(II)I" } : MethodName)) ∈ wsG := wc3 46 rfl rfl
theorem w_530 : (Cond.methodLink "CrystalHouse" (181 : Nat) ({ cls := "CrystalHouse$Group", name := "countMatrices", desc := "()I" } : MethodName)) ∈ wsG := wc3 50 rfl rfl
theorem w_534 : (Cond.methodLink "CrystalHouse$Group" (63 : Nat) ({ cls := "CrystalHouse$Group", name := "bringsMatrix", desc := "(I)Z" } : MethodName)) ∈ wsG := wc3 54 rfl rfl
theorem w_538 : (Cond.methodLink "CrystalHouse" (184 : Nat) ({ cls := "CrystalHouse$Group", name := "countCentrings", desc := "()I" } : MethodName)) ∈ wsG := wc3 58 rfl rfl
theorem w_542 : (Cond.constant "CrystalHouse$Group" (67 : Nat) (227888640 : Int32)) ∈ wsG := wc3 62 rfl rfl
theorem w_543 : (Cond.methodLink "CrystalHouse$Group" (68 : Nat) ({ cls := "CrystalHouse$Row", name := "seat", desc := "(I)I" } : MethodName)) ∈ wsG := wc3 63 rfl rfl
theorem w_544 : (Cond.constant "CrystalHouse$Group" (72 : Nat) (227874816 : Int32)) ∈ wsG := wc3 64 rfl rfl
theorem w_545 : (Cond.methodLink "CrystalHouse" (187 : Nat) ({ cls := "CrystalHouse$Group", name := "centringLetter", desc := "()I" } : MethodName)) ∈ wsG := wc3 65 rfl rfl
theorem w_549 : (Cond.methodLink "CrystalHouse$Group" (76 : Nat) ({ cls := "CrystalHouse$Group", name := "countCentrings", desc := "()I" } : MethodName)) ∈ wsG := wc3 69 rfl rfl
theorem w_550 : (Cond.methodLink "CrystalHouse$Group" (80 : Nat) ({ cls := "CrystalHouse$Group", name := "letterOfTwo", desc := "()I" } : MethodName)) ∈ wsG := wc3 70 rfl rfl
theorem w_554 : (Cond.methodLink "CrystalHouse$Group" (83 : Nat) ({ cls := "CrystalHouse$Group", name := "hasCentring", desc := "(I)Z" } : MethodName)) ∈ wsG := wc3 74 rfl rfl
theorem w_558 : (Cond.methodLink "CrystalHouse$Group" (73 : Nat) ({ cls := "CrystalHouse$Row", name := "find", desc := "(I)I" } : MethodName)) ∈ wsG := wc3 78 rfl rfl
theorem w_559 : (Cond.methodLink "CrystalHouse" (190 : Nat) ({ cls := "CrystalHouse", name := "classOf", desc := "(LCrystalHouse$Group;)I" } : MethodName)) ∈ wsG := wc3 79 rfl rfl
theorem w_563 : (Cond.methodLink "CrystalHouse" (200 : Nat) ({ cls := "CrystalHouse$Group", name := "bringsMatrix", desc := "(I)Z" } : MethodName)) ∈ wsG := wc3 83 rfl rfl
theorem w_564 : (Cond.methodLink "CrystalHouse" (203 : Nat) ({ cls := "CrystalHouse$Motion", name := "sort", desc := "()I" } : MethodName)) ∈ wsG := wc3 84 rfl rfl
theorem w_568 : (Cond.methodLink "CrystalHouse$Motion" (28 : Nat) ({ cls := "CrystalHouse$Motion", name := "determinant", desc := "()I" } : MethodName)) ∈ wsG := wc3 88 rfl rfl
theorem w_569 : (Cond.methodLink "CrystalHouse" (206 : Nat) ({ cls := "CrystalHouse", name := "keyOfSort", desc := "(I)I" } : MethodName)) ∈ wsG := wc3 89 rfl rfl
theorem w_572 : (Cond.constant "CrystalHouse" (212 : Nat) (100000000 : Int32)) ∈ wsG := wc3 92 rfl rfl
theorem w_573 : (Cond.constant "CrystalHouse" (213 : Nat) (10000000 : Int32)) ∈ wsG := wc3 93 rfl rfl
theorem w_574 : (Cond.constant "CrystalHouse" (214 : Nat) (1000000 : Int32)) ∈ wsG := wc3 94 rfl rfl
theorem w_575 : (Cond.constant "CrystalHouse" (215 : Nat) (100000 : Int32)) ∈ wsG := wc3 95 rfl rfl
theorem w_576 : (Cond.methodLink "CrystalHouse" (209 : Nat) ({ cls := "CrystalHouse", name := "classOfKey", desc := "(I)I" } : MethodName)) ∈ wsG := wc3 96 rfl rfl
theorem w_579 : (Cond.fieldLink "CrystalHouse" (216 : Nat) "CrystalHouse" "CLASS_KEYS" "[I") ∈ wsG := wc3 99 rfl rfl
theorem w_581 : (Cond.methodLink "CrystalHouse" (194 : Nat) ({ cls := "CrystalHouse", name := "countAlike", desc := "(LCrystalHouse$Group;)I" } : MethodName)) ∈ wsG := wc3 101 rfl rfl
theorem w_585 : (Cond.methodLink "CrystalHouse" (229 : Nat) ({ cls := "java/util/Arrays", name := "fill", desc := "([II)V" } : MethodName)) ∈ wsG := wc3 105 rfl rfl
theorem w_586 : (Cond.methodLink "CrystalHouse" (238 : Nat) ({ cls := "CrystalHouse", name := "inversesOf", desc := "([I)[I" } : MethodName)) ∈ wsG := wc3 106 rfl rfl
theorem w_590 : (Cond.methodLink "CrystalHouse" (253 : Nat) ({ cls := "CrystalHouse", name := "inverseOf", desc := "(I)I" } : MethodName)) ∈ wsG := wc3 110 rfl rfl
theorem w_594 : (Cond.constant "CrystalHouse" (256 : Nat) (227874816 : Int32)) ∈ wsG := wc3 114 rfl rfl
theorem w_595 : (Cond.methodLink "CrystalHouse" (246 : Nat) ({ cls := "CrystalHouse", name := "joined", desc := "(II)I" } : MethodName)) ∈ wsG := wc3 115 rfl rfl
theorem w_599 : (Cond.methodLink "CrystalHouse" (219 : Nat) ({ cls := "CrystalHouse$Motion", name := "join", desc := "(LCrystalHouse$Motion;LCrystalHouse$Motion;)V" } : MethodName)) ∈ wsG := wc3 119 rfl rfl
theorem w_600 : (Cond.methodLink "CrystalHouse" (223 : Nat) ({ cls := "CrystalHouse$Motion", name := "code", desc := "()I" } : MethodName)) ∈ wsG := wc3 120 rfl rfl
theorem w_601 : (Cond.methodLink "CrystalHouse" (242 : Nat) ({ cls := "CrystalHouse", name := "markAlike", desc := "(LCrystalHouse$Group;[II)V" } : MethodName)) ∈ wsG := wc3 121 rfl rfl
theorem w_605 : (Cond.methodLink "CrystalHouse" (250 : Nat) ({ cls := "CrystalHouse$Row", name := "find", desc := "(I)I" } : MethodName)) ∈ wsG := wc3 125 rfl rfl
theorem w_606 : (Cond.methodLink "CrystalHouse" (197 : Nat) ({ cls := "CrystalHouse", name := "countHalves", desc := "(LCrystalHouse$Group;)I" } : MethodName)) ∈ wsG := wc3 126 rfl rfl
theorem w_610 : (Cond.methodLink "CrystalHouse" (257 : Nat) ({ cls := "CrystalHouse", name := "sidesOf", desc := "(LCrystalHouse$Group;)[I" } : MethodName)) ∈ wsG := wc3 130 rfl rfl
theorem w_614 : (Cond.methodLink "CrystalHouse" (267 : Nat) ({ cls := "CrystalHouse", name := "beginWithSquares", desc := "(LCrystalHouse$Group;[I)I" } : MethodName)) ∈ wsG := wc3 134 rfl rfl
theorem w_618 : (Cond.methodLink "CrystalHouse" (271 : Nat) ({ cls := "CrystalHouse", name := "spread", desc := "(LCrystalHouse$Group;[III)I" } : MethodName)) ∈ wsG := wc3 138 rfl rfl
theorem w_622 : (Cond.methodLink "CrystalHouseLaw" (62 : Nat) ({ cls := "CrystalHouse", name := "of", desc := "(III)I" } : MethodName)) ∈ wsG := wc3 142 rfl rfl
theorem w_626 : (Cond.methodLink "CrystalHouse" (275 : Nat) ({ cls := "CrystalHouse", name := "timesUntilSame", desc := "(I)I" } : MethodName)) ∈ wsG := wc3 146 rfl rfl
theorem w_630 : (Cond.methodLink "CrystalHouseLaw" (67 : Nat) ({ cls := "CrystalHouse", name := "product", desc := "(III)I" } : MethodName)) ∈ wsG := wc3 150 rfl rfl
theorem w_634 : (Cond.methodLink "CrystalHouseLaw" (71 : Nat) ({ cls := "CrystalHouse", name := "half", desc := "(II)I" } : MethodName)) ∈ wsG := wc3 154 rfl rfl
theorem w_638 : (Cond.methodLink "CrystalHouse" (278 : Nat) ({ cls := "java/lang/Integer", name := "bitCount", desc := "(I)I" } : MethodName)) ∈ wsG := wc3 158 rfl rfl
theorem w_641 : (Cond.constant "java/lang/Integer" (265 : Nat) (1431655765 : Int32)) ∈ wsG := wc3 161 rfl rfl
theorem w_642 : (Cond.constant "java/lang/Integer" (266 : Nat) (858993459 : Int32)) ∈ wsG := wc3 162 rfl rfl
theorem w_643 : (Cond.constant "java/lang/Integer" (267 : Nat) (252645135 : Int32)) ∈ wsG := wc3 163 rfl rfl
theorem w_644 : (Cond.methodLink "CrystalHouseLaw" (75 : Nat) ({ cls := "CrystalHouse", name := "within", desc := "(II)Z" } : MethodName)) ∈ wsG := wc3 164 rfl rfl
theorem w_648 : (Cond.methodLink "CrystalHouseLaw" (80 : Nat) ({ cls := "CrystalHouse", name := "orbit", desc := "(III)I" } : MethodName)) ∈ wsG := wc3 168 rfl rfl
theorem w_652 : (Cond.methodLink "CrystalHouse" (283 : Nat) ({ cls := "CrystalHouse", name := "keepersOf", desc := "(LCrystalHouse$Group;IZ)I" } : MethodName)) ∈ wsG := wc3 172 rfl rfl
theorem w_656 : (Cond.methodLink "CrystalHouse" (294 : Nat) ({ cls := "CrystalHouse$Motion", name := "move", desc := "(I)I" } : MethodName)) ∈ wsG := wc3 176 rfl rfl
theorem w_660 : (Cond.methodLink "CrystalHouse" (287 : Nat) ({ cls := "CrystalHouse", name := "gatherOrbit", desc := "(LCrystalHouse$Group;I)V" } : MethodName)) ∈ wsG := wc3 180 rfl rfl
theorem w_664 : (Cond.methodLink "CrystalHouse" (291 : Nat) ({ cls := "CrystalHouse$Row", name := "clear", desc := "()V" } : MethodName)) ∈ wsG := wc3 184 rfl rfl
theorem w_665 : (Cond.methodLink "CrystalHouse" (297 : Nat) ({ cls := "CrystalHouse$Row", name := "put", desc := "(I)Z" } : MethodName)) ∈ wsG := wc3 185 rfl rfl
theorem w_666 : (Cond.methodLink "CrystalHouseLaw" (84 : Nat) ({ cls := "CrystalHouse", name := "wave", desc := "(IIIII)I" } : MethodName)) ∈ wsG := wc3 186 rfl rfl
theorem w_670 : (Cond.methodLink "CrystalHouse" (300 : Nat) ({ cls := "CrystalHouse", name := "isWave", desc := "(III)Z" } : MethodName)) ∈ wsG := wc3 190 rfl rfl
theorem w_673 : (Cond.methodLink "CrystalHouse" (304 : Nat) ({ cls := "CrystalHouse", name := "waveCode", desc := "(III)I" } : MethodName)) ∈ wsG := wc3 193 rfl rfl
theorem w_676 : (Cond.methodLink "CrystalHouse" (308 : Nat) ({ cls := "CrystalHouse$Motion", name := "column", desc := "(IIII)I" } : MethodName)) ∈ wsG := wc3 196 rfl rfl
theorem w_680 : (Cond.methodLink "CrystalHouse" (312 : Nat) ({ cls := "CrystalHouse$Motion", name := "turn", desc := "(III)I" } : MethodName)) ∈ wsG := wc3 200 rfl rfl
theorem w_684 : (Cond.methodLink "CrystalHouseLaw" (89 : Nat) ({ cls := "CrystalHouse", name := "cell", desc := "(IIIIII)I" } : MethodName)) ∈ wsG := wc3 204 rfl rfl
theorem w_688 : (Cond.methodLink "CrystalHouse" (315 : Nat) ({ cls := "CrystalHouse", name := "isSquare", desc := "(I)Z" } : MethodName)) ∈ wsG := wc3 208 rfl rfl
theorem w_691 : (Cond.methodLink "CrystalHouse" (318 : Nat) ({ cls := "CrystalHouse", name := "isMixed", desc := "(I)Z" } : MethodName)) ∈ wsG := wc3 211 rfl rfl
theorem w_694 : (Cond.methodLink "CrystalHouse" (321 : Nat) ({ cls := "CrystalHouse$Form", name := "determinantOf", desc := "(JJJJJJ)J" } : MethodName)) ∈ wsG := wc3 214 rfl rfl
theorem w_701 : (Cond.methodLink "CrystalHouse$Cell" (3 : Nat) ({ cls := "java/lang/Object", name := "<init>", desc := "()V" } : MethodName)) ∈ wsG := wc3 221 rfl rfl
theorem w_702 : (Cond.classLink "CrystalHouse$Cell" (9 : Nat) "CrystalHouse$Form") ∈ wsG := wc3 222 rfl rfl
theorem w_707 : (Cond.methodLink "CrystalHouse$Form" (1 : Nat) ({ cls := "java/lang/Object", name := "<init>", desc := "()V" } : MethodName)) ∈ wsG := wc3 227 rfl rfl
theorem w_708 : (Cond.fieldLink "CrystalHouse$Form" (7 : Nat) "CrystalHouse$Form" "a" "J") ∈ wsG := wc3 228 rfl rfl
theorem w_709 : (Cond.fieldLink "CrystalHouse$Cell" (46 : Nat) "CrystalHouse$Form" "a" "J") ∈ wsG := wc3 229 rfl rfl
theorem w_710 : (Cond.fieldLink "CrystalHouse$Lines" (92 : Nat) "CrystalHouse$Form" "a" "J") ∈ wsG := wc3 230 rfl rfl
theorem w_711 : (Cond.fieldLink "CrystalHouse$Form" (13 : Nat) "CrystalHouse$Form" "b" "J") ∈ wsG := wc3 231 rfl rfl
theorem w_712 : (Cond.fieldLink "CrystalHouse$Cell" (54 : Nat) "CrystalHouse$Form" "b" "J") ∈ wsG := wc3 232 rfl rfl
theorem w_713 : (Cond.fieldLink "CrystalHouse$Lines" (86 : Nat) "CrystalHouse$Form" "b" "J") ∈ wsG := wc3 233 rfl rfl
theorem w_714 : (Cond.fieldLink "CrystalHouse$Form" (16 : Nat) "CrystalHouse$Form" "c" "J") ∈ wsG := wc3 234 rfl rfl
theorem w_715 : (Cond.fieldLink "CrystalHouse$Cell" (64 : Nat) "CrystalHouse$Form" "c" "J") ∈ wsG := wc3 235 rfl rfl
theorem w_716 : (Cond.fieldLink "CrystalHouse$Lines" (89 : Nat) "CrystalHouse$Form" "c" "J") ∈ wsG := wc3 236 rfl rfl
theorem w_717 : (Cond.fieldLink "CrystalHouse$Form" (19 : Nat) "CrystalHouse$Form" "x" "J") ∈ wsG := wc3 237 rfl rfl
theorem w_718 : (Cond.fieldLink "CrystalHouse$Cell" (70 : Nat) "CrystalHouse$Form" "x" "J") ∈ wsG := wc3 238 rfl rfl
theorem w_719 : (Cond.fieldLink "CrystalHouse$Lines" (73 : Nat) "CrystalHouse$Form" "x" "J") ∈ wsG := wc3 239 rfl rfl
theorem w_720 : (Cond.fieldLink "CrystalHouse$Form" (22 : Nat) "CrystalHouse$Form" "y" "J") ∈ wsG := wc4 0 rfl rfl
theorem w_721 : (Cond.fieldLink "CrystalHouse$Cell" (67 : Nat) "CrystalHouse$Form" "y" "J") ∈ wsG := wc4 1 rfl rfl
theorem w_722 : (Cond.fieldLink "CrystalHouse$Lines" (79 : Nat) "CrystalHouse$Form" "y" "J") ∈ wsG := wc4 2 rfl rfl
theorem w_723 : (Cond.fieldLink "CrystalHouse$Form" (25 : Nat) "CrystalHouse$Form" "z" "J") ∈ wsG := wc4 3 rfl rfl
theorem w_724 : (Cond.fieldLink "CrystalHouse$Cell" (61 : Nat) "CrystalHouse$Form" "z" "J") ∈ wsG := wc4 4 rfl rfl
theorem w_725 : (Cond.fieldLink "CrystalHouse$Lines" (82 : Nat) "CrystalHouse$Form" "z" "J") ∈ wsG := wc4 5 rfl rfl
theorem w_739 : (Cond.classLink "CrystalHouse$Cell" (24 : Nat) "[J") ∈ wsG := wc4 19 rfl rfl
theorem w_741 : (Cond.fieldLink "CrystalHouse$Cell" (12 : Nat) "CrystalHouse$Cell" "told" "LCrystalHouse$Form;") ∈ wsG := wc4 21 rfl rfl
theorem w_742 : (Cond.fieldLink "CrystalHouse" (328 : Nat) "CrystalHouse$Cell" "told" "LCrystalHouse$Form;") ∈ wsG := wc4 22 rfl rfl
theorem w_743 : (Cond.fieldLink "CrystalHouse$Cell" (18 : Nat) "CrystalHouse$Cell" "low" "LCrystalHouse$Form;") ∈ wsG := wc4 23 rfl rfl
theorem w_744 : (Cond.fieldLink "CrystalHouse" (336 : Nat) "CrystalHouse$Cell" "low" "LCrystalHouse$Form;") ∈ wsG := wc4 24 rfl rfl
theorem w_745 : (Cond.fieldLink "CrystalHouse$Cell" (21 : Nat) "CrystalHouse$Cell" "made" "LCrystalHouse$Form;") ∈ wsG := wc4 25 rfl rfl
theorem w_746 : (Cond.fieldLink "CrystalHouse$Cell" (26 : Nat) "CrystalHouse$Cell" "rows" "[[J") ∈ wsG := wc4 26 rfl rfl
theorem w_747 : (Cond.fieldLink "CrystalHouse" (373 : Nat) "CrystalHouse$Cell" "rows" "[[J") ∈ wsG := wc4 27 rfl rfl
theorem w_748 : (Cond.fieldLink "CrystalHouse$Cell" (30 : Nat) "CrystalHouse$Cell" "counts" "[I") ∈ wsG := wc4 28 rfl rfl
theorem w_749 : (Cond.fieldLink "CrystalHouse$Cell" (34 : Nat) "CrystalHouse$Cell" "keeping" "I") ∈ wsG := wc4 29 rfl rfl
theorem w_763 : (Cond.methodLink "CrystalHouse" (332 : Nat) ({ cls := "CrystalHouse$Form", name := "set", desc := "(JJJJJJ)V" } : MethodName)) ∈ wsG := wc4 43 rfl rfl
theorem w_767 : (Cond.methodLink "CrystalHouse" (339 : Nat) ({ cls := "CrystalHouse$Form", name := "copy", desc := "(LCrystalHouse$Form;)V" } : MethodName)) ∈ wsG := wc4 47 rfl rfl
theorem w_771 : (Cond.methodLink "CrystalHouse$Form" (28 : Nat) ({ cls := "CrystalHouse$Form", name := "set", desc := "(JJJJJJ)V" } : MethodName)) ∈ wsG := wc4 51 rfl rfl
theorem w_772 : (Cond.methodLink "CrystalHouse" (343 : Nat) ({ cls := "CrystalHouse$Form", name := "reduce", desc := "()V" } : MethodName)) ∈ wsG := wc4 52 rfl rfl
theorem w_776 : (Cond.constant "CrystalHouse$Form" (45 : Nat) (1000000 : Int32)) ∈ wsG := wc4 56 rfl rfl
theorem w_777 : (Cond.methodLink "CrystalHouse$Form" (46 : Nat) ({ cls := "CrystalHouse$Form", name := "swapFirst", desc := "()V" } : MethodName)) ∈ wsG := wc4 57 rfl rfl
theorem w_781 : (Cond.methodLink "CrystalHouse$Form" (68 : Nat) ({ cls := "java/lang/Math", name := "abs", desc := "(J)J" } : MethodName)) ∈ wsG := wc4 61 rfl rfl
theorem w_784 : (Cond.methodLink "CrystalHouse$Form" (49 : Nat) ({ cls := "CrystalHouse$Form", name := "swapLast", desc := "()Z" } : MethodName)) ∈ wsG := wc4 64 rfl rfl
theorem w_788 : (Cond.methodLink "CrystalHouse$Form" (53 : Nat) ({ cls := "CrystalHouse$Form", name := "alignSigns", desc := "()V" } : MethodName)) ∈ wsG := wc4 68 rfl rfl
theorem w_792 : (Cond.constantLong "CrystalHouse$Form" (74 : Nat) (-1 : Int64)) ∈ wsG := wc4 72 rfl rfl
theorem w_793 : (Cond.methodLink "CrystalHouse$Form" (56 : Nat) ({ cls := "CrystalHouse$Form", name := "lessenX", desc := "()Z" } : MethodName)) ∈ wsG := wc4 73 rfl rfl
theorem w_797 : (Cond.constantLong "CrystalHouse$Form" (32 : Nat) (2 : Int64)) ∈ wsG := wc4 77 rfl rfl
theorem w_798 : (Cond.methodLink "CrystalHouse$Form" (59 : Nat) ({ cls := "CrystalHouse$Form", name := "lessenY", desc := "()Z" } : MethodName)) ∈ wsG := wc4 78 rfl rfl
theorem w_802 : (Cond.methodLink "CrystalHouse$Form" (62 : Nat) ({ cls := "CrystalHouse$Form", name := "lessenZ", desc := "()Z" } : MethodName)) ∈ wsG := wc4 82 rfl rfl
theorem w_806 : (Cond.methodLink "CrystalHouse$Form" (65 : Nat) ({ cls := "CrystalHouse$Form", name := "lessenSum", desc := "()Z" } : MethodName)) ∈ wsG := wc4 86 rfl rfl
theorem w_810 : (Cond.methodLink "CrystalHouseLaw" (94 : Nat) ({ cls := "CrystalHouse", name := "reduced", desc := "(II)J" } : MethodName)) ∈ wsG := wc4 90 rfl rfl
theorem w_814 : (Cond.methodLink "CrystalHouse" (346 : Nat) ({ cls := "CrystalHouse", name := "cellAt", desc := "(I)LCrystalHouse$Cell;" } : MethodName)) ∈ wsG := wc4 94 rfl rfl
theorem w_818 : (Cond.methodLink "CrystalHouse" (350 : Nat) ({ cls := "CrystalHouse$Cell", name := "countKeeping", desc := "()I" } : MethodName)) ∈ wsG := wc4 98 rfl rfl
theorem w_825 : (Cond.methodLink "CrystalHouse" (473 : Nat) ({ cls := "java/lang/Math", name := "max", desc := "(II)I" } : MethodName)) ∈ wsG := wc4 105 rfl rfl
theorem w_826 : (Cond.methodLink "CrystalHouse$Cell" (42 : Nat) ({ cls := "CrystalHouse$Form", name := "square", desc := "(JJJ)J" } : MethodName)) ∈ wsG := wc4 106 rfl rfl
theorem w_830 : (Cond.methodLink "CrystalHouse$Cell" (50 : Nat) ({ cls := "CrystalHouse$Cell", name := "countKeepingWith", desc := "(I)I" } : MethodName)) ∈ wsG := wc4 110 rfl rfl
theorem w_834 : (Cond.methodLink "CrystalHouse$Cell" (57 : Nat) ({ cls := "CrystalHouse$Cell", name := "twiceOf", desc := "(II)J" } : MethodName)) ∈ wsG := wc4 114 rfl rfl
theorem w_838 : (Cond.methodLink "CrystalHouse$Cell" (73 : Nat) ({ cls := "CrystalHouse$Form", name := "twice", desc := "(JJJJJJ)J" } : MethodName)) ∈ wsG := wc4 118 rfl rfl
theorem w_842 : (Cond.methodLink "CrystalHouse" (353 : Nat) ({ cls := "CrystalHouse$Form", name := "determinant", desc := "()J" } : MethodName)) ∈ wsG := wc4 122 rfl rfl
theorem w_846 : (Cond.methodLink "CrystalHouse$Form" (34 : Nat) ({ cls := "CrystalHouse$Form", name := "determinantOf", desc := "(JJJJJJ)J" } : MethodName)) ∈ wsG := wc4 126 rfl rfl
theorem w_847 : (Cond.methodLink "CrystalHouse" (356 : Nat) ({ cls := "CrystalHouse$Form", name := "number", desc := "(I)J" } : MethodName)) ∈ wsG := wc4 127 rfl rfl
theorem w_851 : (Cond.methodLink "CrystalHouseLaw" (99 : Nat) ({ cls := "CrystalHouse", name := "fits", desc := "(II)Z" } : MethodName)) ∈ wsG := wc4 131 rfl rfl
theorem w_855 : (Cond.methodLink "CrystalHouse" (360 : Nat) ({ cls := "CrystalHouse", name := "keptBy", desc := "(LCrystalHouse$Group;LCrystalHouse$Cell;)Z" } : MethodName)) ∈ wsG := wc4 135 rfl rfl
theorem w_859 : (Cond.methodLink "CrystalHouse" (367 : Nat) ({ cls := "CrystalHouse$Form", name := "keptBy", desc := "([I)Z" } : MethodName)) ∈ wsG := wc4 139 rfl rfl
theorem w_863 : (Cond.methodLink "CrystalHouse$Form" (38 : Nat) ({ cls := "CrystalHouse$Form", name := "square", desc := "(JJJ)J" } : MethodName)) ∈ wsG := wc4 143 rfl rfl
theorem w_864 : (Cond.methodLink "CrystalHouse$Form" (42 : Nat) ({ cls := "CrystalHouse$Form", name := "twice", desc := "(JJJJJJ)J" } : MethodName)) ∈ wsG := wc4 144 rfl rfl
theorem w_865 : (Cond.methodLink "CrystalHouseLaw" (103 : Nat) ({ cls := "CrystalHouse", name := "multiples", desc := "(II)I" } : MethodName)) ∈ wsG := wc4 145 rfl rfl
theorem w_869 : (Cond.methodLink "CrystalHouse" (370 : Nat) ({ cls := "CrystalHouse$Cell", name := "countMultiples", desc := "(I)I" } : MethodName)) ∈ wsG := wc4 149 rfl rfl
theorem w_875 : (Cond.methodLink "CrystalHouse$Cell" (80 : Nat) ({ cls := "CrystalHouse$Cell", name := "gatherMultiples", desc := "([JIIII)I" } : MethodName)) ∈ wsG := wc4 155 rfl rfl
theorem w_879 : (Cond.methodLink "CrystalHouse$Cell" (84 : Nat) ({ cls := "CrystalHouse$Form", name := "set", desc := "(JJJJJJ)V" } : MethodName)) ∈ wsG := wc4 159 rfl rfl
theorem w_880 : (Cond.methodLink "CrystalHouse$Cell" (88 : Nat) ({ cls := "CrystalHouse$Form", name := "reduce", desc := "()V" } : MethodName)) ∈ wsG := wc4 160 rfl rfl
theorem w_881 : (Cond.methodLink "CrystalHouse$Cell" (91 : Nat) ({ cls := "CrystalHouse$Cell", name := "putMade", desc := "([JI)I" } : MethodName)) ∈ wsG := wc4 161 rfl rfl
theorem w_885 : (Cond.methodLink "CrystalHouse$Cell" (95 : Nat) ({ cls := "CrystalHouse$Cell", name := "seatOfMade", desc := "([JI)I" } : MethodName)) ∈ wsG := wc4 165 rfl rfl
theorem w_889 : (Cond.methodLink "CrystalHouse$Cell" (98 : Nat) ({ cls := "CrystalHouse$Cell", name := "compareMade", desc := "([JI)I" } : MethodName)) ∈ wsG := wc4 169 rfl rfl
theorem w_893 : (Cond.methodLink "CrystalHouse$Cell" (107 : Nat) ({ cls := "CrystalHouse$Form", name := "number", desc := "(I)J" } : MethodName)) ∈ wsG := wc4 173 rfl rfl
theorem w_894 : (Cond.methodLink "CrystalHouse$Cell" (111 : Nat) ({ cls := "java/lang/Long", name := "compare", desc := "(JJ)I" } : MethodName)) ∈ wsG := wc4 174 rfl rfl
theorem w_897 : (Cond.methodLink "CrystalHouse$Cell" (101 : Nat) ({ cls := "java/lang/System", name := "arraycopy", desc := "(Ljava/lang/Object;ILjava/lang/Object;II)V" } : MethodName)) ∈ wsG := wc4 177 rfl rfl
theorem w_898 : (Cond.methodLink "CrystalHouseLaw" (107 : Nat) ({ cls := "CrystalHouse", name := "multiple", desc := "(IIII)J" } : MethodName)) ∈ wsG := wc4 178 rfl rfl
theorem w_902 : (Cond.methodLink "CrystalHouseLaw" (112 : Nat) ({ cls := "CrystalHouse", name := "model", desc := "(II)I" } : MethodName)) ∈ wsG := wc4 182 rfl rfl
theorem w_907 : (Cond.methodLink "CrystalHouse" (377 : Nat) ({ cls := "CrystalHouse$Model", name := "<init>", desc := "(LCrystalHouse$Group;LCrystalHouse$Form;)V" } : MethodName)) ∈ wsG := wc4 187 rfl rfl
theorem w_910 : (Cond.methodLink "CrystalHouse$Model" (3 : Nat) ({ cls := "java/lang/Object", name := "<init>", desc := "()V" } : MethodName)) ∈ wsG := wc4 190 rfl rfl
theorem w_911 : (Cond.classLink "CrystalHouse$Model" (28 : Nat) "CrystalHouse$Row") ∈ wsG := wc4 191 rfl rfl
theorem w_912 : (Cond.methodLink "CrystalHouse$Model" (30 : Nat) ({ cls := "CrystalHouse$Row", name := "<init>", desc := "(I)V" } : MethodName)) ∈ wsG := wc4 192 rfl rfl
theorem w_913 : (Cond.classLink "CrystalHouse$Model" (37 : Nat) "CrystalHouse$Lines") ∈ wsG := wc4 193 rfl rfl
theorem w_915 : (Cond.fieldLink "CrystalHouse$Model" (43 : Nat) "CrystalHouse$Model" "symmetry" "LCrystalHouse$Group;") ∈ wsG := wc4 195 rfl rfl
theorem w_916 : (Cond.fieldLink "CrystalHouse" (384 : Nat) "CrystalHouse$Model" "symmetry" "LCrystalHouse$Group;") ∈ wsG := wc4 196 rfl rfl
theorem w_917 : (Cond.fieldLink "CrystalHouse$Model" (47 : Nat) "CrystalHouse$Model" "metric" "LCrystalHouse$Form;") ∈ wsG := wc4 197 rfl rfl
theorem w_918 : (Cond.fieldLink "CrystalHouse$Lines" (42 : Nat) "CrystalHouse$Model" "metric" "LCrystalHouse$Form;") ∈ wsG := wc4 198 rfl rfl
theorem w_919 : (Cond.fieldLink "CrystalHouse$Model" (9 : Nat) "CrystalHouse$Model" "spots" "[I") ∈ wsG := wc4 199 rfl rfl
theorem w_920 : (Cond.fieldLink "CrystalHouse$Wave" (37 : Nat) "CrystalHouse$Model" "spots" "[I") ∈ wsG := wc4 200 rfl rfl
theorem w_921 : (Cond.fieldLink "CrystalHouse$Model" (15 : Nat) "CrystalHouse$Model" "owners" "[I") ∈ wsG := wc4 201 rfl rfl
theorem w_922 : (Cond.fieldLink "CrystalHouse" (402 : Nat) "CrystalHouse$Model" "owners" "[I") ∈ wsG := wc4 202 rfl rfl
theorem w_923 : (Cond.fieldLink "CrystalHouse$Model" (18 : Nat) "CrystalHouse$Model" "count" "I") ∈ wsG := wc4 203 rfl rfl
theorem w_924 : (Cond.fieldLink "CrystalHouse$Wave" (31 : Nat) "CrystalHouse$Model" "count" "I") ∈ wsG := wc4 204 rfl rfl
theorem w_925 : (Cond.fieldLink "CrystalHouse" (392 : Nat) "CrystalHouse$Model" "count" "I") ∈ wsG := wc4 205 rfl rfl
theorem w_926 : (Cond.fieldLink "CrystalHouse$Model" (22 : Nat) "CrystalHouse$Model" "weights" "[I") ∈ wsG := wc4 206 rfl rfl
theorem w_927 : (Cond.fieldLink "CrystalHouse$Model" (25 : Nat) "CrystalHouse$Model" "told" "I") ∈ wsG := wc4 207 rfl rfl
theorem w_928 : (Cond.fieldLink "CrystalHouse$Lines" (33 : Nat) "CrystalHouse$Model" "told" "I") ∈ wsG := wc4 208 rfl rfl
theorem w_929 : (Cond.fieldLink "CrystalHouse$Model" (33 : Nat) "CrystalHouse$Model" "taken" "LCrystalHouse$Row;") ∈ wsG := wc4 209 rfl rfl
theorem w_930 : (Cond.fieldLink "CrystalHouse$Model" (39 : Nat) "CrystalHouse$Model" "spectra" "[LCrystalHouse$Lines;") ∈ wsG := wc4 210 rfl rfl
theorem w_931 : (Cond.fieldLink "CrystalHouse" (439 : Nat) "CrystalHouse$Model" "spectra" "[LCrystalHouse$Lines;") ∈ wsG := wc4 211 rfl rfl
theorem w_951 : (Cond.methodLink "CrystalHouseLaw" (116 : Nat) ({ cls := "CrystalHouse", name := "atom", desc := "(III)I" } : MethodName)) ∈ wsG := wc4 231 rfl rfl
theorem w_955 : (Cond.methodLink "CrystalHouse" (380 : Nat) ({ cls := "CrystalHouse", name := "modelAt", desc := "(I)LCrystalHouse$Model;" } : MethodName)) ∈ wsG := wc4 235 rfl rfl
theorem w_959 : (Cond.methodLink "CrystalHouse" (388 : Nat) ({ cls := "CrystalHouse$Model", name := "settle", desc := "(ILCrystalHouse$Row;)Z" } : MethodName)) ∈ wsG := wc4 239 rfl rfl
theorem w_963 : (Cond.methodLink "CrystalHouse$Model" (59 : Nat) ({ cls := "CrystalHouse$Model", name := "atomAt", desc := "(I)I" } : MethodName)) ∈ wsG := wc5 3 rfl rfl
theorem w_967 : (Cond.methodLink "CrystalHouse$Model" (51 : Nat) ({ cls := "CrystalHouse$Row", name := "seat", desc := "(I)I" } : MethodName)) ∈ wsG := wc5 7 rfl rfl
theorem w_968 : (Cond.methodLink "CrystalHouse$Model" (62 : Nat) ({ cls := "CrystalHouse$Model", name := "put", desc := "(I)V" } : MethodName)) ∈ wsG := wc5 8 rfl rfl
theorem w_972 : (Cond.methodLink "CrystalHouse$Model" (65 : Nat) ({ cls := "CrystalHouse$Row", name := "put", desc := "(I)Z" } : MethodName)) ∈ wsG := wc5 12 rfl rfl
theorem w_973 : (Cond.methodLink "CrystalHouseLaw" (120 : Nat) ({ cls := "CrystalHouse", name := "placed", desc := "(III)I" } : MethodName)) ∈ wsG := wc5 13 rfl rfl
theorem w_977 : (Cond.methodLink "CrystalHouse" (393 : Nat) ({ cls := "CrystalHouse$Model", name := "holds", desc := "(I)Z" } : MethodName)) ∈ wsG := wc5 17 rfl rfl
theorem w_981 : (Cond.methodLink "CrystalHouse" (396 : Nat) ({ cls := "CrystalHouse$Model", name := "placeOf", desc := "(I)I" } : MethodName)) ∈ wsG := wc5 21 rfl rfl
theorem w_985 : (Cond.methodLink "CrystalHouse" (399 : Nat) ({ cls := "CrystalHouse$Model", name := "weightOf", desc := "(I)I" } : MethodName)) ∈ wsG := wc5 25 rfl rfl
theorem w_989 : (Cond.methodLink "CrystalHouseLaw" (124 : Nat) ({ cls := "CrystalHouse", name := "amplitude", desc := "(IIIII)J" } : MethodName)) ∈ wsG := wc5 29 rfl rfl
theorem w_993 : (Cond.methodLink "CrystalHouse" (405 : Nat) ({ cls := "CrystalHouse$Wave", name := "sum", desc := "(LCrystalHouse$Model;III)V" } : MethodName)) ∈ wsG := wc5 33 rfl rfl
theorem w_997 : (Cond.methodLink "CrystalHouse$Wave" (25 : Nat) ({ cls := "java/util/Arrays", name := "fill", desc := "([II)V" } : MethodName)) ∈ wsG := wc5 37 rfl rfl
theorem w_998 : (Cond.methodLink "CrystalHouse$Wave" (40 : Nat) ({ cls := "java/lang/Math", name := "floorMod", desc := "(II)I" } : MethodName)) ∈ wsG := wc5 38 rfl rfl
theorem w_999 : (Cond.methodLink "CrystalHouse$Wave" (46 : Nat) ({ cls := "CrystalHouse$Model", name := "weightOf", desc := "(I)I" } : MethodName)) ∈ wsG := wc5 39 rfl rfl
theorem w_1000 : (Cond.methodLink "CrystalHouse$Wave" (50 : Nat) ({ cls := "CrystalHouse$Wave", name := "addHeaps", desc := "([JI)V" } : MethodName)) ∈ wsG := wc5 40 rfl rfl
theorem w_1004 : (Cond.methodLink "CrystalHouse$Wave" (54 : Nat) ({ cls := "java/util/Arrays", name := "fill", desc := "([JJ)V" } : MethodName)) ∈ wsG := wc5 44 rfl rfl
theorem w_1009 : (Cond.methodLink "CrystalHouse$Wave" (57 : Nat) ({ cls := "CrystalHouse$Wave", name := "addSquare", desc := "([J)V" } : MethodName)) ∈ wsG := wc5 49 rfl rfl
theorem w_1013 : (Cond.constantLong "CrystalHouse$Wave" (64 : Nat) (2 : Int64)) ∈ wsG := wc5 53 rfl rfl
theorem w_1014 : (Cond.constantLong "CrystalHouse$Wave" (66 : Nat) (3 : Int64)) ∈ wsG := wc5 54 rfl rfl
theorem w_1015 : (Cond.constantLong "CrystalHouse$Wave" (68 : Nat) (6 : Int64)) ∈ wsG := wc5 55 rfl rfl
theorem w_1016 : (Cond.constantLong "CrystalHouse$Wave" (70 : Nat) (4 : Int64)) ∈ wsG := wc5 56 rfl rfl
theorem w_1017 : (Cond.methodLink "CrystalHouseLaw" (129 : Nat) ({ cls := "CrystalHouse", name := "distance", desc := "(III)J" } : MethodName)) ∈ wsG := wc5 57 rfl rfl
theorem w_1021 : (Cond.methodLink "CrystalHouse" (419 : Nat) ({ cls := "CrystalHouse$Model", name := "leastBetween", desc := "(II)J" } : MethodName)) ∈ wsG := wc5 61 rfl rfl
theorem w_1025 : (Cond.constantLong "CrystalHouse$Model" (80 : Nat) (9223372036854775807 : Int64)) ∈ wsG := wc5 65 rfl rfl
theorem w_1026 : (Cond.methodLink "CrystalHouse$Model" (82 : Nat) ({ cls := "CrystalHouse$Model", name := "isSelf", desc := "(III)Z" } : MethodName)) ∈ wsG := wc5 66 rfl rfl
theorem w_1030 : (Cond.methodLink "CrystalHouse$Model" (86 : Nat) ({ cls := "CrystalHouse$Model", name := "squareBetween", desc := "(III)J" } : MethodName)) ∈ wsG := wc5 70 rfl rfl
theorem w_1035 : (Cond.methodLink "CrystalHouse$Model" (72 : Nat) ({ cls := "CrystalHouse$Form", name := "square", desc := "(JJJ)J" } : MethodName)) ∈ wsG := wc5 75 rfl rfl
theorem w_1036 : (Cond.methodLink "CrystalHouse$Model" (90 : Nat) ({ cls := "java/lang/Math", name := "min", desc := "(JJ)J" } : MethodName)) ∈ wsG := wc5 76 rfl rfl
theorem w_1039 : (Cond.methodLink "CrystalHouseLaw" (136 : Nat) ({ cls := "CrystalHouse", name := "near", desc := "(IIJ)I" } : MethodName)) ∈ wsG := wc5 79 rfl rfl
theorem w_1043 : (Cond.methodLink "CrystalHouse" (423 : Nat) ({ cls := "CrystalHouse$Model", name := "countAround", desc := "(IJ)I" } : MethodName)) ∈ wsG := wc5 83 rfl rfl
theorem w_1047 : (Cond.methodLink "CrystalHouseLaw" (141 : Nat) ({ cls := "CrystalHouse", name := "lines", desc := "(II)I" } : MethodName)) ∈ wsG := wc5 87 rfl rfl
theorem w_1051 : (Cond.methodLink "CrystalHouse" (427 : Nat) ({ cls := "CrystalHouse", name := "linesAt", desc := "(II)LCrystalHouse$Lines;" } : MethodName)) ∈ wsG := wc5 91 rfl rfl
theorem w_1055 : (Cond.classLink "CrystalHouse" (432 : Nat) "CrystalHouse$Lines") ∈ wsG := wc5 95 rfl rfl
theorem w_1057 : (Cond.methodLink "CrystalHouse" (443 : Nat) ({ cls := "CrystalHouse$Lines", name := "<init>", desc := "(I)V" } : MethodName)) ∈ wsG := wc5 97 rfl rfl
theorem w_1060 : (Cond.methodLink "CrystalHouse$Lines" (1 : Nat) ({ cls := "java/lang/Object", name := "<init>", desc := "()V" } : MethodName)) ∈ wsG := wc5 100 rfl rfl
theorem w_1061 : (Cond.methodLink "CrystalHouse$Lines" (19 : Nat) ({ cls := "java/lang/Math", name := "max", desc := "(II)I" } : MethodName)) ∈ wsG := wc5 101 rfl rfl
theorem w_1062 : (Cond.fieldLink "CrystalHouse$Lines" (16 : Nat) "CrystalHouse$Lines" "within" "I") ∈ wsG := wc5 102 rfl rfl
theorem w_1063 : (Cond.fieldLink "CrystalHouse$Lines" (25 : Nat) "CrystalHouse$Lines" "rows" "[J") ∈ wsG := wc5 103 rfl rfl
theorem w_1064 : (Cond.fieldLink "CrystalHouse" (434 : Nat) "CrystalHouse$Lines" "rows" "[J") ∈ wsG := wc5 104 rfl rfl
theorem w_1065 : (Cond.fieldLink "CrystalHouse$Lines" (29 : Nat) "CrystalHouse$Lines" "order" "[I") ∈ wsG := wc5 105 rfl rfl
theorem w_1066 : (Cond.fieldLink "CrystalHouse" (436 : Nat) "CrystalHouse$Lines" "order" "[I") ∈ wsG := wc5 106 rfl rfl
theorem w_1067 : (Cond.fieldLink "CrystalHouse$Lines" (7 : Nat) "CrystalHouse$Lines" "count" "I") ∈ wsG := wc5 107 rfl rfl
theorem w_1068 : (Cond.fieldLink "CrystalHouse" (431 : Nat) "CrystalHouse$Lines" "count" "I") ∈ wsG := wc5 108 rfl rfl
theorem w_1069 : (Cond.fieldLink "CrystalHouse$Lines" (13 : Nat) "CrystalHouse$Lines" "toldThen" "I") ∈ wsG := wc5 109 rfl rfl
theorem w_1081 : (Cond.methodLink "CrystalHouse" (444 : Nat) ({ cls := "CrystalHouse$Lines", name := "renew", desc := "(LCrystalHouse$Model;LCrystalHouse$Wave;)V" } : MethodName)) ∈ wsG := wc5 121 rfl rfl
theorem w_1085 : (Cond.methodLink "CrystalHouse$Lines" (38 : Nat) ({ cls := "CrystalHouse$Lines", name := "gather", desc := "(LCrystalHouse$Model;LCrystalHouse$Wave;)V" } : MethodName)) ∈ wsG := wc5 125 rfl rfl
theorem w_1089 : (Cond.methodLink "CrystalHouse$Lines" (46 : Nat) ({ cls := "CrystalHouse$Lines", name := "reciprocal", desc := "(LCrystalHouse$Form;)LCrystalHouse$Form;" } : MethodName)) ∈ wsG := wc5 129 rfl rfl
theorem w_1092 : (Cond.constantLong "CrystalHouse$Lines" (77 : Nat) (2 : Int64)) ∈ wsG := wc5 132 rfl rfl
theorem w_1093 : (Cond.classLink "CrystalHouse$Lines" (61 : Nat) "CrystalHouse$Form") ∈ wsG := wc5 133 rfl rfl
theorem w_1095 : (Cond.methodLink "CrystalHouse$Lines" (95 : Nat) ({ cls := "CrystalHouse$Form", name := "set", desc := "(JJJJJJ)V" } : MethodName)) ∈ wsG := wc5 135 rfl rfl
theorem w_1096 : (Cond.methodLink "CrystalHouse$Lines" (50 : Nat) ({ cls := "CrystalHouse$Wave", name := "sum", desc := "(LCrystalHouse$Model;III)V" } : MethodName)) ∈ wsG := wc5 136 rfl rfl
theorem w_1097 : (Cond.methodLink "CrystalHouse$Lines" (56 : Nat) ({ cls := "CrystalHouse$Wave", name := "isZero", desc := "()Z" } : MethodName)) ∈ wsG := wc5 137 rfl rfl
theorem w_1101 : (Cond.methodLink "CrystalHouse$Lines" (60 : Nat) ({ cls := "CrystalHouse$Form", name := "square", desc := "(JJJ)J" } : MethodName)) ∈ wsG := wc5 141 rfl rfl
theorem w_1102 : (Cond.methodLink "CrystalHouse$Lines" (69 : Nat) ({ cls := "CrystalHouse$Lines", name := "addPair", desc := "(J[J)V" } : MethodName)) ∈ wsG := wc5 142 rfl rfl
theorem w_1106 : (Cond.methodLink "CrystalHouse$Lines" (99 : Nat) ({ cls := "CrystalHouse$Lines", name := "seat", desc := "(J)I" } : MethodName)) ∈ wsG := wc5 146 rfl rfl
theorem w_1110 : (Cond.methodLink "CrystalHouse$Lines" (103 : Nat) ({ cls := "java/lang/System", name := "arraycopy", desc := "(Ljava/lang/Object;ILjava/lang/Object;II)V" } : MethodName)) ∈ wsG := wc5 150 rfl rfl
theorem w_1111 : (Cond.methodLink "CrystalHouse$Lines" (109 : Nat) ({ cls := "CrystalHouse$Lines", name := "startRow", desc := "(IJ)V" } : MethodName)) ∈ wsG := wc5 151 rfl rfl
theorem w_1115 : (Cond.methodLink "CrystalHouseLaw" (145 : Nat) ({ cls := "CrystalHouse", name := "line", desc := "(IIII)J" } : MethodName)) ∈ wsG := wc5 155 rfl rfl
theorem w_1119 : (Cond.methodLink "CrystalHouseLaw" (149 : Nat) ({ cls := "CrystalHouse", name := "map", desc := "(II)J" } : MethodName)) ∈ wsG := wc5 159 rfl rfl
theorem w_1123 : (Cond.methodLink "CrystalHouse" (448 : Nat) ({ cls := "CrystalHouse$Model", name := "sumOfPairs", desc := "(I)J" } : MethodName)) ∈ wsG := wc5 163 rfl rfl
theorem w_1127 : (Cond.methodLink "CrystalHouse$Model" (96 : Nat) ({ cls := "CrystalHouse$Model", name := "weightOf", desc := "(I)I" } : MethodName)) ∈ wsG := wc5 167 rfl rfl
theorem w_1128 : (Cond.methodLink "CrystalHouseLaw" (153 : Nat) ({ cls := "CrystalHouse", name := "phase", desc := "(IIJ)I" } : MethodName)) ∈ wsG := wc5 168 rfl rfl
theorem w_1132 : (Cond.methodLink "CrystalHouse" (451 : Nat) ({ cls := "CrystalHouse$Phases", name := "keep", desc := "(IIJ)I" } : MethodName)) ∈ wsG := wc5 172 rfl rfl
theorem w_1136 : (Cond.constantLong "CrystalHouse$Phases" (33 : Nat) (-100000000 : Int64)) ∈ wsG := wc5 176 rfl rfl
theorem w_1137 : (Cond.constantLong "CrystalHouse$Phases" (35 : Nat) (100000000 : Int64)) ∈ wsG := wc5 177 rfl rfl
theorem w_1138 : (Cond.methodLink "CrystalHouseLaw" (157 : Nat) ({ cls := "CrystalHouse", name := "above", desc := "(II)J" } : MethodName)) ∈ wsG := wc5 178 rfl rfl
theorem w_1142 : (Cond.methodLink "CrystalHouse" (455 : Nat) ({ cls := "CrystalHouse$Phases", name := "countStable", desc := "()I" } : MethodName)) ∈ wsG := wc5 182 rfl rfl
theorem w_1146 : (Cond.methodLink "CrystalHouse$Phases" (53 : Nat) ({ cls := "CrystalHouse$Phases", name := "weigh", desc := "(I)V" } : MethodName)) ∈ wsG := wc5 186 rfl rfl
theorem w_1150 : (Cond.methodLink "CrystalHouse$Phases" (37 : Nat) ({ cls := "CrystalHouse$Phases", name := "cross", desc := "(II)J" } : MethodName)) ∈ wsG := wc5 190 rfl rfl
theorem w_1154 : (Cond.methodLink "CrystalHouse$Phases" (41 : Nat) ({ cls := "CrystalHouse$Phases", name := "offer", desc := "(JJ)V" } : MethodName)) ∈ wsG := wc5 194 rfl rfl
theorem w_1158 : (Cond.methodLink "CrystalHouse$Phases" (45 : Nat) ({ cls := "CrystalHouse$Phases", name := "weighMixtures", desc := "(II)V" } : MethodName)) ∈ wsG := wc5 198 rfl rfl
theorem w_1163 : (Cond.methodLink "CrystalHouse" (459 : Nat) ({ cls := "CrystalHouse$Phases", name := "weigh", desc := "(I)V" } : MethodName)) ∈ wsG := wc5 203 rfl rfl
theorem w_1164 : (Cond.classLink "CrystalHouseLaw" (10 : Nat) "CrystalHouseModel") ∈ wsG := wc5 204 rfl rfl
theorem w_1166 : (Cond.methodLink "CrystalHouseLaw" (12 : Nat) ({ cls := "CrystalHouseModel", name := "<init>", desc := "()V" } : MethodName)) ∈ wsG := wc5 206 rfl rfl
theorem w_1169 : (Cond.methodLink "CrystalHouseModel" (1 : Nat) ({ cls := "java/lang/Object", name := "<init>", desc := "()V" } : MethodName)) ∈ wsG := wc5 209 rfl rfl
theorem w_1170 : (Cond.constant "CrystalHouseModel" (64 : Nat) (36864 : Int32)) ∈ wsG := wc5 210 rfl rfl
theorem w_1171 : (Cond.fieldLink "CrystalHouseModel" (7 : Nat) "CrystalHouseModel" "told" "[I") ∈ wsG := wc5 211 rfl rfl
theorem w_1172 : (Cond.fieldLink "CrystalHouseModel" (167 : Nat) "CrystalHouseModel" "operations" "I") ∈ wsG := wc5 212 rfl rfl
theorem w_1173 : (Cond.fieldLink "CrystalHouseModel" (13 : Nat) "CrystalHouseModel" "chosen" "[I") ∈ wsG := wc5 213 rfl rfl
theorem w_1174 : (Cond.fieldLink "CrystalHouseModel" (16 : Nat) "CrystalHouseModel" "ma" "[I") ∈ wsG := wc5 214 rfl rfl
theorem w_1175 : (Cond.fieldLink "CrystalHouseModel" (19 : Nat) "CrystalHouseModel" "sa" "[I") ∈ wsG := wc5 215 rfl rfl
theorem w_1176 : (Cond.fieldLink "CrystalHouseModel" (22 : Nat) "CrystalHouseModel" "mb" "[I") ∈ wsG := wc5 216 rfl rfl
theorem w_1177 : (Cond.fieldLink "CrystalHouseModel" (25 : Nat) "CrystalHouseModel" "sb" "[I") ∈ wsG := wc5 217 rfl rfl
theorem w_1178 : (Cond.fieldLink "CrystalHouseModel" (28 : Nat) "CrystalHouseModel" "waiting" "[I") ∈ wsG := wc5 218 rfl rfl
theorem w_1179 : (Cond.fieldLink "CrystalHouseModel" (31 : Nat) "CrystalHouseModel" "text" "[I") ∈ wsG := wc5 219 rfl rfl
theorem w_1180 : (Cond.fieldLink "CrystalHouseModel" (170 : Nat) "CrystalHouseModel" "textSize" "I") ∈ wsG := wc5 220 rfl rfl
theorem w_1181 : (Cond.fieldLink "CrystalHouseModel" (180 : Nat) "CrystalHouseModel" "fault" "I") ∈ wsG := wc5 221 rfl rfl
theorem w_1182 : (Cond.fieldLink "CrystalHouseModel" (34 : Nat) "CrystalHouseModel" "faultPlace" "I") ∈ wsG := wc5 222 rfl rfl
theorem w_1183 : (Cond.fieldLink "CrystalHouseModel" (173 : Nat) "CrystalHouseModel" "at" "I") ∈ wsG := wc5 223 rfl rfl
theorem w_1184 : (Cond.fieldLink "CrystalHouseModel" (38 : Nat) "CrystalHouseModel" "out" "[I") ∈ wsG := wc5 224 rfl rfl
theorem w_1185 : (Cond.fieldLink "CrystalHouseModel" (207 : Nat) "CrystalHouseModel" "outSize" "I") ∈ wsG := wc5 225 rfl rfl
theorem w_1186 : (Cond.fieldLink "CrystalHouseModel" (41 : Nat) "CrystalHouseModel" "member" "[I") ∈ wsG := wc5 226 rfl rfl
theorem w_1187 : (Cond.fieldLink "CrystalHouseModel" (44 : Nat) "CrystalHouseModel" "size" "[I") ∈ wsG := wc5 227 rfl rfl
theorem w_1188 : (Cond.fieldLink "CrystalHouseModel" (227 : Nat) "CrystalHouseModel" "groups" "I") ∈ wsG := wc5 228 rfl rfl
theorem w_1189 : (Cond.fieldLink "CrystalHouseModel" (47 : Nat) "CrystalHouseModel" "list" "[I") ∈ wsG := wc5 229 rfl rfl
theorem w_1190 : (Cond.fieldLink "CrystalHouseModel" (233 : Nat) "CrystalHouseModel" "listed" "I") ∈ wsG := wc5 230 rfl rfl
theorem w_1191 : (Cond.fieldLink "CrystalHouseModel" (50 : Nat) "CrystalHouseModel" "alikes" "[I") ∈ wsG := wc5 231 rfl rfl
theorem w_1192 : (Cond.fieldLink "CrystalHouseModel" (53 : Nat) "CrystalHouseModel" "halves" "[I") ∈ wsG := wc5 232 rfl rfl
theorem w_1193 : (Cond.fieldLink "CrystalHouseModel" (56 : Nat) "CrystalHouseModel" "known" "[Z") ∈ wsG := wc5 233 rfl rfl
theorem w_1194 : (Cond.fieldLink "CrystalHouseModel" (60 : Nat) "CrystalHouseModel" "halfBits" "[J") ∈ wsG := wc5 234 rfl rfl
theorem w_1195 : (Cond.fieldLink "CrystalHouseModel" (65 : Nat) "CrystalHouseModel" "table" "[I") ∈ wsG := wc5 235 rfl rfl
theorem w_1196 : (Cond.fieldLink "CrystalHouseModel" (68 : Nat) "CrystalHouseModel" "mark" "[I") ∈ wsG := wc5 236 rfl rfl
theorem w_1197 : (Cond.fieldLink "CrystalHouseModel" (71 : Nat) "CrystalHouseModel" "generator" "[I") ∈ wsG := wc5 237 rfl rfl
theorem w_1198 : (Cond.fieldLink "CrystalHouseModel" (74 : Nat) "CrystalHouseModel" "orbit" "[I") ∈ wsG := wc5 238 rfl rfl
theorem w_1199 : (Cond.fieldLink "CrystalHouseModel" (77 : Nat) "CrystalHouseModel" "sorts" "[I") ∈ wsG := wc5 239 rfl rfl
theorem w_1200 : (Cond.fieldLink "CrystalHouseModel" (80 : Nat) "CrystalHouseModel" "cells" "[J") ∈ wsG := wc6 0 rfl rfl
theorem w_1201 : (Cond.fieldLink "CrystalHouseModel" (83 : Nat) "CrystalHouseModel" "lows" "[J") ∈ wsG := wc6 1 rfl rfl
theorem w_1202 : (Cond.fieldLink "CrystalHouseModel" (86 : Nat) "CrystalHouseModel" "symmetry" "[I") ∈ wsG := wc6 2 rfl rfl
theorem w_1203 : (Cond.fieldLink "CrystalHouseModel" (331 : Nat) "CrystalHouseModel" "cellMany" "I") ∈ wsG := wc6 3 rfl rfl
theorem w_1204 : (Cond.fieldLink "CrystalHouseModel" (89 : Nat) "CrystalHouseModel" "six" "[J") ∈ wsG := wc6 4 rfl rfl
theorem w_1205 : (Cond.fieldLink "CrystalHouseModel" (92 : Nat) "CrystalHouseModel" "multi" "[J") ∈ wsG := wc6 5 rfl rfl
theorem w_1206 : (Cond.fieldLink "CrystalHouseModel" (377 : Nat) "CrystalHouseModel" "multis" "I") ∈ wsG := wc6 6 rfl rfl
theorem w_1207 : (Cond.fieldLink "CrystalHouseModel" (95 : Nat) "CrystalHouseModel" "multiCell" "I") ∈ wsG := wc6 7 rfl rfl
theorem w_1208 : (Cond.fieldLink "CrystalHouseModel" (374 : Nat) "CrystalHouseModel" "multiBy" "I") ∈ wsG := wc6 8 rfl rfl
theorem w_1209 : (Cond.fieldLink "CrystalHouseModel" (98 : Nat) "CrystalHouseModel" "modelGroup" "[I") ∈ wsG := wc6 9 rfl rfl
theorem w_1210 : (Cond.fieldLink "CrystalHouseModel" (101 : Nat) "CrystalHouseModel" "modelCell" "[I") ∈ wsG := wc6 10 rfl rfl
theorem w_1211 : (Cond.fieldLink "CrystalHouseModel" (104 : Nat) "CrystalHouseModel" "atoms" "[I") ∈ wsG := wc6 11 rfl rfl
theorem w_1212 : (Cond.fieldLink "CrystalHouseModel" (107 : Nat) "CrystalHouseModel" "placed" "[I") ∈ wsG := wc6 12 rfl rfl
theorem w_1213 : (Cond.fieldLink "CrystalHouseModel" (110 : Nat) "CrystalHouseModel" "placeOf" "[I") ∈ wsG := wc6 13 rfl rfl
theorem w_1214 : (Cond.fieldLink "CrystalHouseModel" (113 : Nat) "CrystalHouseModel" "weightOf" "[I") ∈ wsG := wc6 14 rfl rfl
theorem w_1215 : (Cond.fieldLink "CrystalHouseModel" (116 : Nat) "CrystalHouseModel" "atomOf" "[I") ∈ wsG := wc6 15 rfl rfl
theorem w_1216 : (Cond.fieldLink "CrystalHouseModel" (390 : Nat) "CrystalHouseModel" "models" "I") ∈ wsG := wc6 16 rfl rfl
theorem w_1217 : (Cond.fieldLink "CrystalHouseModel" (119 : Nat) "CrystalHouseModel" "wave" "[J") ∈ wsG := wc6 17 rfl rfl
theorem w_1218 : (Cond.fieldLink "CrystalHouseModel" (122 : Nat) "CrystalHouseModel" "lineQ" "[J") ∈ wsG := wc6 18 rfl rfl
theorem w_1219 : (Cond.fieldLink "CrystalHouseModel" (125 : Nat) "CrystalHouseModel" "lineMany" "[I") ∈ wsG := wc6 19 rfl rfl
theorem w_1220 : (Cond.fieldLink "CrystalHouseModel" (128 : Nat) "CrystalHouseModel" "linePower" "[J") ∈ wsG := wc6 20 rfl rfl
theorem w_1221 : (Cond.fieldLink "CrystalHouseModel" (425 : Nat) "CrystalHouseModel" "lines" "I") ∈ wsG := wc6 21 rfl rfl
theorem w_1222 : (Cond.fieldLink "CrystalHouseModel" (131 : Nat) "CrystalHouseModel" "lineModel" "I") ∈ wsG := wc6 22 rfl rfl
theorem w_1223 : (Cond.fieldLink "CrystalHouseModel" (422 : Nat) "CrystalHouseModel" "lineWithin" "I") ∈ wsG := wc6 23 rfl rfl
theorem w_1224 : (Cond.fieldLink "CrystalHouseModel" (134 : Nat) "CrystalHouseModel" "first" "[I") ∈ wsG := wc6 24 rfl rfl
theorem w_1225 : (Cond.fieldLink "CrystalHouseModel" (137 : Nat) "CrystalHouseModel" "second" "[I") ∈ wsG := wc6 25 rfl rfl
theorem w_1226 : (Cond.fieldLink "CrystalHouseModel" (140 : Nat) "CrystalHouseModel" "energy" "[J") ∈ wsG := wc6 26 rfl rfl
theorem w_1227 : (Cond.fieldLink "CrystalHouseModel" (435 : Nat) "CrystalHouseModel" "phases" "I") ∈ wsG := wc6 27 rfl rfl
theorem w_1228 : (Cond.fieldLink "CrystalHouseModel" (444 : Nat) "CrystalHouseModel" "upper" "J") ∈ wsG := wc6 28 rfl rfl
theorem w_1229 : (Cond.fieldLink "CrystalHouseModel" (448 : Nat) "CrystalHouseModel" "lower" "J") ∈ wsG := wc6 29 rfl rfl
theorem w_1230 : (Cond.fieldLink "CrystalHouseModel" (143 : Nat) "CrystalHouseModel" "mc" "[I") ∈ wsG := wc6 30 rfl rfl
theorem w_1231 : (Cond.fieldLink "CrystalHouseModel" (146 : Nat) "CrystalHouseModel" "sc" "[I") ∈ wsG := wc6 31 rfl rfl
theorem w_1232 : (Cond.fieldLink "CrystalHouseModel" (149 : Nat) "CrystalHouseModel" "keeper" "[I") ∈ wsG := wc6 32 rfl rfl
theorem w_1233 : (Cond.fieldLink "CrystalHouseModel" (310 : Nat) "CrystalHouseModel" "wh" "I") ∈ wsG := wc6 33 rfl rfl
theorem w_1234 : (Cond.fieldLink "CrystalHouseModel" (313 : Nat) "CrystalHouseModel" "wk" "I") ∈ wsG := wc6 34 rfl rfl
theorem w_1235 : (Cond.fieldLink "CrystalHouseModel" (316 : Nat) "CrystalHouseModel" "wl" "I") ∈ wsG := wc6 35 rfl rfl
theorem w_1236 : (Cond.fieldLink "CrystalHouseModel" (319 : Nat) "CrystalHouseModel" "turn" "I") ∈ wsG := wc6 36 rfl rfl
theorem w_1237 : (Cond.fieldLink "CrystalHouseModel" (152 : Nat) "CrystalHouseModel" "list2" "[I") ∈ wsG := wc6 37 rfl rfl
theorem w_1373 : (Cond.methodLink "CrystalHouseLaw" (17 : Nat) ({ cls := "CrystalHouseModel", name := "feed", desc := "(IIIII)V" } : MethodName)) ∈ wsG := wc6 173 rfl rfl
theorem w_1377 : (Cond.methodLink "CrystalHouseLaw" (22 : Nat) ({ cls := "CrystalHouseModel", name := "end", desc := "(I)I" } : MethodName)) ∈ wsG := wc6 177 rfl rfl
theorem w_1381 : (Cond.methodLink "CrystalHouseLaw" (27 : Nat) ({ cls := "CrystalHouseModel", name := "read", desc := "()I" } : MethodName)) ∈ wsG := wc6 181 rfl rfl
theorem w_1385 : (Cond.methodLink "CrystalHouseModel" (201 : Nat) ({ cls := "CrystalHouseModel", name := "expression", desc := "(I)Z" } : MethodName)) ∈ wsG := wc6 185 rfl rfl
theorem w_1389 : (Cond.methodLink "CrystalHouseModel" (187 : Nat) ({ cls := "CrystalHouseModel", name := "next", desc := "()I" } : MethodName)) ∈ wsG := wc6 189 rfl rfl
theorem w_1393 : (Cond.methodLink "CrystalHouseModel" (176 : Nat) ({ cls := "CrystalHouseModel", name := "byteAt", desc := "(I)I" } : MethodName)) ∈ wsG := wc6 193 rfl rfl
theorem w_1397 : (Cond.methodLink "CrystalHouseModel" (198 : Nat) ({ cls := "CrystalHouseModel", name := "term", desc := "(II)Z" } : MethodName)) ∈ wsG := wc6 197 rfl rfl
theorem w_1401 : (Cond.methodLink "CrystalHouseModel" (183 : Nat) ({ cls := "CrystalHouseModel", name := "isDigit", desc := "(I)Z" } : MethodName)) ∈ wsG := wc6 201 rfl rfl
theorem w_1404 : (Cond.methodLink "CrystalHouseModel" (191 : Nat) ({ cls := "CrystalHouseModel", name := "wrong", desc := "(II)Z" } : MethodName)) ∈ wsG := wc6 204 rfl rfl
theorem w_1408 : (Cond.methodLink "CrystalHouseModel" (195 : Nat) ({ cls := "CrystalHouseModel", name := "numberHere", desc := "()I" } : MethodName)) ∈ wsG := wc6 208 rfl rfl
theorem w_1412 : (Cond.methodLink "CrystalHouseModel" (159 : Nat) ({ cls := "CrystalHouseModel", name := "closed", desc := "([I[I)I" } : MethodName)) ∈ wsG := wc6 212 rfl rfl
theorem w_1415 : (Cond.methodLink "CrystalHouseModel" (163 : Nat) ({ cls := "CrystalHouseModel", name := "determinant", desc := "([I)I" } : MethodName)) ∈ wsG := wc6 215 rfl rfl
theorem w_1418 : (Cond.methodLink "CrystalHouseModel" (204 : Nat) ({ cls := "CrystalHouseModel", name := "told0", desc := "(I)I" } : MethodName)) ∈ wsG := wc6 218 rfl rfl
theorem w_1422 : (Cond.methodLink "CrystalHouseLaw" (31 : Nat) ({ cls := "CrystalHouseModel", name := "fault", desc := "(I)I" } : MethodName)) ∈ wsG := wc6 222 rfl rfl
theorem w_1426 : (Cond.methodLink "CrystalHouseLaw" (36 : Nat) ({ cls := "CrystalHouseModel", name := "operation", desc := "(II)I" } : MethodName)) ∈ wsG := wc6 226 rfl rfl
theorem w_1430 : (Cond.methodLink "CrystalHouseModel" (155 : Nat) ({ cls := "CrystalHouseModel", name := "open", desc := "(I[I[I)V" } : MethodName)) ∈ wsG := wc6 230 rfl rfl
theorem w_1433 : (Cond.methodLink "CrystalHouseLaw" (40 : Nat) ({ cls := "CrystalHouseModel", name := "tell", desc := "(I)I" } : MethodName)) ∈ wsG := wc6 233 rfl rfl
theorem w_1437 : (Cond.methodLink "CrystalHouseModel" (221 : Nat) ({ cls := "CrystalHouseModel", name := "isOperation", desc := "(I)Z" } : MethodName)) ∈ wsG := wc6 237 rfl rfl
theorem w_1441 : (Cond.methodLink "CrystalHouseModel" (224 : Nat) ({ cls := "CrystalHouseModel", name := "tellOperation", desc := "(I)I" } : MethodName)) ∈ wsG := wc7 1 rfl rfl
theorem w_1445 : (Cond.methodLink "CrystalHouseModel" (210 : Nat) ({ cls := "CrystalHouseModel", name := "say", desc := "(I)V" } : MethodName)) ∈ wsG := wc7 5 rfl rfl
theorem w_1449 : (Cond.methodLink "CrystalHouseModel" (214 : Nat) ({ cls := "CrystalHouseModel", name := "common", desc := "(II)I" } : MethodName)) ∈ wsG := wc7 9 rfl rfl
theorem w_1453 : (Cond.methodLink "CrystalHouseModel" (218 : Nat) ({ cls := "CrystalHouseModel", name := "sayNumber", desc := "(I)V" } : MethodName)) ∈ wsG := wc7 13 rfl rfl
theorem w_1457 : (Cond.methodLink "CrystalHouseLaw" (44 : Nat) ({ cls := "CrystalHouseModel", name := "tellOf", desc := "(II)I" } : MethodName)) ∈ wsG := wc7 17 rfl rfl
theorem w_1461 : (Cond.methodLink "CrystalHouseModel" (230 : Nat) ({ cls := "CrystalHouseModel", name := "isGroup", desc := "(I)Z" } : MethodName)) ∈ wsG := wc7 21 rfl rfl
theorem w_1465 : (Cond.methodLink "CrystalHouseLaw" (48 : Nat) ({ cls := "CrystalHouseModel", name := "letter", desc := "(I)I" } : MethodName)) ∈ wsG := wc7 25 rfl rfl
theorem w_1469 : (Cond.methodLink "CrystalHouseLaw" (53 : Nat) ({ cls := "CrystalHouseModel", name := "choose", desc := "(I)Z" } : MethodName)) ∈ wsG := wc7 29 rfl rfl
theorem w_1473 : (Cond.methodLink "CrystalHouseLaw" (57 : Nat) ({ cls := "CrystalHouseModel", name := "group", desc := "()I" } : MethodName)) ∈ wsG := wc7 33 rfl rfl
theorem w_1477 : (Cond.methodLink "CrystalHouseModel" (236 : Nat) ({ cls := "CrystalHouseModel", name := "identity", desc := "()I" } : MethodName)) ∈ wsG := wc7 37 rfl rfl
theorem w_1480 : (Cond.methodLink "CrystalHouseModel" (239 : Nat) ({ cls := "CrystalHouseModel", name := "times", desc := "(II)I" } : MethodName)) ∈ wsG := wc7 40 rfl rfl
theorem w_1484 : (Cond.methodLink "CrystalHouseModel" (242 : Nat) ({ cls := "CrystalHouseModel", name := "isListed", desc := "(I)Z" } : MethodName)) ∈ wsG := wc7 44 rfl rfl
theorem w_1488 : (Cond.methodLink "CrystalHouseModel" (245 : Nat) ({ cls := "CrystalHouseModel", name := "numbered", desc := "()I" } : MethodName)) ∈ wsG := wc7 48 rfl rfl
theorem w_1492 : (Cond.methodLink "CrystalHouseLaw" (61 : Nat) ({ cls := "CrystalHouseModel", name := "about", desc := "(II)I" } : MethodName)) ∈ wsG := wc7 52 rfl rfl
theorem w_1496 : (Cond.methodLink "CrystalHouseModel" (285 : Nat) ({ cls := "CrystalHouseModel", name := "matrices", desc := "(I)I" } : MethodName)) ∈ wsG := wc7 56 rfl rfl
theorem w_1500 : (Cond.methodLink "CrystalHouseModel" (288 : Nat) ({ cls := "CrystalHouseModel", name := "centrings", desc := "(I)I" } : MethodName)) ∈ wsG := wc7 60 rfl rfl
theorem w_1504 : (Cond.methodLink "CrystalHouseModel" (291 : Nat) ({ cls := "CrystalHouseModel", name := "letterOf", desc := "(II)I" } : MethodName)) ∈ wsG := wc7 64 rfl rfl
theorem w_1508 : (Cond.methodLink "CrystalHouseModel" (257 : Nat) ({ cls := "CrystalHouseModel", name := "hasShift", desc := "(II)Z" } : MethodName)) ∈ wsG := wc7 68 rfl rfl
theorem w_1512 : (Cond.methodLink "CrystalHouseModel" (254 : Nat) ({ cls := "CrystalHouseModel", name := "find", desc := "(II)I" } : MethodName)) ∈ wsG := wc7 72 rfl rfl
theorem w_1516 : (Cond.methodLink "CrystalHouseModel" (294 : Nat) ({ cls := "CrystalHouseModel", name := "classOf", desc := "([III)I" } : MethodName)) ∈ wsG := wc7 76 rfl rfl
theorem w_1520 : (Cond.methodLink "CrystalHouseModel" (248 : Nat) ({ cls := "CrystalHouseModel", name := "sortOf", desc := "([I)I" } : MethodName)) ∈ wsG := wc7 80 rfl rfl
theorem w_1523 : (Cond.methodLink "CrystalHouseModel" (251 : Nat) ({ cls := "CrystalHouseModel", name := "classBy", desc := "(II)I" } : MethodName)) ∈ wsG := wc7 83 rfl rfl
theorem w_1526 : (Cond.methodLink "CrystalHouseModel" (298 : Nat) ({ cls := "CrystalHouseModel", name := "know", desc := "(I)V" } : MethodName)) ∈ wsG := wc7 86 rfl rfl
theorem w_1530 : (Cond.methodLink "CrystalHouseModel" (260 : Nat) ({ cls := "CrystalHouseModel", name := "countAlike", desc := "(I)I" } : MethodName)) ∈ wsG := wc7 90 rfl rfl
theorem w_1534 : (Cond.methodLink "CrystalHouseModel" (263 : Nat) ({ cls := "CrystalHouseModel", name := "gatherHalves", desc := "(II)V" } : MethodName)) ∈ wsG := wc7 94 rfl rfl
theorem w_1538 : (Cond.methodLink "CrystalHouseModel" (267 : Nat) ({ cls := "CrystalHouseModel", name := "made", desc := "(II)I" } : MethodName)) ∈ wsG := wc7 98 rfl rfl
theorem w_1542 : (Cond.methodLink "CrystalHouseModel" (270 : Nat) ({ cls := "CrystalHouseModel", name := "isHalf", desc := "(IIII)Z" } : MethodName)) ∈ wsG := wc7 102 rfl rfl
theorem w_1546 : (Cond.methodLink "CrystalHouseModel" (274 : Nat) ({ cls := "CrystalHouseModel", name := "keepHalf", desc := "(II)V" } : MethodName)) ∈ wsG := wc7 106 rfl rfl
theorem w_1550 : (Cond.methodLink "CrystalHouseModel" (277 : Nat) ({ cls := "CrystalHouseModel", name := "comesAhead", desc := "(JJJI)Z" } : MethodName)) ∈ wsG := wc7 110 rfl rfl
theorem w_1554 : (Cond.methodLink "CrystalHouseModel" (281 : Nat) ({ cls := "CrystalHouseModel", name := "isGreater", desc := "(JJ)Z" } : MethodName)) ∈ wsG := wc7 114 rfl rfl
theorem w_1557 : (Cond.methodLink "CrystalHouseLaw" (66 : Nat) ({ cls := "CrystalHouseModel", name := "of", desc := "(III)I" } : MethodName)) ∈ wsG := wc7 117 rfl rfl
theorem w_1561 : (Cond.methodLink "CrystalHouseModel" (301 : Nat) ({ cls := "CrystalHouseModel", name := "isMember", desc := "(II)Z" } : MethodName)) ∈ wsG := wc7 121 rfl rfl
theorem w_1565 : (Cond.methodLink "CrystalHouseLaw" (70 : Nat) ({ cls := "CrystalHouseModel", name := "product", desc := "(III)I" } : MethodName)) ∈ wsG := wc7 125 rfl rfl
theorem w_1569 : (Cond.methodLink "CrystalHouseLaw" (74 : Nat) ({ cls := "CrystalHouseModel", name := "half", desc := "(II)I" } : MethodName)) ∈ wsG := wc7 129 rfl rfl
theorem w_1573 : (Cond.methodLink "CrystalHouseLaw" (79 : Nat) ({ cls := "CrystalHouseModel", name := "within", desc := "(II)Z" } : MethodName)) ∈ wsG := wc7 133 rfl rfl
theorem w_1577 : (Cond.methodLink "CrystalHouseLaw" (83 : Nat) ({ cls := "CrystalHouseModel", name := "orbit", desc := "(III)I" } : MethodName)) ∈ wsG := wc7 137 rfl rfl
theorem w_1581 : (Cond.methodLink "CrystalHouseModel" (307 : Nat) ({ cls := "CrystalHouseModel", name := "orbitOf", desc := "(II)I" } : MethodName)) ∈ wsG := wc7 141 rfl rfl
theorem w_1585 : (Cond.methodLink "CrystalHouseModel" (304 : Nat) ({ cls := "CrystalHouseModel", name := "taken", desc := "(II)I" } : MethodName)) ∈ wsG := wc7 145 rfl rfl
theorem w_1589 : (Cond.methodLink "CrystalHouseLaw" (88 : Nat) ({ cls := "CrystalHouseModel", name := "wave", desc := "(IIIII)I" } : MethodName)) ∈ wsG := wc7 149 rfl rfl
theorem w_1593 : (Cond.methodLink "CrystalHouseModel" (322 : Nat) ({ cls := "CrystalHouseModel", name := "isWave", desc := "(III)Z" } : MethodName)) ∈ wsG := wc7 153 rfl rfl
theorem w_1596 : (Cond.methodLink "CrystalHouseModel" (326 : Nat) ({ cls := "CrystalHouseModel", name := "turned", desc := "(IIII)V" } : MethodName)) ∈ wsG := wc7 156 rfl rfl
theorem w_1600 : (Cond.constant "CrystalHouseModel" (330 : Nat) (160801 : Int32)) ∈ wsG := wc7 160 rfl rfl
theorem w_1601 : (Cond.methodLink "CrystalHouseLaw" (93 : Nat) ({ cls := "CrystalHouseModel", name := "cell", desc := "(IIIIII)I" } : MethodName)) ∈ wsG := wc7 161 rfl rfl
theorem w_1605 : (Cond.constantLong "CrystalHouseModel" (334 : Nat) (10000 : Int64)) ∈ wsG := wc7 165 rfl rfl
theorem w_1606 : (Cond.methodLink "CrystalHouseModel" (336 : Nat) ({ cls := "CrystalHouseModel", name := "between", desc := "(JJJ)Z" } : MethodName)) ∈ wsG := wc7 166 rfl rfl
theorem w_1609 : (Cond.constantLong "CrystalHouseModel" (340 : Nat) (-10000 : Int64)) ∈ wsG := wc7 169 rfl rfl
theorem w_1610 : (Cond.methodLink "CrystalHouseModel" (342 : Nat) ({ cls := "CrystalHouseModel", name := "determinantOf", desc := "([JI)J" } : MethodName)) ∈ wsG := wc7 170 rfl rfl
theorem w_1613 : (Cond.methodLink "CrystalHouseModel" (346 : Nat) ({ cls := "CrystalHouseModel", name := "reduce", desc := "()V" } : MethodName)) ∈ wsG := wc7 173 rfl rfl
theorem w_1617 : (Cond.constantLong "CrystalHouseModel" (353 : Nat) (2 : Int64)) ∈ wsG := wc7 177 rfl rfl
theorem w_1618 : (Cond.methodLink "CrystalHouseModel" (355 : Nat) ({ cls := "CrystalHouseModel", name := "step", desc := "()Z" } : MethodName)) ∈ wsG := wc7 178 rfl rfl
theorem w_1622 : (Cond.methodLink "CrystalHouseModel" (359 : Nat) ({ cls := "CrystalHouseModel", name := "size", desc := "(J)J" } : MethodName)) ∈ wsG := wc7 182 rfl rfl
theorem w_1625 : (Cond.methodLink "CrystalHouseModel" (362 : Nat) ({ cls := "CrystalHouseModel", name := "exchange", desc := "(II)V" } : MethodName)) ∈ wsG := wc7 185 rfl rfl
theorem w_1629 : (Cond.constantLong "CrystalHouseModel" (365 : Nat) (-1 : Int64)) ∈ wsG := wc7 189 rfl rfl
theorem w_1630 : (Cond.methodLink "CrystalHouseModel" (349 : Nat) ({ cls := "CrystalHouseModel", name := "keeps", desc := "([I[JI)Z" } : MethodName)) ∈ wsG := wc7 190 rfl rfl
theorem w_1633 : (Cond.methodLink "CrystalHouseModel" (367 : Nat) ({ cls := "CrystalHouseModel", name := "dot", desc := "([JIJJJJJJ)J" } : MethodName)) ∈ wsG := wc7 193 rfl rfl
theorem w_1636 : (Cond.methodLink "CrystalHouseLaw" (98 : Nat) ({ cls := "CrystalHouseModel", name := "reduced", desc := "(II)J" } : MethodName)) ∈ wsG := wc7 196 rfl rfl
theorem w_1640 : (Cond.methodLink "CrystalHouseModel" (371 : Nat) ({ cls := "CrystalHouseModel", name := "isCell", desc := "(I)Z" } : MethodName)) ∈ wsG := wc7 200 rfl rfl
theorem w_1644 : (Cond.methodLink "CrystalHouseLaw" (102 : Nat) ({ cls := "CrystalHouseModel", name := "fits", desc := "(II)Z" } : MethodName)) ∈ wsG := wc7 204 rfl rfl
theorem w_1648 : (Cond.methodLink "CrystalHouseLaw" (106 : Nat) ({ cls := "CrystalHouseModel", name := "multiples", desc := "(II)I" } : MethodName)) ∈ wsG := wc7 208 rfl rfl
theorem w_1652 : (Cond.methodLink "CrystalHouseModel" (387 : Nat) ({ cls := "CrystalHouseModel", name := "multiply", desc := "(II)V" } : MethodName)) ∈ wsG := wc7 212 rfl rfl
theorem w_1656 : (Cond.methodLink "CrystalHouseModel" (380 : Nat) ({ cls := "CrystalHouseModel", name := "oneMultiple", desc := "(IIIIIII)V" } : MethodName)) ∈ wsG := wc7 216 rfl rfl
theorem w_1660 : (Cond.methodLink "CrystalHouseModel" (384 : Nat) ({ cls := "CrystalHouseModel", name := "compared", desc := "(I)I" } : MethodName)) ∈ wsG := wc7 220 rfl rfl
theorem w_1664 : (Cond.methodLink "CrystalHouseLaw" (111 : Nat) ({ cls := "CrystalHouseModel", name := "multiple", desc := "(IIII)J" } : MethodName)) ∈ wsG := wc7 224 rfl rfl
theorem w_1668 : (Cond.methodLink "CrystalHouseLaw" (115 : Nat) ({ cls := "CrystalHouseModel", name := "model", desc := "(II)I" } : MethodName)) ∈ wsG := wc7 228 rfl rfl
theorem w_1672 : (Cond.methodLink "CrystalHouseModel" (393 : Nat) ({ cls := "CrystalHouseModel", name := "fits", desc := "(II)Z" } : MethodName)) ∈ wsG := wc7 232 rfl rfl
theorem w_1673 : (Cond.methodLink "CrystalHouseLaw" (119 : Nat) ({ cls := "CrystalHouseModel", name := "atom", desc := "(III)I" } : MethodName)) ∈ wsG := wc7 233 rfl rfl
theorem w_1677 : (Cond.methodLink "CrystalHouseModel" (396 : Nat) ({ cls := "CrystalHouseModel", name := "isModel", desc := "(I)Z" } : MethodName)) ∈ wsG := wc7 237 rfl rfl
theorem w_1681 : (Cond.methodLink "CrystalHouseLaw" (123 : Nat) ({ cls := "CrystalHouseModel", name := "placed", desc := "(III)I" } : MethodName)) ∈ wsG := wc8 1 rfl rfl
theorem w_1685 : (Cond.methodLink "CrystalHouseModel" (399 : Nat) ({ cls := "CrystalHouseModel", name := "isPlaced", desc := "(II)Z" } : MethodName)) ∈ wsG := wc8 5 rfl rfl
theorem w_1689 : (Cond.methodLink "CrystalHouseLaw" (128 : Nat) ({ cls := "CrystalHouseModel", name := "amplitude", desc := "(IIIII)J" } : MethodName)) ∈ wsG := wc8 9 rfl rfl
theorem w_1693 : (Cond.methodLink "CrystalHouseModel" (415 : Nat) ({ cls := "CrystalHouseModel", name := "waveOf", desc := "(IIII)V" } : MethodName)) ∈ wsG := wc8 13 rfl rfl
theorem w_1697 : (Cond.methodLink "CrystalHouseModel" (408 : Nat) ({ cls := "CrystalHouseModel", name := "addCosine", desc := "(IIJ)V" } : MethodName)) ∈ wsG := wc8 17 rfl rfl
theorem w_1701 : (Cond.constantLong "CrystalHouseModel" (402 : Nat) (4 : Int64)) ∈ wsG := wc8 21 rfl rfl
theorem w_1702 : (Cond.methodLink "CrystalHouseModel" (412 : Nat) ({ cls := "CrystalHouseModel", name := "addSquare", desc := "(I)V" } : MethodName)) ∈ wsG := wc8 22 rfl rfl
theorem w_1706 : (Cond.constantLong "CrystalHouseModel" (404 : Nat) (3 : Int64)) ∈ wsG := wc8 26 rfl rfl
theorem w_1707 : (Cond.constantLong "CrystalHouseModel" (406 : Nat) (6 : Int64)) ∈ wsG := wc8 27 rfl rfl
theorem w_1708 : (Cond.methodLink "CrystalHouseLaw" (133 : Nat) ({ cls := "CrystalHouseModel", name := "distance", desc := "(III)J" } : MethodName)) ∈ wsG := wc8 28 rfl rfl
theorem w_1712 : (Cond.methodLink "CrystalHouseModel" (418 : Nat) ({ cls := "CrystalHouseModel", name := "apart", desc := "(IIII)J" } : MethodName)) ∈ wsG := wc8 32 rfl rfl
theorem w_1716 : (Cond.methodLink "CrystalHouseLaw" (140 : Nat) ({ cls := "CrystalHouseModel", name := "near", desc := "(IIJ)I" } : MethodName)) ∈ wsG := wc8 36 rfl rfl
theorem w_1720 : (Cond.methodLink "CrystalHouseLaw" (144 : Nat) ({ cls := "CrystalHouseModel", name := "lines", desc := "(II)I" } : MethodName)) ∈ wsG := wc8 40 rfl rfl
theorem w_1724 : (Cond.methodLink "CrystalHouseModel" (432 : Nat) ({ cls := "CrystalHouseModel", name := "gatherLines", desc := "(II)V" } : MethodName)) ∈ wsG := wc8 44 rfl rfl
theorem w_1728 : (Cond.methodLink "CrystalHouseModel" (428 : Nat) ({ cls := "CrystalHouseModel", name := "addLine", desc := "(J)V" } : MethodName)) ∈ wsG := wc8 48 rfl rfl
theorem w_1732 : (Cond.methodLink "CrystalHouseLaw" (148 : Nat) ({ cls := "CrystalHouseModel", name := "line", desc := "(IIII)J" } : MethodName)) ∈ wsG := wc8 52 rfl rfl
theorem w_1736 : (Cond.methodLink "CrystalHouseLaw" (152 : Nat) ({ cls := "CrystalHouseModel", name := "map", desc := "(II)J" } : MethodName)) ∈ wsG := wc8 56 rfl rfl
theorem w_1740 : (Cond.methodLink "CrystalHouseLaw" (156 : Nat) ({ cls := "CrystalHouseModel", name := "phase", desc := "(IIJ)I" } : MethodName)) ∈ wsG := wc8 60 rfl rfl
theorem w_1744 : (Cond.constantLong "CrystalHouseModel" (438 : Nat) (99 : Int64)) ∈ wsG := wc8 64 rfl rfl
theorem w_1745 : (Cond.constantLong "CrystalHouseModel" (440 : Nat) (-100000000 : Int64)) ∈ wsG := wc8 65 rfl rfl
theorem w_1746 : (Cond.constantLong "CrystalHouseModel" (442 : Nat) (100000000 : Int64)) ∈ wsG := wc8 66 rfl rfl
theorem w_1747 : (Cond.methodLink "CrystalHouseLaw" (160 : Nat) ({ cls := "CrystalHouseModel", name := "above", desc := "(II)J" } : MethodName)) ∈ wsG := wc8 67 rfl rfl
theorem w_1751 : (Cond.methodLink "CrystalHouseModel" (458 : Nat) ({ cls := "CrystalHouseModel", name := "aboveOf", desc := "(I)V" } : MethodName)) ∈ wsG := wc8 71 rfl rfl
theorem w_1755 : (Cond.methodLink "CrystalHouseModel" (455 : Nat) ({ cls := "CrystalHouseModel", name := "hullOf", desc := "(I)V" } : MethodName)) ∈ wsG := wc8 75 rfl rfl
theorem w_1759 : (Cond.methodLink "CrystalHouseModel" (451 : Nat) ({ cls := "CrystalHouseModel", name := "lesser", desc := "(JJ)V" } : MethodName)) ∈ wsG := wc8 79 rfl rfl
theorem w_1763 : (Cond.constantLong "CrystalHouseLaw" (134 : Nat) (4294967295 : Int64)) ∈ wsG := wc8 83 rfl rfl
theorem mb_0 : MB 0 := ⟨wc1 37 rfl rfl, wc1 3 rfl rfl, by decide +kernel⟩
theorem mb_1 : MB 1 := ⟨wc1 31 rfl rfl, wc1 2 rfl rfl, by decide +kernel⟩
theorem mb_2 : MB 2 := ⟨wc1 97 rfl rfl, wc1 6 rfl rfl, by decide +kernel⟩
theorem mb_3 : MB 3 := ⟨wc1 93 rfl rfl, wc1 5 rfl rfl, by decide +kernel⟩
theorem mb_4 : MB 4 := ⟨wc1 87 rfl rfl, wc1 4 rfl rfl, by decide +kernel⟩
theorem mb_5 : MB 5 := ⟨wc1 155 rfl rfl, wc1 7 rfl rfl, by decide +kernel⟩
theorem mb_6 : MB 6 := ⟨wc1 179 rfl rfl, wc1 8 rfl rfl, by decide +kernel⟩
theorem mb_7 : MB 7 := ⟨wc1 23 rfl rfl, wc1 1 rfl rfl, by decide +kernel⟩
theorem mb_8 : MB 8 := ⟨wc5 208 rfl rfl, wc1 9 rfl rfl, by decide +kernel⟩
theorem mb_9 : MB 9 := ⟨wc2 28 rfl rfl, wc1 2 rfl rfl, by decide +kernel⟩
theorem mb_10 : MB 10 := ⟨wc2 24 rfl rfl, wc1 1 rfl rfl, by decide +kernel⟩
theorem mb_11 : MB 11 := ⟨wc6 176 rfl rfl, wc1 9 rfl rfl, by decide +kernel⟩
theorem mb_12 : MB 12 := ⟨wc2 42 rfl rfl, wc1 11 rfl rfl, by decide +kernel⟩
theorem mb_13 : MB 13 := ⟨wc2 36 rfl rfl, wc1 2 rfl rfl, by decide +kernel⟩
theorem mb_14 : MB 14 := ⟨wc2 32 rfl rfl, wc1 1 rfl rfl, by decide +kernel⟩
theorem mb_15 : MB 15 := ⟨wc6 180 rfl rfl, wc1 9 rfl rfl, by decide +kernel⟩
theorem mb_16 : MB 16 := ⟨wc2 54 rfl rfl, wc1 2 rfl rfl, by decide +kernel⟩
theorem mb_17 : MB 17 := ⟨wc2 58 rfl rfl, wc1 3 rfl rfl, by decide +kernel⟩
theorem mb_18 : MB 18 := ⟨wc2 67 rfl rfl, wc1 2 rfl rfl, by decide +kernel⟩
theorem mb_19 : MB 19 := ⟨wc2 71 rfl rfl, wc1 2 rfl rfl, by decide +kernel⟩
theorem mb_20 : MB 20 := ⟨wc2 79 rfl rfl, wc1 2 rfl rfl, by decide +kernel⟩
theorem mb_21 : MB 21 := ⟨wc2 75 rfl rfl, wc1 2 rfl rfl, by decide +kernel⟩
theorem mb_22 : MB 22 := ⟨wc2 87 rfl rfl, wc1 2 rfl rfl, by decide +kernel⟩
theorem mb_23 : MB 23 := ⟨wc2 95 rfl rfl, wc1 2 rfl rfl, by decide +kernel⟩
theorem mb_24 : MB 24 := ⟨wc2 98 rfl rfl, wc1 6 rfl rfl, by decide +kernel⟩
theorem mb_25 : MB 25 := ⟨wc2 91 rfl rfl, wc1 2 rfl rfl, by decide +kernel⟩
theorem mb_26 : MB 26 := ⟨wc2 83 rfl rfl, wc1 2 rfl rfl, by decide +kernel⟩
theorem mb_27 : MB 27 := ⟨wc2 63 rfl rfl, wc1 2 rfl rfl, by decide +kernel⟩
theorem mb_28 : MB 28 := ⟨wc2 102 rfl rfl, wc1 2 rfl rfl, by decide +kernel⟩
theorem mb_29 : MB 29 := ⟨wc2 110 rfl rfl, wc1 3 rfl rfl, by decide +kernel⟩
theorem mb_30 : MB 30 := ⟨wc2 114 rfl rfl, wc1 3 rfl rfl, by decide +kernel⟩
theorem mb_31 : MB 31 := ⟨wc2 117 rfl rfl, wc1 6 rfl rfl, by decide +kernel⟩
theorem mb_32 : MB 32 := ⟨wc2 106 rfl rfl, wc1 2 rfl rfl, by decide +kernel⟩
theorem mb_33 : MB 33 := ⟨wc2 121 rfl rfl, wc1 3 rfl rfl, by decide +kernel⟩
theorem mb_34 : MB 34 := ⟨wc2 50 rfl rfl, wc1 2 rfl rfl, by decide +kernel⟩
theorem mb_35 : MB 35 := ⟨wc2 127 rfl rfl, wc1 1 rfl rfl, by decide +kernel⟩
theorem mb_36 : MB 36 := ⟨wc2 46 rfl rfl, wc1 1 rfl rfl, by decide +kernel⟩
theorem mb_37 : MB 37 := ⟨wc6 196 rfl rfl, wc1 9 rfl rfl, by decide +kernel⟩
theorem mb_38 : MB 38 := ⟨wc6 192 rfl rfl, wc1 9 rfl rfl, by decide +kernel⟩
theorem mb_39 : MB 39 := ⟨wc6 203 rfl rfl, wc1 9 rfl rfl, by decide +kernel⟩
theorem mb_40 : MB 40 := ⟨wc6 207 rfl rfl, wc1 9 rfl rfl, by decide +kernel⟩
theorem mb_41 : MB 41 := ⟨wc6 211 rfl rfl, wc1 9 rfl rfl, by decide +kernel⟩
theorem mb_42 : MB 42 := ⟨wc6 200 rfl rfl, wc1 9 rfl rfl, by decide +kernel⟩
theorem mb_43 : MB 43 := ⟨wc6 188 rfl rfl, wc1 9 rfl rfl, by decide +kernel⟩
theorem mb_44 : MB 44 := ⟨wc6 214 rfl rfl, wc1 9 rfl rfl, by decide +kernel⟩
theorem mb_45 : MB 45 := ⟨wc6 217 rfl rfl, wc1 9 rfl rfl, by decide +kernel⟩
theorem mb_46 : MB 46 := ⟨wc6 221 rfl rfl, wc1 9 rfl rfl, by decide +kernel⟩
theorem mb_47 : MB 47 := ⟨wc6 184 rfl rfl, wc1 9 rfl rfl, by decide +kernel⟩
theorem mb_48 : MB 48 := ⟨wc2 131 rfl rfl, wc1 1 rfl rfl, by decide +kernel⟩
theorem mb_49 : MB 49 := ⟨wc6 225 rfl rfl, wc1 9 rfl rfl, by decide +kernel⟩
theorem mb_50 : MB 50 := ⟨wc2 139 rfl rfl, wc1 3 rfl rfl, by decide +kernel⟩
theorem mb_51 : MB 51 := ⟨wc2 135 rfl rfl, wc1 1 rfl rfl, by decide +kernel⟩
theorem mb_52 : MB 52 := ⟨wc6 232 rfl rfl, wc1 9 rfl rfl, by decide +kernel⟩
theorem mb_53 : MB 53 := ⟨wc6 229 rfl rfl, wc1 9 rfl rfl, by decide +kernel⟩
theorem mb_54 : MB 54 := ⟨wc2 153 rfl rfl, wc1 2 rfl rfl, by decide +kernel⟩
theorem mb_55 : MB 55 := ⟨wc2 157 rfl rfl, wc1 2 rfl rfl, by decide +kernel⟩
theorem mb_56 : MB 56 := ⟨wc2 168 rfl rfl, wc1 6 rfl rfl, by decide +kernel⟩
theorem mb_57 : MB 57 := ⟨wc2 165 rfl rfl, wc1 1 rfl rfl, by decide +kernel⟩
theorem mb_58 : MB 58 := ⟨wc2 172 rfl rfl, wc1 2 rfl rfl, by decide +kernel⟩
theorem mb_59 : MB 59 := ⟨wc2 161 rfl rfl, wc1 2 rfl rfl, by decide +kernel⟩
theorem mb_60 : MB 60 := ⟨wc2 149 rfl rfl, wc1 2 rfl rfl, by decide +kernel⟩
theorem mb_61 : MB 61 := ⟨wc2 145 rfl rfl, wc1 1 rfl rfl, by decide +kernel⟩
theorem mb_62 : MB 62 := ⟨wc7 0 rfl rfl, wc1 9 rfl rfl, by decide +kernel⟩
theorem mb_63 : MB 63 := ⟨wc7 8 rfl rfl, wc1 9 rfl rfl, by decide +kernel⟩
theorem mb_64 : MB 64 := ⟨wc7 12 rfl rfl, wc1 9 rfl rfl, by decide +kernel⟩
theorem mb_65 : MB 65 := ⟨wc7 16 rfl rfl, wc1 9 rfl rfl, by decide +kernel⟩
theorem mb_66 : MB 66 := ⟨wc7 4 rfl rfl, wc1 9 rfl rfl, by decide +kernel⟩
theorem mb_67 : MB 67 := ⟨wc6 236 rfl rfl, wc1 9 rfl rfl, by decide +kernel⟩
theorem mb_68 : MB 68 := ⟨wc2 180 rfl rfl, wc1 1 rfl rfl, by decide +kernel⟩
theorem mb_69 : MB 69 := ⟨wc2 176 rfl rfl, wc1 1 rfl rfl, by decide +kernel⟩
theorem mb_70 : MB 70 := ⟨wc7 24 rfl rfl, wc1 9 rfl rfl, by decide +kernel⟩
theorem mb_71 : MB 71 := ⟨wc7 20 rfl rfl, wc1 9 rfl rfl, by decide +kernel⟩
theorem mb_72 : MB 72 := ⟨wc2 184 rfl rfl, wc1 1 rfl rfl, by decide +kernel⟩
theorem mb_73 : MB 73 := ⟨wc7 28 rfl rfl, wc1 9 rfl rfl, by decide +kernel⟩
theorem mb_74 : MB 74 := ⟨wc2 188 rfl rfl, wc1 1 rfl rfl, by decide +kernel⟩
theorem mb_75 : MB 75 := ⟨wc7 32 rfl rfl, wc1 9 rfl rfl, by decide +kernel⟩
theorem mb_76 : MB 76 := ⟨wc2 200 rfl rfl, wc1 5 rfl rfl, by decide +kernel⟩
theorem mb_77 : MB 77 := ⟨wc2 209 rfl rfl, wc1 5 rfl rfl, by decide +kernel⟩
theorem mb_78 : MB 78 := ⟨wc2 205 rfl rfl, wc1 5 rfl rfl, by decide +kernel⟩
theorem mb_79 : MB 79 := ⟨wc2 196 rfl rfl, wc1 4 rfl rfl, by decide +kernel⟩
theorem mb_80 : MB 80 := ⟨wc2 218 rfl rfl, wc1 5 rfl rfl, by decide +kernel⟩
theorem mb_81 : MB 81 := ⟨wc2 227 rfl rfl, wc1 3 rfl rfl, by decide +kernel⟩
theorem mb_82 : MB 82 := ⟨wc2 222 rfl rfl, wc1 4 rfl rfl, by decide +kernel⟩
theorem mb_83 : MB 83 := ⟨wc2 214 rfl rfl, wc1 4 rfl rfl, by decide +kernel⟩
theorem mb_84 : MB 84 := ⟨wc2 237 rfl rfl, wc1 5 rfl rfl, by decide +kernel⟩
theorem mb_85 : MB 85 := ⟨wc3 11 rfl rfl, wc1 6 rfl rfl, by decide +kernel⟩
theorem mb_86 : MB 86 := ⟨wc3 8 rfl rfl, wc1 5 rfl rfl, by decide +kernel⟩
theorem mb_87 : MB 87 := ⟨wc3 15 rfl rfl, wc1 11 rfl rfl, by decide +kernel⟩
theorem mb_88 : MB 88 := ⟨wc3 1 rfl rfl, wc1 12 rfl rfl, by decide +kernel⟩
theorem mb_89 : MB 89 := ⟨wc2 233 rfl rfl, wc1 1 rfl rfl, by decide +kernel⟩
theorem mb_90 : MB 90 := ⟨wc2 192 rfl rfl, wc1 1 rfl rfl, by decide +kernel⟩
theorem mb_91 : MB 91 := ⟨wc7 39 rfl rfl, wc1 9 rfl rfl, by decide +kernel⟩
theorem mb_92 : MB 92 := ⟨wc7 43 rfl rfl, wc1 9 rfl rfl, by decide +kernel⟩
theorem mb_93 : MB 93 := ⟨wc7 47 rfl rfl, wc1 9 rfl rfl, by decide +kernel⟩
theorem mb_94 : MB 94 := ⟨wc7 51 rfl rfl, wc1 9 rfl rfl, by decide +kernel⟩
theorem mb_95 : MB 95 := ⟨wc7 36 rfl rfl, wc1 9 rfl rfl, by decide +kernel⟩
theorem mb_96 : MB 96 := ⟨wc3 57 rfl rfl, wc1 12 rfl rfl, by decide +kernel⟩
theorem mb_97 : MB 97 := ⟨wc3 53 rfl rfl, wc1 12 rfl rfl, by decide +kernel⟩
theorem mb_98 : MB 98 := ⟨wc3 61 rfl rfl, wc1 12 rfl rfl, by decide +kernel⟩
theorem mb_99 : MB 99 := ⟨wc3 77 rfl rfl, wc1 12 rfl rfl, by decide +kernel⟩
theorem mb_100 : MB 100 := ⟨wc3 73 rfl rfl, wc1 12 rfl rfl, by decide +kernel⟩
theorem mb_101 : MB 101 := ⟨wc3 68 rfl rfl, wc1 12 rfl rfl, by decide +kernel⟩
theorem mb_102 : MB 102 := ⟨wc3 87 rfl rfl, wc1 3 rfl rfl, by decide +kernel⟩
theorem mb_103 : MB 103 := ⟨wc3 91 rfl rfl, wc1 1 rfl rfl, by decide +kernel⟩
theorem mb_104 : MB 104 := ⟨wc3 98 rfl rfl, wc1 1 rfl rfl, by decide +kernel⟩
theorem mb_105 : MB 105 := ⟨wc3 82 rfl rfl, wc1 1 rfl rfl, by decide +kernel⟩
theorem mb_106 : MB 106 := ⟨wc3 118 rfl rfl, wc1 1 rfl rfl, by decide +kernel⟩
theorem mb_107 : MB 107 := ⟨wc3 113 rfl rfl, wc1 1 rfl rfl, by decide +kernel⟩
theorem mb_108 : MB 108 := ⟨wc3 109 rfl rfl, wc1 1 rfl rfl, by decide +kernel⟩
theorem mb_109 : MB 109 := ⟨wc3 124 rfl rfl, wc1 1 rfl rfl, by decide +kernel⟩
theorem mb_110 : MB 110 := ⟨wc3 104 rfl rfl, wc1 1 rfl rfl, by decide +kernel⟩
theorem mb_111 : MB 111 := ⟨wc3 137 rfl rfl, wc1 1 rfl rfl, by decide +kernel⟩
theorem mb_112 : MB 112 := ⟨wc3 141 rfl rfl, wc1 1 rfl rfl, by decide +kernel⟩
theorem mb_113 : MB 113 := ⟨wc3 133 rfl rfl, wc1 1 rfl rfl, by decide +kernel⟩
theorem mb_114 : MB 114 := ⟨wc3 129 rfl rfl, wc1 1 rfl rfl, by decide +kernel⟩
theorem mb_115 : MB 115 := ⟨wc3 49 rfl rfl, wc1 1 rfl rfl, by decide +kernel⟩
theorem mb_116 : MB 116 := ⟨wc7 59 rfl rfl, wc1 9 rfl rfl, by decide +kernel⟩
theorem mb_117 : MB 117 := ⟨wc7 63 rfl rfl, wc1 9 rfl rfl, by decide +kernel⟩
theorem mb_118 : MB 118 := ⟨wc7 75 rfl rfl, wc1 9 rfl rfl, by decide +kernel⟩
theorem mb_119 : MB 119 := ⟨wc7 71 rfl rfl, wc1 9 rfl rfl, by decide +kernel⟩
theorem mb_120 : MB 120 := ⟨wc7 67 rfl rfl, wc1 9 rfl rfl, by decide +kernel⟩
theorem mb_121 : MB 121 := ⟨wc7 82 rfl rfl, wc1 9 rfl rfl, by decide +kernel⟩
theorem mb_122 : MB 122 := ⟨wc7 85 rfl rfl, wc1 9 rfl rfl, by decide +kernel⟩
theorem mb_123 : MB 123 := ⟨wc7 79 rfl rfl, wc1 9 rfl rfl, by decide +kernel⟩
theorem mb_124 : MB 124 := ⟨wc7 93 rfl rfl, wc1 9 rfl rfl, by decide +kernel⟩
theorem mb_125 : MB 125 := ⟨wc7 101 rfl rfl, wc1 9 rfl rfl, by decide +kernel⟩
theorem mb_126 : MB 126 := ⟨wc7 105 rfl rfl, wc1 9 rfl rfl, by decide +kernel⟩
theorem mb_127 : MB 127 := ⟨wc7 116 rfl rfl, wc1 9 rfl rfl, by decide +kernel⟩
theorem mb_128 : MB 128 := ⟨wc7 113 rfl rfl, wc1 9 rfl rfl, by decide +kernel⟩
theorem mb_129 : MB 129 := ⟨wc7 109 rfl rfl, wc1 9 rfl rfl, by decide +kernel⟩
theorem mb_130 : MB 130 := ⟨wc7 97 rfl rfl, wc1 9 rfl rfl, by decide +kernel⟩
theorem mb_131 : MB 131 := ⟨wc7 89 rfl rfl, wc1 9 rfl rfl, by decide +kernel⟩
theorem mb_132 : MB 132 := ⟨wc7 55 rfl rfl, wc1 9 rfl rfl, by decide +kernel⟩
theorem mb_133 : MB 133 := ⟨wc3 149 rfl rfl, wc1 1 rfl rfl, by decide +kernel⟩
theorem mb_134 : MB 134 := ⟨wc3 145 rfl rfl, wc1 1 rfl rfl, by decide +kernel⟩
theorem mb_135 : MB 135 := ⟨wc7 124 rfl rfl, wc1 9 rfl rfl, by decide +kernel⟩
theorem mb_136 : MB 136 := ⟨wc7 120 rfl rfl, wc1 9 rfl rfl, by decide +kernel⟩
theorem mb_137 : MB 137 := ⟨wc3 153 rfl rfl, wc1 1 rfl rfl, by decide +kernel⟩
theorem mb_138 : MB 138 := ⟨wc7 128 rfl rfl, wc1 9 rfl rfl, by decide +kernel⟩
theorem mb_139 : MB 139 := ⟨wc3 160 rfl rfl, wc1 13 rfl rfl, by decide +kernel⟩
theorem mb_140 : MB 140 := ⟨wc3 157 rfl rfl, wc1 1 rfl rfl, by decide +kernel⟩
theorem mb_141 : MB 141 := ⟨wc7 132 rfl rfl, wc1 9 rfl rfl, by decide +kernel⟩
theorem mb_142 : MB 142 := ⟨wc3 167 rfl rfl, wc1 1 rfl rfl, by decide +kernel⟩
theorem mb_143 : MB 143 := ⟨wc7 136 rfl rfl, wc1 9 rfl rfl, by decide +kernel⟩
theorem mb_144 : MB 144 := ⟨wc3 179 rfl rfl, wc1 3 rfl rfl, by decide +kernel⟩
theorem mb_145 : MB 145 := ⟨wc3 175 rfl rfl, wc1 1 rfl rfl, by decide +kernel⟩
theorem mb_146 : MB 146 := ⟨wc3 183 rfl rfl, wc1 1 rfl rfl, by decide +kernel⟩
theorem mb_147 : MB 147 := ⟨wc3 171 rfl rfl, wc1 1 rfl rfl, by decide +kernel⟩
theorem mb_148 : MB 148 := ⟨wc7 148 rfl rfl, wc1 9 rfl rfl, by decide +kernel⟩
theorem mb_149 : MB 149 := ⟨wc7 144 rfl rfl, wc1 9 rfl rfl, by decide +kernel⟩
theorem mb_150 : MB 150 := ⟨wc7 140 rfl rfl, wc1 9 rfl rfl, by decide +kernel⟩
theorem mb_151 : MB 151 := ⟨wc3 192 rfl rfl, wc1 1 rfl rfl, by decide +kernel⟩
theorem mb_152 : MB 152 := ⟨wc3 195 rfl rfl, wc1 1 rfl rfl, by decide +kernel⟩
theorem mb_153 : MB 153 := ⟨wc3 199 rfl rfl, wc1 3 rfl rfl, by decide +kernel⟩
theorem mb_154 : MB 154 := ⟨wc3 203 rfl rfl, wc1 3 rfl rfl, by decide +kernel⟩
theorem mb_155 : MB 155 := ⟨wc3 189 rfl rfl, wc1 1 rfl rfl, by decide +kernel⟩
theorem mb_156 : MB 156 := ⟨wc7 155 rfl rfl, wc1 9 rfl rfl, by decide +kernel⟩
theorem mb_157 : MB 157 := ⟨wc7 159 rfl rfl, wc1 9 rfl rfl, by decide +kernel⟩
theorem mb_158 : MB 158 := ⟨wc7 152 rfl rfl, wc1 9 rfl rfl, by decide +kernel⟩
theorem mb_159 : MB 159 := ⟨wc3 210 rfl rfl, wc1 1 rfl rfl, by decide +kernel⟩
theorem mb_160 : MB 160 := ⟨wc3 213 rfl rfl, wc1 1 rfl rfl, by decide +kernel⟩
theorem mb_161 : MB 161 := ⟨wc3 216 rfl rfl, wc1 14 rfl rfl, by decide +kernel⟩
theorem mb_162 : MB 162 := ⟨wc3 226 rfl rfl, wc1 14 rfl rfl, by decide +kernel⟩
theorem mb_163 : MB 163 := ⟨wc3 220 rfl rfl, wc1 15 rfl rfl, by decide +kernel⟩
theorem mb_164 : MB 164 := ⟨wc4 46 rfl rfl, wc1 14 rfl rfl, by decide +kernel⟩
theorem mb_165 : MB 165 := ⟨wc4 50 rfl rfl, wc1 14 rfl rfl, by decide +kernel⟩
theorem mb_166 : MB 166 := ⟨wc4 63 rfl rfl, wc1 6 rfl rfl, by decide +kernel⟩
theorem mb_167 : MB 167 := ⟨wc4 60 rfl rfl, wc1 14 rfl rfl, by decide +kernel⟩
theorem mb_168 : MB 168 := ⟨wc4 67 rfl rfl, wc1 14 rfl rfl, by decide +kernel⟩
theorem mb_169 : MB 169 := ⟨wc4 71 rfl rfl, wc1 14 rfl rfl, by decide +kernel⟩
theorem mb_170 : MB 170 := ⟨wc4 76 rfl rfl, wc1 14 rfl rfl, by decide +kernel⟩
theorem mb_171 : MB 171 := ⟨wc4 81 rfl rfl, wc1 14 rfl rfl, by decide +kernel⟩
theorem mb_172 : MB 172 := ⟨wc4 85 rfl rfl, wc1 14 rfl rfl, by decide +kernel⟩
theorem mb_173 : MB 173 := ⟨wc4 89 rfl rfl, wc1 14 rfl rfl, by decide +kernel⟩
theorem mb_174 : MB 174 := ⟨wc4 55 rfl rfl, wc1 14 rfl rfl, by decide +kernel⟩
theorem mb_175 : MB 175 := ⟨wc3 207 rfl rfl, wc1 1 rfl rfl, by decide +kernel⟩
theorem mb_176 : MB 176 := ⟨wc7 168 rfl rfl, wc1 9 rfl rfl, by decide +kernel⟩
theorem mb_177 : MB 177 := ⟨wc7 172 rfl rfl, wc1 9 rfl rfl, by decide +kernel⟩
theorem mb_178 : MB 178 := ⟨wc7 184 rfl rfl, wc1 9 rfl rfl, by decide +kernel⟩
theorem mb_179 : MB 179 := ⟨wc7 188 rfl rfl, wc1 9 rfl rfl, by decide +kernel⟩
theorem mb_180 : MB 180 := ⟨wc7 181 rfl rfl, wc1 9 rfl rfl, by decide +kernel⟩
theorem mb_181 : MB 181 := ⟨wc7 176 rfl rfl, wc1 9 rfl rfl, by decide +kernel⟩
theorem mb_182 : MB 182 := ⟨wc7 195 rfl rfl, wc1 9 rfl rfl, by decide +kernel⟩
theorem mb_183 : MB 183 := ⟨wc7 192 rfl rfl, wc1 9 rfl rfl, by decide +kernel⟩
theorem mb_184 : MB 184 := ⟨wc7 164 rfl rfl, wc1 9 rfl rfl, by decide +kernel⟩
theorem mb_185 : MB 185 := ⟨wc4 97 rfl rfl, wc1 1 rfl rfl, by decide +kernel⟩
theorem mb_186 : MB 186 := ⟨wc4 104 rfl rfl, wc1 1 rfl rfl, by decide +kernel⟩
theorem mb_187 : MB 187 := ⟨wc4 109 rfl rfl, wc1 14 rfl rfl, by decide +kernel⟩
theorem mb_188 : MB 188 := ⟨wc4 121 rfl rfl, wc1 14 rfl rfl, by decide +kernel⟩
theorem mb_189 : MB 189 := ⟨wc4 117 rfl rfl, wc1 15 rfl rfl, by decide +kernel⟩
theorem mb_190 : MB 190 := ⟨wc4 113 rfl rfl, wc1 15 rfl rfl, by decide +kernel⟩
theorem mb_191 : MB 191 := ⟨wc4 101 rfl rfl, wc1 15 rfl rfl, by decide +kernel⟩
theorem mb_192 : MB 192 := ⟨wc4 125 rfl rfl, wc1 14 rfl rfl, by decide +kernel⟩
theorem mb_193 : MB 193 := ⟨wc4 130 rfl rfl, wc1 14 rfl rfl, by decide +kernel⟩
theorem mb_194 : MB 194 := ⟨wc4 93 rfl rfl, wc1 1 rfl rfl, by decide +kernel⟩
theorem mb_195 : MB 195 := ⟨wc7 203 rfl rfl, wc1 9 rfl rfl, by decide +kernel⟩
theorem mb_196 : MB 196 := ⟨wc7 199 rfl rfl, wc1 9 rfl rfl, by decide +kernel⟩
theorem mb_197 : MB 197 := ⟨wc4 142 rfl rfl, wc1 14 rfl rfl, by decide +kernel⟩
theorem mb_198 : MB 198 := ⟨wc4 138 rfl rfl, wc1 1 rfl rfl, by decide +kernel⟩
theorem mb_199 : MB 199 := ⟨wc4 134 rfl rfl, wc1 1 rfl rfl, by decide +kernel⟩
theorem mb_200 : MB 200 := ⟨wc7 207 rfl rfl, wc1 9 rfl rfl, by decide +kernel⟩
theorem mb_201 : MB 201 := ⟨wc4 176 rfl rfl, wc1 16 rfl rfl, by decide +kernel⟩
theorem mb_202 : MB 202 := ⟨wc4 172 rfl rfl, wc1 15 rfl rfl, by decide +kernel⟩
theorem mb_203 : MB 203 := ⟨wc4 168 rfl rfl, wc1 15 rfl rfl, by decide +kernel⟩
theorem mb_204 : MB 204 := ⟨wc4 164 rfl rfl, wc1 15 rfl rfl, by decide +kernel⟩
theorem mb_205 : MB 205 := ⟨wc4 158 rfl rfl, wc1 15 rfl rfl, by decide +kernel⟩
theorem mb_206 : MB 206 := ⟨wc4 152 rfl rfl, wc1 15 rfl rfl, by decide +kernel⟩
theorem mb_207 : MB 207 := ⟨wc4 148 rfl rfl, wc1 1 rfl rfl, by decide +kernel⟩
theorem mb_208 : MB 208 := ⟨wc7 223 rfl rfl, wc1 9 rfl rfl, by decide +kernel⟩
theorem mb_209 : MB 209 := ⟨wc7 219 rfl rfl, wc1 9 rfl rfl, by decide +kernel⟩
theorem mb_210 : MB 210 := ⟨wc7 215 rfl rfl, wc1 9 rfl rfl, by decide +kernel⟩
theorem mb_211 : MB 211 := ⟨wc7 211 rfl rfl, wc1 9 rfl rfl, by decide +kernel⟩
theorem mb_212 : MB 212 := ⟨wc4 181 rfl rfl, wc1 1 rfl rfl, by decide +kernel⟩
theorem mb_213 : MB 213 := ⟨wc7 227 rfl rfl, wc1 9 rfl rfl, by decide +kernel⟩
theorem mb_214 : MB 214 := ⟨wc4 189 rfl rfl, wc1 17 rfl rfl, by decide +kernel⟩
theorem mb_215 : MB 215 := ⟨wc4 185 rfl rfl, wc1 1 rfl rfl, by decide +kernel⟩
theorem mb_216 : MB 216 := ⟨wc7 231 rfl rfl, wc1 9 rfl rfl, by decide +kernel⟩
theorem mb_217 : MB 217 := ⟨wc4 238 rfl rfl, wc1 1 rfl rfl, by decide +kernel⟩
theorem mb_218 : MB 218 := ⟨wc5 6 rfl rfl, wc1 17 rfl rfl, by decide +kernel⟩
theorem mb_219 : MB 219 := ⟨wc5 11 rfl rfl, wc1 17 rfl rfl, by decide +kernel⟩
theorem mb_220 : MB 220 := ⟨wc5 2 rfl rfl, wc1 17 rfl rfl, by decide +kernel⟩
theorem mb_221 : MB 221 := ⟨wc4 234 rfl rfl, wc1 1 rfl rfl, by decide +kernel⟩
theorem mb_222 : MB 222 := ⟨wc8 0 rfl rfl, wc1 9 rfl rfl, by decide +kernel⟩
theorem mb_223 : MB 223 := ⟨wc7 236 rfl rfl, wc1 9 rfl rfl, by decide +kernel⟩
theorem mb_224 : MB 224 := ⟨wc5 20 rfl rfl, wc1 17 rfl rfl, by decide +kernel⟩
theorem mb_225 : MB 225 := ⟨wc5 24 rfl rfl, wc1 17 rfl rfl, by decide +kernel⟩
theorem mb_226 : MB 226 := ⟨wc5 28 rfl rfl, wc1 17 rfl rfl, by decide +kernel⟩
theorem mb_227 : MB 227 := ⟨wc5 16 rfl rfl, wc1 1 rfl rfl, by decide +kernel⟩
theorem mb_228 : MB 228 := ⟨wc8 8 rfl rfl, wc1 9 rfl rfl, by decide +kernel⟩
theorem mb_229 : MB 229 := ⟨wc8 4 rfl rfl, wc1 9 rfl rfl, by decide +kernel⟩
theorem mb_230 : MB 230 := ⟨wc5 46 rfl rfl, wc1 11 rfl rfl, by decide +kernel⟩
theorem mb_231 : MB 231 := ⟨wc5 43 rfl rfl, wc1 7 rfl rfl, by decide +kernel⟩
theorem mb_232 : MB 232 := ⟨wc5 52 rfl rfl, wc1 7 rfl rfl, by decide +kernel⟩
theorem mb_233 : MB 233 := ⟨wc5 36 rfl rfl, wc1 7 rfl rfl, by decide +kernel⟩
theorem mb_234 : MB 234 := ⟨wc5 32 rfl rfl, wc1 1 rfl rfl, by decide +kernel⟩
theorem mb_235 : MB 235 := ⟨wc8 20 rfl rfl, wc1 9 rfl rfl, by decide +kernel⟩
theorem mb_236 : MB 236 := ⟨wc8 25 rfl rfl, wc1 9 rfl rfl, by decide +kernel⟩
theorem mb_237 : MB 237 := ⟨wc8 16 rfl rfl, wc1 9 rfl rfl, by decide +kernel⟩
theorem mb_238 : MB 238 := ⟨wc8 12 rfl rfl, wc1 9 rfl rfl, by decide +kernel⟩
theorem mb_239 : MB 239 := ⟨wc5 69 rfl rfl, wc1 17 rfl rfl, by decide +kernel⟩
theorem mb_240 : MB 240 := ⟨wc5 73 rfl rfl, wc1 17 rfl rfl, by decide +kernel⟩
theorem mb_241 : MB 241 := ⟨wc5 78 rfl rfl, wc1 6 rfl rfl, by decide +kernel⟩
theorem mb_242 : MB 242 := ⟨wc5 64 rfl rfl, wc1 17 rfl rfl, by decide +kernel⟩
theorem mb_243 : MB 243 := ⟨wc5 60 rfl rfl, wc1 1 rfl rfl, by decide +kernel⟩
theorem mb_244 : MB 244 := ⟨wc8 35 rfl rfl, wc1 9 rfl rfl, by decide +kernel⟩
theorem mb_245 : MB 245 := ⟨wc8 31 rfl rfl, wc1 9 rfl rfl, by decide +kernel⟩
theorem mb_246 : MB 246 := ⟨wc5 86 rfl rfl, wc1 17 rfl rfl, by decide +kernel⟩
theorem mb_247 : MB 247 := ⟨wc5 82 rfl rfl, wc1 1 rfl rfl, by decide +kernel⟩
theorem mb_248 : MB 248 := ⟨wc8 39 rfl rfl, wc1 9 rfl rfl, by decide +kernel⟩
theorem mb_249 : MB 249 := ⟨wc5 99 rfl rfl, wc1 18 rfl rfl, by decide +kernel⟩
theorem mb_250 : MB 250 := ⟨wc5 131 rfl rfl, wc1 18 rfl rfl, by decide +kernel⟩
theorem mb_251 : MB 251 := ⟨wc5 140 rfl rfl, wc1 7 rfl rfl, by decide +kernel⟩
theorem mb_252 : MB 252 := ⟨wc5 149 rfl rfl, wc1 18 rfl rfl, by decide +kernel⟩
theorem mb_253 : MB 253 := ⟨wc5 154 rfl rfl, wc1 18 rfl rfl, by decide +kernel⟩
theorem mb_254 : MB 254 := ⟨wc5 145 rfl rfl, wc1 18 rfl rfl, by decide +kernel⟩
theorem mb_255 : MB 255 := ⟨wc5 128 rfl rfl, wc1 18 rfl rfl, by decide +kernel⟩
theorem mb_256 : MB 256 := ⟨wc5 124 rfl rfl, wc1 18 rfl rfl, by decide +kernel⟩
theorem mb_257 : MB 257 := ⟨wc5 94 rfl rfl, wc1 1 rfl rfl, by decide +kernel⟩
theorem mb_258 : MB 258 := ⟨wc5 90 rfl rfl, wc1 1 rfl rfl, by decide +kernel⟩
theorem mb_259 : MB 259 := ⟨wc8 51 rfl rfl, wc1 9 rfl rfl, by decide +kernel⟩
theorem mb_260 : MB 260 := ⟨wc8 47 rfl rfl, wc1 9 rfl rfl, by decide +kernel⟩
theorem mb_261 : MB 261 := ⟨wc8 43 rfl rfl, wc1 9 rfl rfl, by decide +kernel⟩
theorem mb_262 : MB 262 := ⟨wc5 158 rfl rfl, wc1 1 rfl rfl, by decide +kernel⟩
theorem mb_263 : MB 263 := ⟨wc8 55 rfl rfl, wc1 9 rfl rfl, by decide +kernel⟩
theorem mb_264 : MB 264 := ⟨wc5 166 rfl rfl, wc1 17 rfl rfl, by decide +kernel⟩
theorem mb_265 : MB 265 := ⟨wc5 162 rfl rfl, wc1 1 rfl rfl, by decide +kernel⟩
theorem mb_266 : MB 266 := ⟨wc8 59 rfl rfl, wc1 9 rfl rfl, by decide +kernel⟩
theorem mb_267 : MB 267 := ⟨wc5 175 rfl rfl, wc1 8 rfl rfl, by decide +kernel⟩
theorem mb_268 : MB 268 := ⟨wc5 171 rfl rfl, wc1 1 rfl rfl, by decide +kernel⟩
theorem mb_269 : MB 269 := ⟨wc8 63 rfl rfl, wc1 9 rfl rfl, by decide +kernel⟩
theorem mb_270 : MB 270 := ⟨wc5 193 rfl rfl, wc1 8 rfl rfl, by decide +kernel⟩
theorem mb_271 : MB 271 := ⟨wc5 197 rfl rfl, wc1 8 rfl rfl, by decide +kernel⟩
theorem mb_272 : MB 272 := ⟨wc5 201 rfl rfl, wc1 8 rfl rfl, by decide +kernel⟩
theorem mb_273 : MB 273 := ⟨wc5 189 rfl rfl, wc1 8 rfl rfl, by decide +kernel⟩
theorem mb_274 : MB 274 := ⟨wc5 185 rfl rfl, wc1 8 rfl rfl, by decide +kernel⟩
theorem mb_275 : MB 275 := ⟨wc5 181 rfl rfl, wc1 1 rfl rfl, by decide +kernel⟩
theorem mb_276 : MB 276 := ⟨wc8 82 rfl rfl, wc1 9 rfl rfl, by decide +kernel⟩
theorem mb_277 : MB 277 := ⟨wc8 78 rfl rfl, wc1 9 rfl rfl, by decide +kernel⟩
theorem mb_278 : MB 278 := ⟨wc8 74 rfl rfl, wc1 9 rfl rfl, by decide +kernel⟩
theorem mb_279 : MB 279 := ⟨wc8 70 rfl rfl, wc1 9 rfl rfl, by decide +kernel⟩
theorem st_2 : Cond.static (yM 2) ∈ wsG := wc1 96 rfl rfl
theorem st_12 : Cond.static (yM 12) ∈ wsG := wc2 41 rfl rfl
theorem st_24 : Cond.static (yM 24) ∈ wsG := wc2 97 rfl rfl
theorem st_31 : Cond.static (yM 31) ∈ wsG := wc2 116 rfl rfl
theorem st_39 : Cond.static (yM 39) ∈ wsG := wc6 202 rfl rfl
theorem st_44 : Cond.static (yM 44) ∈ wsG := wc6 213 rfl rfl
theorem st_45 : Cond.static (yM 45) ∈ wsG := wc6 216 rfl rfl
theorem st_52 : Cond.static (yM 52) ∈ wsG := wc6 231 rfl rfl
theorem st_56 : Cond.static (yM 56) ∈ wsG := wc2 167 rfl rfl
theorem st_57 : Cond.static (yM 57) ∈ wsG := wc2 164 rfl rfl
theorem st_85 : Cond.static (yM 85) ∈ wsG := wc3 10 rfl rfl
theorem st_87 : Cond.static (yM 87) ∈ wsG := wc3 14 rfl rfl
theorem st_91 : Cond.static (yM 91) ∈ wsG := wc7 38 rfl rfl
theorem st_103 : Cond.static (yM 103) ∈ wsG := wc3 90 rfl rfl
theorem st_104 : Cond.static (yM 104) ∈ wsG := wc3 97 rfl rfl
theorem st_121 : Cond.static (yM 121) ∈ wsG := wc7 81 rfl rfl
theorem st_122 : Cond.static (yM 122) ∈ wsG := wc7 84 rfl rfl
theorem st_127 : Cond.static (yM 127) ∈ wsG := wc7 115 rfl rfl
theorem st_139 : Cond.static (yM 139) ∈ wsG := wc3 159 rfl rfl
theorem st_151 : Cond.static (yM 151) ∈ wsG := wc3 191 rfl rfl
theorem st_152 : Cond.static (yM 152) ∈ wsG := wc3 194 rfl rfl
theorem st_156 : Cond.static (yM 156) ∈ wsG := wc7 154 rfl rfl
theorem st_159 : Cond.static (yM 159) ∈ wsG := wc3 209 rfl rfl
theorem st_160 : Cond.static (yM 160) ∈ wsG := wc3 212 rfl rfl
theorem st_161 : Cond.static (yM 161) ∈ wsG := wc3 215 rfl rfl
theorem st_166 : Cond.static (yM 166) ∈ wsG := wc4 62 rfl rfl
theorem st_176 : Cond.static (yM 176) ∈ wsG := wc7 167 rfl rfl
theorem st_177 : Cond.static (yM 177) ∈ wsG := wc7 171 rfl rfl
theorem st_178 : Cond.static (yM 178) ∈ wsG := wc7 183 rfl rfl
theorem st_182 : Cond.static (yM 182) ∈ wsG := wc7 194 rfl rfl
theorem st_183 : Cond.static (yM 183) ∈ wsG := wc7 191 rfl rfl
theorem st_186 : Cond.static (yM 186) ∈ wsG := wc4 103 rfl rfl
theorem st_201 : Cond.static (yM 201) ∈ wsG := wc4 175 rfl rfl
theorem st_230 : Cond.static (yM 230) ∈ wsG := wc5 45 rfl rfl
theorem st_241 : Cond.static (yM 241) ∈ wsG := wc5 77 rfl rfl
theorem st_250 : Cond.static (yM 250) ∈ wsG := wc5 130 rfl rfl
theorem im_0 : Cond.instanceMethod (yM 0) ∈ wsG := wc1 36 rfl rfl
theorem im_1 : Cond.instanceMethod (yM 1) ∈ wsG := wc1 30 rfl rfl
theorem im_3 : Cond.instanceMethod (yM 3) ∈ wsG := wc1 92 rfl rfl
theorem im_4 : Cond.instanceMethod (yM 4) ∈ wsG := wc1 86 rfl rfl
theorem im_5 : Cond.instanceMethod (yM 5) ∈ wsG := wc1 154 rfl rfl
theorem im_6 : Cond.instanceMethod (yM 6) ∈ wsG := wc1 178 rfl rfl
theorem im_7 : Cond.instanceMethod (yM 7) ∈ wsG := wc1 22 rfl rfl
theorem im_8 : Cond.instanceMethod (yM 8) ∈ wsG := wc5 207 rfl rfl
theorem im_9 : Cond.instanceMethod (yM 9) ∈ wsG := wc2 26 rfl rfl
theorem sl_9 : Cond.selects "CrystalHouse$Scribe" (yM 9) (yM 9) ∈ wsG := wc2 27 rfl rfl
theorem im_10 : Cond.instanceMethod (yM 10) ∈ wsG := wc2 22 rfl rfl
theorem sl_10 : Cond.selects "CrystalHouse" (yM 10) (yM 10) ∈ wsG := wc2 23 rfl rfl
theorem im_11 : Cond.instanceMethod (yM 11) ∈ wsG := wc6 174 rfl rfl
theorem sl_11 : Cond.selects "CrystalHouseModel" (yM 11) (yM 11) ∈ wsG := wc6 175 rfl rfl
theorem im_13 : Cond.instanceMethod (yM 13) ∈ wsG := wc2 34 rfl rfl
theorem sl_13 : Cond.selects "CrystalHouse$Scribe" (yM 13) (yM 13) ∈ wsG := wc2 35 rfl rfl
theorem im_14 : Cond.instanceMethod (yM 14) ∈ wsG := wc2 30 rfl rfl
theorem sl_14 : Cond.selects "CrystalHouse" (yM 14) (yM 14) ∈ wsG := wc2 31 rfl rfl
theorem im_15 : Cond.instanceMethod (yM 15) ∈ wsG := wc6 178 rfl rfl
theorem sl_15 : Cond.selects "CrystalHouseModel" (yM 15) (yM 15) ∈ wsG := wc6 179 rfl rfl
theorem im_16 : Cond.instanceMethod (yM 16) ∈ wsG := wc2 52 rfl rfl
theorem sl_16 : Cond.selects "CrystalHouse$Scribe" (yM 16) (yM 16) ∈ wsG := wc2 53 rfl rfl
theorem im_17 : Cond.instanceMethod (yM 17) ∈ wsG := wc2 56 rfl rfl
theorem sl_17 : Cond.selects "CrystalHouse$Motion" (yM 17) (yM 17) ∈ wsG := wc2 57 rfl rfl
theorem im_18 : Cond.instanceMethod (yM 18) ∈ wsG := wc2 65 rfl rfl
theorem sl_18 : Cond.selects "CrystalHouse$Scribe" (yM 18) (yM 18) ∈ wsG := wc2 66 rfl rfl
theorem im_19 : Cond.instanceMethod (yM 19) ∈ wsG := wc2 69 rfl rfl
theorem sl_19 : Cond.selects "CrystalHouse$Scribe" (yM 19) (yM 19) ∈ wsG := wc2 70 rfl rfl
theorem im_20 : Cond.instanceMethod (yM 20) ∈ wsG := wc2 77 rfl rfl
theorem sl_20 : Cond.selects "CrystalHouse$Scribe" (yM 20) (yM 20) ∈ wsG := wc2 78 rfl rfl
theorem im_21 : Cond.instanceMethod (yM 21) ∈ wsG := wc2 73 rfl rfl
theorem sl_21 : Cond.selects "CrystalHouse$Scribe" (yM 21) (yM 21) ∈ wsG := wc2 74 rfl rfl
theorem im_22 : Cond.instanceMethod (yM 22) ∈ wsG := wc2 85 rfl rfl
theorem sl_22 : Cond.selects "CrystalHouse$Scribe" (yM 22) (yM 22) ∈ wsG := wc2 86 rfl rfl
theorem im_23 : Cond.instanceMethod (yM 23) ∈ wsG := wc2 93 rfl rfl
theorem sl_23 : Cond.selects "CrystalHouse$Scribe" (yM 23) (yM 23) ∈ wsG := wc2 94 rfl rfl
theorem im_25 : Cond.instanceMethod (yM 25) ∈ wsG := wc2 89 rfl rfl
theorem sl_25 : Cond.selects "CrystalHouse$Scribe" (yM 25) (yM 25) ∈ wsG := wc2 90 rfl rfl
theorem im_26 : Cond.instanceMethod (yM 26) ∈ wsG := wc2 81 rfl rfl
theorem sl_26 : Cond.selects "CrystalHouse$Scribe" (yM 26) (yM 26) ∈ wsG := wc2 82 rfl rfl
theorem im_27 : Cond.instanceMethod (yM 27) ∈ wsG := wc2 61 rfl rfl
theorem sl_27 : Cond.selects "CrystalHouse$Scribe" (yM 27) (yM 27) ∈ wsG := wc2 62 rfl rfl
theorem im_28 : Cond.instanceMethod (yM 28) ∈ wsG := wc2 100 rfl rfl
theorem sl_28 : Cond.selects "CrystalHouse$Scribe" (yM 28) (yM 28) ∈ wsG := wc2 101 rfl rfl
theorem im_29 : Cond.instanceMethod (yM 29) ∈ wsG := wc2 108 rfl rfl
theorem sl_29 : Cond.selects "CrystalHouse$Motion" (yM 29) (yM 29) ∈ wsG := wc2 109 rfl rfl
theorem im_30 : Cond.instanceMethod (yM 30) ∈ wsG := wc2 112 rfl rfl
theorem sl_30 : Cond.selects "CrystalHouse$Motion" (yM 30) (yM 30) ∈ wsG := wc2 113 rfl rfl
theorem im_32 : Cond.instanceMethod (yM 32) ∈ wsG := wc2 104 rfl rfl
theorem sl_32 : Cond.selects "CrystalHouse$Scribe" (yM 32) (yM 32) ∈ wsG := wc2 105 rfl rfl
theorem im_33 : Cond.instanceMethod (yM 33) ∈ wsG := wc2 119 rfl rfl
theorem sl_33 : Cond.selects "CrystalHouse$Motion" (yM 33) (yM 33) ∈ wsG := wc2 120 rfl rfl
theorem im_34 : Cond.instanceMethod (yM 34) ∈ wsG := wc2 48 rfl rfl
theorem sl_34 : Cond.selects "CrystalHouse$Scribe" (yM 34) (yM 34) ∈ wsG := wc2 49 rfl rfl
theorem im_35 : Cond.instanceMethod (yM 35) ∈ wsG := wc2 126 rfl rfl
theorem sl_35 : Cond.selects "CrystalHouse" (yM 35) (yM 35) ∈ wsG := wt_s 0 ⟨rfl, rfl⟩
theorem im_36 : Cond.instanceMethod (yM 36) ∈ wsG := wc2 44 rfl rfl
theorem sl_36 : Cond.selects "CrystalHouse" (yM 36) (yM 36) ∈ wsG := wc2 45 rfl rfl
theorem im_37 : Cond.instanceMethod (yM 37) ∈ wsG := wc6 195 rfl rfl
theorem sl_37 : Cond.selects "CrystalHouseModel" (yM 37) (yM 37) ∈ wsG := wt_s 22 ⟨rfl, rfl⟩
theorem im_38 : Cond.instanceMethod (yM 38) ∈ wsG := wc6 191 rfl rfl
theorem sl_38 : Cond.selects "CrystalHouseModel" (yM 38) (yM 38) ∈ wsG := wt_s 21 ⟨rfl, rfl⟩
theorem im_40 : Cond.instanceMethod (yM 40) ∈ wsG := wc6 206 rfl rfl
theorem sl_40 : Cond.selects "CrystalHouseModel" (yM 40) (yM 40) ∈ wsG := wt_s 24 ⟨rfl, rfl⟩
theorem im_41 : Cond.instanceMethod (yM 41) ∈ wsG := wc6 210 rfl rfl
theorem sl_41 : Cond.selects "CrystalHouseModel" (yM 41) (yM 41) ∈ wsG := wt_s 25 ⟨rfl, rfl⟩
theorem im_42 : Cond.instanceMethod (yM 42) ∈ wsG := wc6 199 rfl rfl
theorem sl_42 : Cond.selects "CrystalHouseModel" (yM 42) (yM 42) ∈ wsG := wt_s 23 ⟨rfl, rfl⟩
theorem im_43 : Cond.instanceMethod (yM 43) ∈ wsG := wc6 187 rfl rfl
theorem sl_43 : Cond.selects "CrystalHouseModel" (yM 43) (yM 43) ∈ wsG := wt_s 20 ⟨rfl, rfl⟩
theorem im_46 : Cond.instanceMethod (yM 46) ∈ wsG := wc6 220 rfl rfl
theorem sl_46 : Cond.selects "CrystalHouseModel" (yM 46) (yM 46) ∈ wsG := wt_s 26 ⟨rfl, rfl⟩
theorem im_47 : Cond.instanceMethod (yM 47) ∈ wsG := wc6 182 rfl rfl
theorem sl_47 : Cond.selects "CrystalHouseModel" (yM 47) (yM 47) ∈ wsG := wc6 183 rfl rfl
theorem im_48 : Cond.instanceMethod (yM 48) ∈ wsG := wc2 129 rfl rfl
theorem sl_48 : Cond.selects "CrystalHouse" (yM 48) (yM 48) ∈ wsG := wc2 130 rfl rfl
theorem im_49 : Cond.instanceMethod (yM 49) ∈ wsG := wc6 223 rfl rfl
theorem sl_49 : Cond.selects "CrystalHouseModel" (yM 49) (yM 49) ∈ wsG := wc6 224 rfl rfl
theorem im_50 : Cond.instanceMethod (yM 50) ∈ wsG := wc2 137 rfl rfl
theorem sl_50 : Cond.selects "CrystalHouse$Motion" (yM 50) (yM 50) ∈ wsG := wc2 138 rfl rfl
theorem im_51 : Cond.instanceMethod (yM 51) ∈ wsG := wc2 133 rfl rfl
theorem sl_51 : Cond.selects "CrystalHouse" (yM 51) (yM 51) ∈ wsG := wc2 134 rfl rfl
theorem im_53 : Cond.instanceMethod (yM 53) ∈ wsG := wc6 227 rfl rfl
theorem sl_53 : Cond.selects "CrystalHouseModel" (yM 53) (yM 53) ∈ wsG := wc6 228 rfl rfl
theorem im_54 : Cond.instanceMethod (yM 54) ∈ wsG := wc2 151 rfl rfl
theorem sl_54 : Cond.selects "CrystalHouse$Scribe" (yM 54) (yM 54) ∈ wsG := wc2 152 rfl rfl
theorem im_55 : Cond.instanceMethod (yM 55) ∈ wsG := wc2 155 rfl rfl
theorem sl_55 : Cond.selects "CrystalHouse$Scribe" (yM 55) (yM 55) ∈ wsG := wc2 156 rfl rfl
theorem im_58 : Cond.instanceMethod (yM 58) ∈ wsG := wc2 170 rfl rfl
theorem sl_58 : Cond.selects "CrystalHouse$Scribe" (yM 58) (yM 58) ∈ wsG := wc2 171 rfl rfl
theorem im_59 : Cond.instanceMethod (yM 59) ∈ wsG := wc2 159 rfl rfl
theorem sl_59 : Cond.selects "CrystalHouse$Scribe" (yM 59) (yM 59) ∈ wsG := wc2 160 rfl rfl
theorem im_60 : Cond.instanceMethod (yM 60) ∈ wsG := wc2 147 rfl rfl
theorem sl_60 : Cond.selects "CrystalHouse$Scribe" (yM 60) (yM 60) ∈ wsG := wc2 148 rfl rfl
theorem im_61 : Cond.instanceMethod (yM 61) ∈ wsG := wc2 143 rfl rfl
theorem sl_61 : Cond.selects "CrystalHouse" (yM 61) (yM 61) ∈ wsG := wc2 144 rfl rfl
theorem im_62 : Cond.instanceMethod (yM 62) ∈ wsG := wc6 239 rfl rfl
theorem sl_62 : Cond.selects "CrystalHouseModel" (yM 62) (yM 62) ∈ wsG := wt_s 27 ⟨rfl, rfl⟩
theorem im_63 : Cond.instanceMethod (yM 63) ∈ wsG := wc7 7 rfl rfl
theorem sl_63 : Cond.selects "CrystalHouseModel" (yM 63) (yM 63) ∈ wsG := wt_s 29 ⟨rfl, rfl⟩
theorem im_64 : Cond.instanceMethod (yM 64) ∈ wsG := wc7 11 rfl rfl
theorem sl_64 : Cond.selects "CrystalHouseModel" (yM 64) (yM 64) ∈ wsG := wt_s 30 ⟨rfl, rfl⟩
theorem im_65 : Cond.instanceMethod (yM 65) ∈ wsG := wc7 15 rfl rfl
theorem sl_65 : Cond.selects "CrystalHouseModel" (yM 65) (yM 65) ∈ wsG := wt_s 31 ⟨rfl, rfl⟩
theorem im_66 : Cond.instanceMethod (yM 66) ∈ wsG := wc7 3 rfl rfl
theorem sl_66 : Cond.selects "CrystalHouseModel" (yM 66) (yM 66) ∈ wsG := wt_s 28 ⟨rfl, rfl⟩
theorem im_67 : Cond.instanceMethod (yM 67) ∈ wsG := wc6 234 rfl rfl
theorem sl_67 : Cond.selects "CrystalHouseModel" (yM 67) (yM 67) ∈ wsG := wc6 235 rfl rfl
theorem im_68 : Cond.instanceMethod (yM 68) ∈ wsG := wc2 179 rfl rfl
theorem sl_68 : Cond.selects "CrystalHouse" (yM 68) (yM 68) ∈ wsG := wt_s 1 ⟨rfl, rfl⟩
theorem im_69 : Cond.instanceMethod (yM 69) ∈ wsG := wc2 174 rfl rfl
theorem sl_69 : Cond.selects "CrystalHouse" (yM 69) (yM 69) ∈ wsG := wc2 175 rfl rfl
theorem im_70 : Cond.instanceMethod (yM 70) ∈ wsG := wc7 23 rfl rfl
theorem sl_70 : Cond.selects "CrystalHouseModel" (yM 70) (yM 70) ∈ wsG := wt_s 32 ⟨rfl, rfl⟩
theorem im_71 : Cond.instanceMethod (yM 71) ∈ wsG := wc7 18 rfl rfl
theorem sl_71 : Cond.selects "CrystalHouseModel" (yM 71) (yM 71) ∈ wsG := wc7 19 rfl rfl
theorem im_72 : Cond.instanceMethod (yM 72) ∈ wsG := wc2 182 rfl rfl
theorem sl_72 : Cond.selects "CrystalHouse" (yM 72) (yM 72) ∈ wsG := wc2 183 rfl rfl
theorem im_73 : Cond.instanceMethod (yM 73) ∈ wsG := wc7 26 rfl rfl
theorem sl_73 : Cond.selects "CrystalHouseModel" (yM 73) (yM 73) ∈ wsG := wc7 27 rfl rfl
theorem im_74 : Cond.instanceMethod (yM 74) ∈ wsG := wc2 186 rfl rfl
theorem sl_74 : Cond.selects "CrystalHouse" (yM 74) (yM 74) ∈ wsG := wc2 187 rfl rfl
theorem im_75 : Cond.instanceMethod (yM 75) ∈ wsG := wc7 30 rfl rfl
theorem sl_75 : Cond.selects "CrystalHouseModel" (yM 75) (yM 75) ∈ wsG := wc7 31 rfl rfl
theorem im_76 : Cond.instanceMethod (yM 76) ∈ wsG := wc2 198 rfl rfl
theorem sl_76 : Cond.selects "CrystalHouse$Row" (yM 76) (yM 76) ∈ wsG := wc2 199 rfl rfl
theorem im_77 : Cond.instanceMethod (yM 77) ∈ wsG := wc2 207 rfl rfl
theorem sl_77 : Cond.selects "CrystalHouse$Row" (yM 77) (yM 77) ∈ wsG := wc2 208 rfl rfl
theorem im_78 : Cond.instanceMethod (yM 78) ∈ wsG := wc2 203 rfl rfl
theorem sl_78 : Cond.selects "CrystalHouse$Row" (yM 78) (yM 78) ∈ wsG := wc2 204 rfl rfl
theorem im_79 : Cond.instanceMethod (yM 79) ∈ wsG := wc2 194 rfl rfl
theorem sl_79 : Cond.selects "CrystalHouse$Closure" (yM 79) (yM 79) ∈ wsG := wc2 195 rfl rfl
theorem im_80 : Cond.instanceMethod (yM 80) ∈ wsG := wc2 216 rfl rfl
theorem sl_80 : Cond.selects "CrystalHouse$Row" (yM 80) (yM 80) ∈ wsG := wc2 217 rfl rfl
theorem im_81 : Cond.instanceMethod (yM 81) ∈ wsG := wc2 225 rfl rfl
theorem sl_81 : Cond.selects "CrystalHouse$Motion" (yM 81) (yM 81) ∈ wsG := wc2 226 rfl rfl
theorem im_82 : Cond.instanceMethod (yM 82) ∈ wsG := wc2 220 rfl rfl
theorem sl_82 : Cond.selects "CrystalHouse$Closure" (yM 82) (yM 82) ∈ wsG := wc2 221 rfl rfl
theorem im_83 : Cond.instanceMethod (yM 83) ∈ wsG := wc2 212 rfl rfl
theorem sl_83 : Cond.selects "CrystalHouse$Closure" (yM 83) (yM 83) ∈ wsG := wc2 213 rfl rfl
theorem im_84 : Cond.instanceMethod (yM 84) ∈ wsG := wc2 235 rfl rfl
theorem sl_84 : Cond.selects "CrystalHouse$Row" (yM 84) (yM 84) ∈ wsG := wc2 236 rfl rfl
theorem im_86 : Cond.instanceMethod (yM 86) ∈ wsG := wc3 6 rfl rfl
theorem sl_86 : Cond.selects "CrystalHouse$Row" (yM 86) (yM 86) ∈ wsG := wc3 7 rfl rfl
theorem im_88 : Cond.instanceMethod (yM 88) ∈ wsG := wc3 0 rfl rfl
theorem im_89 : Cond.instanceMethod (yM 89) ∈ wsG := wc2 232 rfl rfl
theorem sl_89 : Cond.selects "CrystalHouse" (yM 89) (yM 89) ∈ wsG := wt_s 2 ⟨rfl, rfl⟩
theorem im_90 : Cond.instanceMethod (yM 90) ∈ wsG := wc2 190 rfl rfl
theorem sl_90 : Cond.selects "CrystalHouse" (yM 90) (yM 90) ∈ wsG := wc2 191 rfl rfl
theorem im_92 : Cond.instanceMethod (yM 92) ∈ wsG := wc7 42 rfl rfl
theorem sl_92 : Cond.selects "CrystalHouseModel" (yM 92) (yM 92) ∈ wsG := wt_s 33 ⟨rfl, rfl⟩
theorem im_93 : Cond.instanceMethod (yM 93) ∈ wsG := wc7 46 rfl rfl
theorem sl_93 : Cond.selects "CrystalHouseModel" (yM 93) (yM 93) ∈ wsG := wt_s 34 ⟨rfl, rfl⟩
theorem im_94 : Cond.instanceMethod (yM 94) ∈ wsG := wc7 50 rfl rfl
theorem sl_94 : Cond.selects "CrystalHouseModel" (yM 94) (yM 94) ∈ wsG := wt_s 35 ⟨rfl, rfl⟩
theorem im_95 : Cond.instanceMethod (yM 95) ∈ wsG := wc7 34 rfl rfl
theorem sl_95 : Cond.selects "CrystalHouseModel" (yM 95) (yM 95) ∈ wsG := wc7 35 rfl rfl
theorem im_96 : Cond.instanceMethod (yM 96) ∈ wsG := wc3 55 rfl rfl
theorem sl_96 : Cond.selects "CrystalHouse$Group" (yM 96) (yM 96) ∈ wsG := wc3 56 rfl rfl
theorem im_97 : Cond.instanceMethod (yM 97) ∈ wsG := wc3 51 rfl rfl
theorem sl_97 : Cond.selects "CrystalHouse$Group" (yM 97) (yM 97) ∈ wsG := wc3 52 rfl rfl
theorem im_98 : Cond.instanceMethod (yM 98) ∈ wsG := wc3 59 rfl rfl
theorem sl_98 : Cond.selects "CrystalHouse$Group" (yM 98) (yM 98) ∈ wsG := wc3 60 rfl rfl
theorem im_99 : Cond.instanceMethod (yM 99) ∈ wsG := wc3 75 rfl rfl
theorem sl_99 : Cond.selects "CrystalHouse$Group" (yM 99) (yM 99) ∈ wsG := wc3 76 rfl rfl
theorem im_100 : Cond.instanceMethod (yM 100) ∈ wsG := wc3 71 rfl rfl
theorem sl_100 : Cond.selects "CrystalHouse$Group" (yM 100) (yM 100) ∈ wsG := wc3 72 rfl rfl
theorem im_101 : Cond.instanceMethod (yM 101) ∈ wsG := wc3 66 rfl rfl
theorem sl_101 : Cond.selects "CrystalHouse$Group" (yM 101) (yM 101) ∈ wsG := wc3 67 rfl rfl
theorem im_102 : Cond.instanceMethod (yM 102) ∈ wsG := wc3 85 rfl rfl
theorem sl_102 : Cond.selects "CrystalHouse$Motion" (yM 102) (yM 102) ∈ wsG := wc3 86 rfl rfl
theorem im_105 : Cond.instanceMethod (yM 105) ∈ wsG := wc3 81 rfl rfl
theorem sl_105 : Cond.selects "CrystalHouse" (yM 105) (yM 105) ∈ wsG := wt_s 3 ⟨rfl, rfl⟩
theorem im_106 : Cond.instanceMethod (yM 106) ∈ wsG := wc3 117 rfl rfl
theorem sl_106 : Cond.selects "CrystalHouse" (yM 106) (yM 106) ∈ wsG := wt_s 7 ⟨rfl, rfl⟩
theorem im_107 : Cond.instanceMethod (yM 107) ∈ wsG := wc3 112 rfl rfl
theorem sl_107 : Cond.selects "CrystalHouse" (yM 107) (yM 107) ∈ wsG := wt_s 6 ⟨rfl, rfl⟩
theorem im_108 : Cond.instanceMethod (yM 108) ∈ wsG := wc3 108 rfl rfl
theorem sl_108 : Cond.selects "CrystalHouse" (yM 108) (yM 108) ∈ wsG := wt_s 5 ⟨rfl, rfl⟩
theorem im_109 : Cond.instanceMethod (yM 109) ∈ wsG := wc3 123 rfl rfl
theorem sl_109 : Cond.selects "CrystalHouse" (yM 109) (yM 109) ∈ wsG := wt_s 8 ⟨rfl, rfl⟩
theorem im_110 : Cond.instanceMethod (yM 110) ∈ wsG := wc3 103 rfl rfl
theorem sl_110 : Cond.selects "CrystalHouse" (yM 110) (yM 110) ∈ wsG := wt_s 4 ⟨rfl, rfl⟩
theorem im_111 : Cond.instanceMethod (yM 111) ∈ wsG := wc3 136 rfl rfl
theorem sl_111 : Cond.selects "CrystalHouse" (yM 111) (yM 111) ∈ wsG := wt_s 11 ⟨rfl, rfl⟩
theorem im_112 : Cond.instanceMethod (yM 112) ∈ wsG := wc3 140 rfl rfl
theorem sl_112 : Cond.selects "CrystalHouse" (yM 112) (yM 112) ∈ wsG := wt_s 12 ⟨rfl, rfl⟩
theorem im_113 : Cond.instanceMethod (yM 113) ∈ wsG := wc3 132 rfl rfl
theorem sl_113 : Cond.selects "CrystalHouse" (yM 113) (yM 113) ∈ wsG := wt_s 10 ⟨rfl, rfl⟩
theorem im_114 : Cond.instanceMethod (yM 114) ∈ wsG := wc3 128 rfl rfl
theorem sl_114 : Cond.selects "CrystalHouse" (yM 114) (yM 114) ∈ wsG := wt_s 9 ⟨rfl, rfl⟩
theorem im_115 : Cond.instanceMethod (yM 115) ∈ wsG := wc3 47 rfl rfl
theorem sl_115 : Cond.selects "CrystalHouse" (yM 115) (yM 115) ∈ wsG := wc3 48 rfl rfl
theorem im_116 : Cond.instanceMethod (yM 116) ∈ wsG := wc7 58 rfl rfl
theorem sl_116 : Cond.selects "CrystalHouseModel" (yM 116) (yM 116) ∈ wsG := wt_s 36 ⟨rfl, rfl⟩
theorem im_117 : Cond.instanceMethod (yM 117) ∈ wsG := wc7 62 rfl rfl
theorem sl_117 : Cond.selects "CrystalHouseModel" (yM 117) (yM 117) ∈ wsG := wt_s 37 ⟨rfl, rfl⟩
theorem im_118 : Cond.instanceMethod (yM 118) ∈ wsG := wc7 74 rfl rfl
theorem sl_118 : Cond.selects "CrystalHouseModel" (yM 118) (yM 118) ∈ wsG := wt_s 40 ⟨rfl, rfl⟩
theorem im_119 : Cond.instanceMethod (yM 119) ∈ wsG := wc7 70 rfl rfl
theorem sl_119 : Cond.selects "CrystalHouseModel" (yM 119) (yM 119) ∈ wsG := wt_s 39 ⟨rfl, rfl⟩
theorem im_120 : Cond.instanceMethod (yM 120) ∈ wsG := wc7 66 rfl rfl
theorem sl_120 : Cond.selects "CrystalHouseModel" (yM 120) (yM 120) ∈ wsG := wt_s 38 ⟨rfl, rfl⟩
theorem im_123 : Cond.instanceMethod (yM 123) ∈ wsG := wc7 78 rfl rfl
theorem sl_123 : Cond.selects "CrystalHouseModel" (yM 123) (yM 123) ∈ wsG := wt_s 41 ⟨rfl, rfl⟩
theorem im_124 : Cond.instanceMethod (yM 124) ∈ wsG := wc7 92 rfl rfl
theorem sl_124 : Cond.selects "CrystalHouseModel" (yM 124) (yM 124) ∈ wsG := wt_s 43 ⟨rfl, rfl⟩
theorem im_125 : Cond.instanceMethod (yM 125) ∈ wsG := wc7 100 rfl rfl
theorem sl_125 : Cond.selects "CrystalHouseModel" (yM 125) (yM 125) ∈ wsG := wt_s 45 ⟨rfl, rfl⟩
theorem im_126 : Cond.instanceMethod (yM 126) ∈ wsG := wc7 104 rfl rfl
theorem sl_126 : Cond.selects "CrystalHouseModel" (yM 126) (yM 126) ∈ wsG := wt_s 46 ⟨rfl, rfl⟩
theorem im_128 : Cond.instanceMethod (yM 128) ∈ wsG := wc7 112 rfl rfl
theorem sl_128 : Cond.selects "CrystalHouseModel" (yM 128) (yM 128) ∈ wsG := wt_s 48 ⟨rfl, rfl⟩
theorem im_129 : Cond.instanceMethod (yM 129) ∈ wsG := wc7 108 rfl rfl
theorem sl_129 : Cond.selects "CrystalHouseModel" (yM 129) (yM 129) ∈ wsG := wt_s 47 ⟨rfl, rfl⟩
theorem im_130 : Cond.instanceMethod (yM 130) ∈ wsG := wc7 96 rfl rfl
theorem sl_130 : Cond.selects "CrystalHouseModel" (yM 130) (yM 130) ∈ wsG := wt_s 44 ⟨rfl, rfl⟩
theorem im_131 : Cond.instanceMethod (yM 131) ∈ wsG := wc7 88 rfl rfl
theorem sl_131 : Cond.selects "CrystalHouseModel" (yM 131) (yM 131) ∈ wsG := wt_s 42 ⟨rfl, rfl⟩
theorem im_132 : Cond.instanceMethod (yM 132) ∈ wsG := wc7 53 rfl rfl
theorem sl_132 : Cond.selects "CrystalHouseModel" (yM 132) (yM 132) ∈ wsG := wc7 54 rfl rfl
theorem im_133 : Cond.instanceMethod (yM 133) ∈ wsG := wc3 148 rfl rfl
theorem sl_133 : Cond.selects "CrystalHouse" (yM 133) (yM 133) ∈ wsG := wt_s 13 ⟨rfl, rfl⟩
theorem im_134 : Cond.instanceMethod (yM 134) ∈ wsG := wc3 143 rfl rfl
theorem sl_134 : Cond.selects "CrystalHouse" (yM 134) (yM 134) ∈ wsG := wc3 144 rfl rfl
theorem im_135 : Cond.instanceMethod (yM 135) ∈ wsG := wc7 123 rfl rfl
theorem sl_135 : Cond.selects "CrystalHouseModel" (yM 135) (yM 135) ∈ wsG := wt_s 49 ⟨rfl, rfl⟩
theorem im_136 : Cond.instanceMethod (yM 136) ∈ wsG := wc7 118 rfl rfl
theorem sl_136 : Cond.selects "CrystalHouseModel" (yM 136) (yM 136) ∈ wsG := wc7 119 rfl rfl
theorem im_137 : Cond.instanceMethod (yM 137) ∈ wsG := wc3 151 rfl rfl
theorem sl_137 : Cond.selects "CrystalHouse" (yM 137) (yM 137) ∈ wsG := wc3 152 rfl rfl
theorem im_138 : Cond.instanceMethod (yM 138) ∈ wsG := wc7 126 rfl rfl
theorem sl_138 : Cond.selects "CrystalHouseModel" (yM 138) (yM 138) ∈ wsG := wc7 127 rfl rfl
theorem im_140 : Cond.instanceMethod (yM 140) ∈ wsG := wc3 155 rfl rfl
theorem sl_140 : Cond.selects "CrystalHouse" (yM 140) (yM 140) ∈ wsG := wc3 156 rfl rfl
theorem im_141 : Cond.instanceMethod (yM 141) ∈ wsG := wc7 130 rfl rfl
theorem sl_141 : Cond.selects "CrystalHouseModel" (yM 141) (yM 141) ∈ wsG := wc7 131 rfl rfl
theorem im_142 : Cond.instanceMethod (yM 142) ∈ wsG := wc3 165 rfl rfl
theorem sl_142 : Cond.selects "CrystalHouse" (yM 142) (yM 142) ∈ wsG := wc3 166 rfl rfl
theorem im_143 : Cond.instanceMethod (yM 143) ∈ wsG := wc7 134 rfl rfl
theorem sl_143 : Cond.selects "CrystalHouseModel" (yM 143) (yM 143) ∈ wsG := wc7 135 rfl rfl
theorem im_144 : Cond.instanceMethod (yM 144) ∈ wsG := wc3 177 rfl rfl
theorem sl_144 : Cond.selects "CrystalHouse$Motion" (yM 144) (yM 144) ∈ wsG := wc3 178 rfl rfl
theorem im_145 : Cond.instanceMethod (yM 145) ∈ wsG := wc3 174 rfl rfl
theorem sl_145 : Cond.selects "CrystalHouse" (yM 145) (yM 145) ∈ wsG := wt_s 14 ⟨rfl, rfl⟩
theorem im_146 : Cond.instanceMethod (yM 146) ∈ wsG := wc3 182 rfl rfl
theorem sl_146 : Cond.selects "CrystalHouse" (yM 146) (yM 146) ∈ wsG := wt_s 15 ⟨rfl, rfl⟩
theorem im_147 : Cond.instanceMethod (yM 147) ∈ wsG := wc3 169 rfl rfl
theorem sl_147 : Cond.selects "CrystalHouse" (yM 147) (yM 147) ∈ wsG := wc3 170 rfl rfl
theorem im_148 : Cond.instanceMethod (yM 148) ∈ wsG := wc7 147 rfl rfl
theorem sl_148 : Cond.selects "CrystalHouseModel" (yM 148) (yM 148) ∈ wsG := wt_s 51 ⟨rfl, rfl⟩
theorem im_149 : Cond.instanceMethod (yM 149) ∈ wsG := wc7 143 rfl rfl
theorem sl_149 : Cond.selects "CrystalHouseModel" (yM 149) (yM 149) ∈ wsG := wt_s 50 ⟨rfl, rfl⟩
theorem im_150 : Cond.instanceMethod (yM 150) ∈ wsG := wc7 138 rfl rfl
theorem sl_150 : Cond.selects "CrystalHouseModel" (yM 150) (yM 150) ∈ wsG := wc7 139 rfl rfl
theorem im_153 : Cond.instanceMethod (yM 153) ∈ wsG := wc3 197 rfl rfl
theorem sl_153 : Cond.selects "CrystalHouse$Motion" (yM 153) (yM 153) ∈ wsG := wc3 198 rfl rfl
theorem im_154 : Cond.instanceMethod (yM 154) ∈ wsG := wc3 201 rfl rfl
theorem sl_154 : Cond.selects "CrystalHouse$Motion" (yM 154) (yM 154) ∈ wsG := wc3 202 rfl rfl
theorem im_155 : Cond.instanceMethod (yM 155) ∈ wsG := wc3 187 rfl rfl
theorem sl_155 : Cond.selects "CrystalHouse" (yM 155) (yM 155) ∈ wsG := wc3 188 rfl rfl
theorem im_157 : Cond.instanceMethod (yM 157) ∈ wsG := wc7 158 rfl rfl
theorem sl_157 : Cond.selects "CrystalHouseModel" (yM 157) (yM 157) ∈ wsG := wt_s 52 ⟨rfl, rfl⟩
theorem im_158 : Cond.instanceMethod (yM 158) ∈ wsG := wc7 150 rfl rfl
theorem sl_158 : Cond.selects "CrystalHouseModel" (yM 158) (yM 158) ∈ wsG := wc7 151 rfl rfl
theorem im_162 : Cond.instanceMethod (yM 162) ∈ wsG := wc3 225 rfl rfl
theorem im_163 : Cond.instanceMethod (yM 163) ∈ wsG := wc3 219 rfl rfl
theorem im_164 : Cond.instanceMethod (yM 164) ∈ wsG := wc4 44 rfl rfl
theorem sl_164 : Cond.selects "CrystalHouse$Form" (yM 164) (yM 164) ∈ wsG := wc4 45 rfl rfl
theorem im_165 : Cond.instanceMethod (yM 165) ∈ wsG := wc4 48 rfl rfl
theorem sl_165 : Cond.selects "CrystalHouse$Form" (yM 165) (yM 165) ∈ wsG := wc4 49 rfl rfl
theorem im_167 : Cond.instanceMethod (yM 167) ∈ wsG := wc4 58 rfl rfl
theorem sl_167 : Cond.selects "CrystalHouse$Form" (yM 167) (yM 167) ∈ wsG := wc4 59 rfl rfl
theorem im_168 : Cond.instanceMethod (yM 168) ∈ wsG := wc4 65 rfl rfl
theorem sl_168 : Cond.selects "CrystalHouse$Form" (yM 168) (yM 168) ∈ wsG := wc4 66 rfl rfl
theorem im_169 : Cond.instanceMethod (yM 169) ∈ wsG := wc4 69 rfl rfl
theorem sl_169 : Cond.selects "CrystalHouse$Form" (yM 169) (yM 169) ∈ wsG := wc4 70 rfl rfl
theorem im_170 : Cond.instanceMethod (yM 170) ∈ wsG := wc4 74 rfl rfl
theorem sl_170 : Cond.selects "CrystalHouse$Form" (yM 170) (yM 170) ∈ wsG := wc4 75 rfl rfl
theorem im_171 : Cond.instanceMethod (yM 171) ∈ wsG := wc4 79 rfl rfl
theorem sl_171 : Cond.selects "CrystalHouse$Form" (yM 171) (yM 171) ∈ wsG := wc4 80 rfl rfl
theorem im_172 : Cond.instanceMethod (yM 172) ∈ wsG := wc4 83 rfl rfl
theorem sl_172 : Cond.selects "CrystalHouse$Form" (yM 172) (yM 172) ∈ wsG := wc4 84 rfl rfl
theorem im_173 : Cond.instanceMethod (yM 173) ∈ wsG := wc4 87 rfl rfl
theorem sl_173 : Cond.selects "CrystalHouse$Form" (yM 173) (yM 173) ∈ wsG := wc4 88 rfl rfl
theorem im_174 : Cond.instanceMethod (yM 174) ∈ wsG := wc4 53 rfl rfl
theorem sl_174 : Cond.selects "CrystalHouse$Form" (yM 174) (yM 174) ∈ wsG := wc4 54 rfl rfl
theorem im_175 : Cond.instanceMethod (yM 175) ∈ wsG := wc3 205 rfl rfl
theorem sl_175 : Cond.selects "CrystalHouse" (yM 175) (yM 175) ∈ wsG := wc3 206 rfl rfl
theorem im_179 : Cond.instanceMethod (yM 179) ∈ wsG := wc7 187 rfl rfl
theorem sl_179 : Cond.selects "CrystalHouseModel" (yM 179) (yM 179) ∈ wsG := wt_s 55 ⟨rfl, rfl⟩
theorem im_180 : Cond.instanceMethod (yM 180) ∈ wsG := wc7 180 rfl rfl
theorem sl_180 : Cond.selects "CrystalHouseModel" (yM 180) (yM 180) ∈ wsG := wt_s 54 ⟨rfl, rfl⟩
theorem im_181 : Cond.instanceMethod (yM 181) ∈ wsG := wc7 175 rfl rfl
theorem sl_181 : Cond.selects "CrystalHouseModel" (yM 181) (yM 181) ∈ wsG := wt_s 53 ⟨rfl, rfl⟩
theorem im_184 : Cond.instanceMethod (yM 184) ∈ wsG := wc7 162 rfl rfl
theorem sl_184 : Cond.selects "CrystalHouseModel" (yM 184) (yM 184) ∈ wsG := wc7 163 rfl rfl
theorem im_185 : Cond.instanceMethod (yM 185) ∈ wsG := wc4 96 rfl rfl
theorem sl_185 : Cond.selects "CrystalHouse" (yM 185) (yM 185) ∈ wsG := wt_s 16 ⟨rfl, rfl⟩
theorem im_187 : Cond.instanceMethod (yM 187) ∈ wsG := wc4 107 rfl rfl
theorem sl_187 : Cond.selects "CrystalHouse$Form" (yM 187) (yM 187) ∈ wsG := wc4 108 rfl rfl
theorem im_188 : Cond.instanceMethod (yM 188) ∈ wsG := wc4 119 rfl rfl
theorem sl_188 : Cond.selects "CrystalHouse$Form" (yM 188) (yM 188) ∈ wsG := wc4 120 rfl rfl
theorem im_189 : Cond.instanceMethod (yM 189) ∈ wsG := wc4 115 rfl rfl
theorem sl_189 : Cond.selects "CrystalHouse$Cell" (yM 189) (yM 189) ∈ wsG := wc4 116 rfl rfl
theorem im_190 : Cond.instanceMethod (yM 190) ∈ wsG := wc4 111 rfl rfl
theorem sl_190 : Cond.selects "CrystalHouse$Cell" (yM 190) (yM 190) ∈ wsG := wc4 112 rfl rfl
theorem im_191 : Cond.instanceMethod (yM 191) ∈ wsG := wc4 99 rfl rfl
theorem sl_191 : Cond.selects "CrystalHouse$Cell" (yM 191) (yM 191) ∈ wsG := wc4 100 rfl rfl
theorem im_192 : Cond.instanceMethod (yM 192) ∈ wsG := wc4 123 rfl rfl
theorem sl_192 : Cond.selects "CrystalHouse$Form" (yM 192) (yM 192) ∈ wsG := wc4 124 rfl rfl
theorem im_193 : Cond.instanceMethod (yM 193) ∈ wsG := wc4 128 rfl rfl
theorem sl_193 : Cond.selects "CrystalHouse$Form" (yM 193) (yM 193) ∈ wsG := wc4 129 rfl rfl
theorem im_194 : Cond.instanceMethod (yM 194) ∈ wsG := wc4 91 rfl rfl
theorem sl_194 : Cond.selects "CrystalHouse" (yM 194) (yM 194) ∈ wsG := wc4 92 rfl rfl
theorem im_195 : Cond.instanceMethod (yM 195) ∈ wsG := wc7 202 rfl rfl
theorem sl_195 : Cond.selects "CrystalHouseModel" (yM 195) (yM 195) ∈ wsG := wt_s 56 ⟨rfl, rfl⟩
theorem im_196 : Cond.instanceMethod (yM 196) ∈ wsG := wc7 197 rfl rfl
theorem sl_196 : Cond.selects "CrystalHouseModel" (yM 196) (yM 196) ∈ wsG := wc7 198 rfl rfl
theorem im_197 : Cond.instanceMethod (yM 197) ∈ wsG := wc4 140 rfl rfl
theorem sl_197 : Cond.selects "CrystalHouse$Form" (yM 197) (yM 197) ∈ wsG := wc4 141 rfl rfl
theorem im_198 : Cond.instanceMethod (yM 198) ∈ wsG := wc4 137 rfl rfl
theorem sl_198 : Cond.selects "CrystalHouse" (yM 198) (yM 198) ∈ wsG := wt_s 17 ⟨rfl, rfl⟩
theorem im_199 : Cond.instanceMethod (yM 199) ∈ wsG := wc4 132 rfl rfl
theorem sl_199 : Cond.selects "CrystalHouse" (yM 199) (yM 199) ∈ wsG := wc4 133 rfl rfl
theorem im_200 : Cond.instanceMethod (yM 200) ∈ wsG := wc7 205 rfl rfl
theorem sl_200 : Cond.selects "CrystalHouseModel" (yM 200) (yM 200) ∈ wsG := wc7 206 rfl rfl
theorem im_202 : Cond.instanceMethod (yM 202) ∈ wsG := wc4 170 rfl rfl
theorem sl_202 : Cond.selects "CrystalHouse$Cell" (yM 202) (yM 202) ∈ wsG := wc4 171 rfl rfl
theorem im_203 : Cond.instanceMethod (yM 203) ∈ wsG := wc4 166 rfl rfl
theorem sl_203 : Cond.selects "CrystalHouse$Cell" (yM 203) (yM 203) ∈ wsG := wc4 167 rfl rfl
theorem im_204 : Cond.instanceMethod (yM 204) ∈ wsG := wc4 162 rfl rfl
theorem sl_204 : Cond.selects "CrystalHouse$Cell" (yM 204) (yM 204) ∈ wsG := wc4 163 rfl rfl
theorem im_205 : Cond.instanceMethod (yM 205) ∈ wsG := wc4 156 rfl rfl
theorem sl_205 : Cond.selects "CrystalHouse$Cell" (yM 205) (yM 205) ∈ wsG := wc4 157 rfl rfl
theorem im_206 : Cond.instanceMethod (yM 206) ∈ wsG := wc4 150 rfl rfl
theorem sl_206 : Cond.selects "CrystalHouse$Cell" (yM 206) (yM 206) ∈ wsG := wc4 151 rfl rfl
theorem im_207 : Cond.instanceMethod (yM 207) ∈ wsG := wc4 146 rfl rfl
theorem sl_207 : Cond.selects "CrystalHouse" (yM 207) (yM 207) ∈ wsG := wc4 147 rfl rfl
theorem im_208 : Cond.instanceMethod (yM 208) ∈ wsG := wc7 222 rfl rfl
theorem sl_208 : Cond.selects "CrystalHouseModel" (yM 208) (yM 208) ∈ wsG := wt_s 59 ⟨rfl, rfl⟩
theorem im_209 : Cond.instanceMethod (yM 209) ∈ wsG := wc7 218 rfl rfl
theorem sl_209 : Cond.selects "CrystalHouseModel" (yM 209) (yM 209) ∈ wsG := wt_s 58 ⟨rfl, rfl⟩
theorem im_210 : Cond.instanceMethod (yM 210) ∈ wsG := wc7 214 rfl rfl
theorem sl_210 : Cond.selects "CrystalHouseModel" (yM 210) (yM 210) ∈ wsG := wt_s 57 ⟨rfl, rfl⟩
theorem im_211 : Cond.instanceMethod (yM 211) ∈ wsG := wc7 209 rfl rfl
theorem sl_211 : Cond.selects "CrystalHouseModel" (yM 211) (yM 211) ∈ wsG := wc7 210 rfl rfl
theorem im_212 : Cond.instanceMethod (yM 212) ∈ wsG := wc4 179 rfl rfl
theorem sl_212 : Cond.selects "CrystalHouse" (yM 212) (yM 212) ∈ wsG := wc4 180 rfl rfl
theorem im_213 : Cond.instanceMethod (yM 213) ∈ wsG := wc7 225 rfl rfl
theorem sl_213 : Cond.selects "CrystalHouseModel" (yM 213) (yM 213) ∈ wsG := wc7 226 rfl rfl
theorem im_214 : Cond.instanceMethod (yM 214) ∈ wsG := wc4 188 rfl rfl
theorem im_215 : Cond.instanceMethod (yM 215) ∈ wsG := wc4 183 rfl rfl
theorem sl_215 : Cond.selects "CrystalHouse" (yM 215) (yM 215) ∈ wsG := wc4 184 rfl rfl
theorem im_216 : Cond.instanceMethod (yM 216) ∈ wsG := wc7 229 rfl rfl
theorem sl_216 : Cond.selects "CrystalHouseModel" (yM 216) (yM 216) ∈ wsG := wc7 230 rfl rfl
theorem im_217 : Cond.instanceMethod (yM 217) ∈ wsG := wc4 237 rfl rfl
theorem sl_217 : Cond.selects "CrystalHouse" (yM 217) (yM 217) ∈ wsG := wt_s 18 ⟨rfl, rfl⟩
theorem im_218 : Cond.instanceMethod (yM 218) ∈ wsG := wc5 4 rfl rfl
theorem sl_218 : Cond.selects "CrystalHouse$Model" (yM 218) (yM 218) ∈ wsG := wc5 5 rfl rfl
theorem im_219 : Cond.instanceMethod (yM 219) ∈ wsG := wc5 9 rfl rfl
theorem sl_219 : Cond.selects "CrystalHouse$Model" (yM 219) (yM 219) ∈ wsG := wc5 10 rfl rfl
theorem im_220 : Cond.instanceMethod (yM 220) ∈ wsG := wc5 0 rfl rfl
theorem sl_220 : Cond.selects "CrystalHouse$Model" (yM 220) (yM 220) ∈ wsG := wc5 1 rfl rfl
theorem im_221 : Cond.instanceMethod (yM 221) ∈ wsG := wc4 232 rfl rfl
theorem sl_221 : Cond.selects "CrystalHouse" (yM 221) (yM 221) ∈ wsG := wc4 233 rfl rfl
theorem im_222 : Cond.instanceMethod (yM 222) ∈ wsG := wc7 239 rfl rfl
theorem sl_222 : Cond.selects "CrystalHouseModel" (yM 222) (yM 222) ∈ wsG := wt_s 60 ⟨rfl, rfl⟩
theorem im_223 : Cond.instanceMethod (yM 223) ∈ wsG := wc7 234 rfl rfl
theorem sl_223 : Cond.selects "CrystalHouseModel" (yM 223) (yM 223) ∈ wsG := wc7 235 rfl rfl
theorem im_224 : Cond.instanceMethod (yM 224) ∈ wsG := wc5 18 rfl rfl
theorem sl_224 : Cond.selects "CrystalHouse$Model" (yM 224) (yM 224) ∈ wsG := wc5 19 rfl rfl
theorem im_225 : Cond.instanceMethod (yM 225) ∈ wsG := wc5 22 rfl rfl
theorem sl_225 : Cond.selects "CrystalHouse$Model" (yM 225) (yM 225) ∈ wsG := wc5 23 rfl rfl
theorem im_226 : Cond.instanceMethod (yM 226) ∈ wsG := wc5 26 rfl rfl
theorem sl_226 : Cond.selects "CrystalHouse$Model" (yM 226) (yM 226) ∈ wsG := wc5 27 rfl rfl
theorem im_227 : Cond.instanceMethod (yM 227) ∈ wsG := wc5 14 rfl rfl
theorem sl_227 : Cond.selects "CrystalHouse" (yM 227) (yM 227) ∈ wsG := wc5 15 rfl rfl
theorem im_228 : Cond.instanceMethod (yM 228) ∈ wsG := wc8 7 rfl rfl
theorem sl_228 : Cond.selects "CrystalHouseModel" (yM 228) (yM 228) ∈ wsG := wt_s 61 ⟨rfl, rfl⟩
theorem im_229 : Cond.instanceMethod (yM 229) ∈ wsG := wc8 2 rfl rfl
theorem sl_229 : Cond.selects "CrystalHouseModel" (yM 229) (yM 229) ∈ wsG := wc8 3 rfl rfl
theorem im_231 : Cond.instanceMethod (yM 231) ∈ wsG := wc5 41 rfl rfl
theorem sl_231 : Cond.selects "CrystalHouse$Wave" (yM 231) (yM 231) ∈ wsG := wc5 42 rfl rfl
theorem im_232 : Cond.instanceMethod (yM 232) ∈ wsG := wc5 50 rfl rfl
theorem sl_232 : Cond.selects "CrystalHouse$Wave" (yM 232) (yM 232) ∈ wsG := wc5 51 rfl rfl
theorem im_233 : Cond.instanceMethod (yM 233) ∈ wsG := wc5 34 rfl rfl
theorem sl_233 : Cond.selects "CrystalHouse$Wave" (yM 233) (yM 233) ∈ wsG := wc5 35 rfl rfl
theorem im_234 : Cond.instanceMethod (yM 234) ∈ wsG := wc5 30 rfl rfl
theorem sl_234 : Cond.selects "CrystalHouse" (yM 234) (yM 234) ∈ wsG := wc5 31 rfl rfl
theorem im_235 : Cond.instanceMethod (yM 235) ∈ wsG := wc8 19 rfl rfl
theorem sl_235 : Cond.selects "CrystalHouseModel" (yM 235) (yM 235) ∈ wsG := wt_s 63 ⟨rfl, rfl⟩
theorem im_236 : Cond.instanceMethod (yM 236) ∈ wsG := wc8 24 rfl rfl
theorem sl_236 : Cond.selects "CrystalHouseModel" (yM 236) (yM 236) ∈ wsG := wt_s 64 ⟨rfl, rfl⟩
theorem im_237 : Cond.instanceMethod (yM 237) ∈ wsG := wc8 15 rfl rfl
theorem sl_237 : Cond.selects "CrystalHouseModel" (yM 237) (yM 237) ∈ wsG := wt_s 62 ⟨rfl, rfl⟩
theorem im_238 : Cond.instanceMethod (yM 238) ∈ wsG := wc8 10 rfl rfl
theorem sl_238 : Cond.selects "CrystalHouseModel" (yM 238) (yM 238) ∈ wsG := wc8 11 rfl rfl
theorem im_239 : Cond.instanceMethod (yM 239) ∈ wsG := wc5 67 rfl rfl
theorem sl_239 : Cond.selects "CrystalHouse$Model" (yM 239) (yM 239) ∈ wsG := wc5 68 rfl rfl
theorem im_240 : Cond.instanceMethod (yM 240) ∈ wsG := wc5 71 rfl rfl
theorem sl_240 : Cond.selects "CrystalHouse$Model" (yM 240) (yM 240) ∈ wsG := wc5 72 rfl rfl
theorem im_242 : Cond.instanceMethod (yM 242) ∈ wsG := wc5 62 rfl rfl
theorem sl_242 : Cond.selects "CrystalHouse$Model" (yM 242) (yM 242) ∈ wsG := wc5 63 rfl rfl
theorem im_243 : Cond.instanceMethod (yM 243) ∈ wsG := wc5 58 rfl rfl
theorem sl_243 : Cond.selects "CrystalHouse" (yM 243) (yM 243) ∈ wsG := wc5 59 rfl rfl
theorem im_244 : Cond.instanceMethod (yM 244) ∈ wsG := wc8 34 rfl rfl
theorem sl_244 : Cond.selects "CrystalHouseModel" (yM 244) (yM 244) ∈ wsG := wt_s 65 ⟨rfl, rfl⟩
theorem im_245 : Cond.instanceMethod (yM 245) ∈ wsG := wc8 29 rfl rfl
theorem sl_245 : Cond.selects "CrystalHouseModel" (yM 245) (yM 245) ∈ wsG := wc8 30 rfl rfl
theorem im_246 : Cond.instanceMethod (yM 246) ∈ wsG := wc5 84 rfl rfl
theorem sl_246 : Cond.selects "CrystalHouse$Model" (yM 246) (yM 246) ∈ wsG := wc5 85 rfl rfl
theorem im_247 : Cond.instanceMethod (yM 247) ∈ wsG := wc5 80 rfl rfl
theorem sl_247 : Cond.selects "CrystalHouse" (yM 247) (yM 247) ∈ wsG := wc5 81 rfl rfl
theorem im_248 : Cond.instanceMethod (yM 248) ∈ wsG := wc8 37 rfl rfl
theorem sl_248 : Cond.selects "CrystalHouseModel" (yM 248) (yM 248) ∈ wsG := wc8 38 rfl rfl
theorem im_249 : Cond.instanceMethod (yM 249) ∈ wsG := wc5 98 rfl rfl
theorem im_251 : Cond.instanceMethod (yM 251) ∈ wsG := wc5 138 rfl rfl
theorem sl_251 : Cond.selects "CrystalHouse$Wave" (yM 251) (yM 251) ∈ wsG := wc5 139 rfl rfl
theorem im_252 : Cond.instanceMethod (yM 252) ∈ wsG := wc5 147 rfl rfl
theorem sl_252 : Cond.selects "CrystalHouse$Lines" (yM 252) (yM 252) ∈ wsG := wc5 148 rfl rfl
theorem im_253 : Cond.instanceMethod (yM 253) ∈ wsG := wc5 152 rfl rfl
theorem sl_253 : Cond.selects "CrystalHouse$Lines" (yM 253) (yM 253) ∈ wsG := wc5 153 rfl rfl
theorem im_254 : Cond.instanceMethod (yM 254) ∈ wsG := wc5 143 rfl rfl
theorem sl_254 : Cond.selects "CrystalHouse$Lines" (yM 254) (yM 254) ∈ wsG := wc5 144 rfl rfl
theorem im_255 : Cond.instanceMethod (yM 255) ∈ wsG := wc5 126 rfl rfl
theorem sl_255 : Cond.selects "CrystalHouse$Lines" (yM 255) (yM 255) ∈ wsG := wc5 127 rfl rfl
theorem im_256 : Cond.instanceMethod (yM 256) ∈ wsG := wc5 122 rfl rfl
theorem sl_256 : Cond.selects "CrystalHouse$Lines" (yM 256) (yM 256) ∈ wsG := wc5 123 rfl rfl
theorem im_257 : Cond.instanceMethod (yM 257) ∈ wsG := wc5 93 rfl rfl
theorem sl_257 : Cond.selects "CrystalHouse" (yM 257) (yM 257) ∈ wsG := wt_s 19 ⟨rfl, rfl⟩
theorem im_258 : Cond.instanceMethod (yM 258) ∈ wsG := wc5 88 rfl rfl
theorem sl_258 : Cond.selects "CrystalHouse" (yM 258) (yM 258) ∈ wsG := wc5 89 rfl rfl
theorem im_259 : Cond.instanceMethod (yM 259) ∈ wsG := wc8 50 rfl rfl
theorem sl_259 : Cond.selects "CrystalHouseModel" (yM 259) (yM 259) ∈ wsG := wt_s 67 ⟨rfl, rfl⟩
theorem im_260 : Cond.instanceMethod (yM 260) ∈ wsG := wc8 46 rfl rfl
theorem sl_260 : Cond.selects "CrystalHouseModel" (yM 260) (yM 260) ∈ wsG := wt_s 66 ⟨rfl, rfl⟩
theorem im_261 : Cond.instanceMethod (yM 261) ∈ wsG := wc8 41 rfl rfl
theorem sl_261 : Cond.selects "CrystalHouseModel" (yM 261) (yM 261) ∈ wsG := wc8 42 rfl rfl
theorem im_262 : Cond.instanceMethod (yM 262) ∈ wsG := wc5 156 rfl rfl
theorem sl_262 : Cond.selects "CrystalHouse" (yM 262) (yM 262) ∈ wsG := wc5 157 rfl rfl
theorem im_263 : Cond.instanceMethod (yM 263) ∈ wsG := wc8 53 rfl rfl
theorem sl_263 : Cond.selects "CrystalHouseModel" (yM 263) (yM 263) ∈ wsG := wc8 54 rfl rfl
theorem im_264 : Cond.instanceMethod (yM 264) ∈ wsG := wc5 164 rfl rfl
theorem sl_264 : Cond.selects "CrystalHouse$Model" (yM 264) (yM 264) ∈ wsG := wc5 165 rfl rfl
theorem im_265 : Cond.instanceMethod (yM 265) ∈ wsG := wc5 160 rfl rfl
theorem sl_265 : Cond.selects "CrystalHouse" (yM 265) (yM 265) ∈ wsG := wc5 161 rfl rfl
theorem im_266 : Cond.instanceMethod (yM 266) ∈ wsG := wc8 57 rfl rfl
theorem sl_266 : Cond.selects "CrystalHouseModel" (yM 266) (yM 266) ∈ wsG := wc8 58 rfl rfl
theorem im_267 : Cond.instanceMethod (yM 267) ∈ wsG := wc5 173 rfl rfl
theorem sl_267 : Cond.selects "CrystalHouse$Phases" (yM 267) (yM 267) ∈ wsG := wc5 174 rfl rfl
theorem im_268 : Cond.instanceMethod (yM 268) ∈ wsG := wc5 169 rfl rfl
theorem sl_268 : Cond.selects "CrystalHouse" (yM 268) (yM 268) ∈ wsG := wc5 170 rfl rfl
theorem im_269 : Cond.instanceMethod (yM 269) ∈ wsG := wc8 61 rfl rfl
theorem sl_269 : Cond.selects "CrystalHouseModel" (yM 269) (yM 269) ∈ wsG := wc8 62 rfl rfl
theorem im_270 : Cond.instanceMethod (yM 270) ∈ wsG := wc5 191 rfl rfl
theorem sl_270 : Cond.selects "CrystalHouse$Phases" (yM 270) (yM 270) ∈ wsG := wc5 192 rfl rfl
theorem im_271 : Cond.instanceMethod (yM 271) ∈ wsG := wc5 195 rfl rfl
theorem sl_271 : Cond.selects "CrystalHouse$Phases" (yM 271) (yM 271) ∈ wsG := wc5 196 rfl rfl
theorem im_272 : Cond.instanceMethod (yM 272) ∈ wsG := wc5 199 rfl rfl
theorem sl_272 : Cond.selects "CrystalHouse$Phases" (yM 272) (yM 272) ∈ wsG := wc5 200 rfl rfl
theorem im_273 : Cond.instanceMethod (yM 273) ∈ wsG := wc5 187 rfl rfl
theorem sl_273 : Cond.selects "CrystalHouse$Phases" (yM 273) (yM 273) ∈ wsG := wc5 188 rfl rfl
theorem im_274 : Cond.instanceMethod (yM 274) ∈ wsG := wc5 183 rfl rfl
theorem sl_274 : Cond.selects "CrystalHouse$Phases" (yM 274) (yM 274) ∈ wsG := wc5 184 rfl rfl
theorem im_275 : Cond.instanceMethod (yM 275) ∈ wsG := wc5 179 rfl rfl
theorem sl_275 : Cond.selects "CrystalHouse" (yM 275) (yM 275) ∈ wsG := wc5 180 rfl rfl
theorem im_276 : Cond.instanceMethod (yM 276) ∈ wsG := wc8 81 rfl rfl
theorem sl_276 : Cond.selects "CrystalHouseModel" (yM 276) (yM 276) ∈ wsG := wt_s 70 ⟨rfl, rfl⟩
theorem im_277 : Cond.instanceMethod (yM 277) ∈ wsG := wc8 77 rfl rfl
theorem sl_277 : Cond.selects "CrystalHouseModel" (yM 277) (yM 277) ∈ wsG := wt_s 69 ⟨rfl, rfl⟩
theorem im_278 : Cond.instanceMethod (yM 278) ∈ wsG := wc8 73 rfl rfl
theorem sl_278 : Cond.selects "CrystalHouseModel" (yM 278) (yM 278) ∈ wsG := wt_s 68 ⟨rfl, rfl⟩
theorem im_279 : Cond.instanceMethod (yM 279) ∈ wsG := wc8 68 rfl rfl
theorem sl_279 : Cond.selects "CrystalHouseModel" (yM 279) (yM 279) ∈ wsG := wc8 69 rfl rfl
