/-! what keeps a form: the reference's dot and keeps -/
def SixA (l : (Nat → Nat → Int64)) (a k : Nat) (s : S6) : Prop := ∀ i, i < 6 → l a (k + i) = zL (nth6 s i)
def Gm (s : S6) (j : Nat) : Int := nth6 s (if j = 0 then 0 else if j = 1 then 5 else if j = 2 then 4 else if j = 3 then 5 else if j = 4 then 1 else if j = 5 then 3 else if j = 6 then 4 else if j = 7 then 3 else 2)
def trM (M : Nat → Int) (j : Nat) : Int := M (3 * (j % 3) + j / 3)
theorem det9_tr (M : Nat → Int) : det9 (trM M) = det9 M := by
  unfold det9 trM
  simp only [Nat.reduceMod, Nat.reduceDiv, Nat.reduceMul, Nat.reduceAdd, Nat.mul_zero, Nat.zero_mod, Nat.zero_div, Nat.zero_add, Nat.add_zero]
  grind
theorem det9_Gm (s : S6) : det9 (Gm s) = det6 (nth6 s 0) (nth6 s 1) (nth6 s 2) (nth6 s 3) (nth6 s 4) (nth6 s 5) := by
  unfold det9 det6 Gm
  simp only [Nat.reduceEqDiff, if_true, if_false]
theorem kp_gram {s : S6} {M : Nat → Int} (h : kpS s (colV M 0) (colV M 1) (colV M 2)) : ∀ j, j < 9 → mul9 (mul9 (trM M) (Gm s)) M j = Gm s j := by
  obtain ⟨a, b, c, d, e, f⟩ := s
  obtain ⟨h0, h1, h2, h3, h4, h5⟩ := h
  unfold dotS colV nth6 at *
  simp only [Nat.reduceEqDiff, if_true, if_false, Nat.reduceAdd] at h0 h1 h2 h3 h4 h5
  intro j hj
  unfold mul9 Gm trM nth6
  have : j = 0 ∨ j = 1 ∨ j = 2 ∨ j = 3 ∨ j = 4 ∨ j = 5 ∨ j = 6 ∨ j = 7 ∨ j = 8 := by omega
  rcases this with rfl | rfl | rfl | rfl | rfl | rfl | rfl | rfl | rfl <;> simp only [Nat.reduceMod, Nat.reduceDiv, Nat.reduceMul, Nat.reduceAdd, Nat.mul_zero, Nat.zero_mod, Nat.zero_div, Nat.zero_add, Nat.add_zero, Nat.reduceEqDiff, if_true, if_false] <;> grind
theorem kp_det {s : S6} {M : Nat → Int} (h : kpS s (colV M 0) (colV M 1) (colV M 2)) (hd : 0 < det6 (nth6 s 0) (nth6 s 1) (nth6 s 2) (nth6 s 3) (nth6 s 4) (nth6 s 5)) : det9 M = 1 ∨ det9 M = -1 := by
  have e := det9_ext (kp_gram h)
  rw [det9_mul, det9_mul, det9_tr, det9_Gm] at e
  generalize det6 (nth6 s 0) (nth6 s 1) (nth6 s 2) (nth6 s 3) (nth6 s 4) (nth6 s 5) = D at *
  generalize det9 M = x at *
  have e2 : (x * x) * D = 1 * D := by rw [Int.one_mul, ← e]; grind
  have e3 : x * x = 1 := Int.eq_of_mul_eq_mul_right (by omega) e2
  rcases Int.lt_or_le x 2 with q | q
  · rcases Int.lt_or_le (-2) x with q' | q'
    · have : x = -1 ∨ x = 0 ∨ x = 1 := by omega
      rcases this with rfl | rfl | rfl
      · exact Or.inr rfl
      · exact absurd e3 (by decide)
      · exact Or.inl rfl
    · exfalso
      have := Int.mul_le_mul_of_nonneg_left (show (2 : Int) ≤ -x by omega) (show 0 ≤ -x by omega)
      rw [Int.neg_mul_neg, e3] at this
      omega
  · exfalso
    have := Int.mul_le_mul_of_nonneg_left q (show 0 ≤ x by omega)
    rw [e3] at this
    omega
theorem ref_dot {h : MH} {f : (Nat → Nat → Int32)} {l : (Nat → Nat → Int64)} {a k : Nat} {s : S6} (ka : kd (sil h f l) a = 21) (la : ln (sil h f l) a = 240) (hk : k + 5 < 240) (six : SixA l a k s) (x1 x2 x3 x4 x5 x6 : Int) : SpL k_Ref_dot [.ref a, .int (nI k), .long (zL x1), .long (zL x2), .long (zL x3), .long (zL x4), .long (zL x5), .long (zL x6)] (sil h f l) (fun r g => g = sil h f l ∧ r = zL (dotS s x1 x2 x3 x4 x5 x6)) := by
  have b : ∀ j : Nat, j < 6 → InB (nI k + nI j) 240 := fun j hj => by rw [nI_add]; exact InB_nI (by omega) (by omega)
  have i : ∀ j : Nat, j < 6 → ix (nI k + nI j) = k + j := fun j hj => by rw [nI_add]; exact ix_nI (by omega)
  obtain ⟨p, q, r, d, e, g⟩ := s
  have s0 := six 0 (by decide)
  have s1 := six 1 (by decide)
  have s2 := six 2 (by decide)
  have s3 := six 3 (by decide)
  have s4 := six 4 (by decide)
  have s5 := six 5 (by decide)
  rw [Nat.add_zero] at s0
  refine v_Ref_dot _ _ _ _ _ _ _ _ _ _ ⟨ka, ?_⟩
  rw [la, show ix (nI k + (1 : Int32)) = k + 1 from i 1 (by decide), show ix (nI k + (2 : Int32)) = k + 2 from i 2 (by decide), show ix (nI k + (3 : Int32)) = k + 3 from i 3 (by decide), show ix (nI k + (4 : Int32)) = k + 4 from i 4 (by decide), show ix (nI k + (5 : Int32)) = k + 5 from i 5 (by decide), ix_nI (by omega), ml_sil, s0, s1, s2, s3, s4, s5]
  refine ⟨InB_nI (show k < 240 by omega) (by omega), b 1 (by decide), b 2 (by decide), b 3 (by decide), b 4 (by decide), b 5 (by decide), _, rfl, rfl, ?_⟩
  simp only [zL_mul, zL_add]
  rfl
theorem dot_ab {s : S6} {B : Nat} (hs : ∀ i, i < 6 → Ab (nth6 s i) B) {x1 x2 x3 x4 x5 x6 : Int} (h1 : Ab x1 1) (h2 : Ab x2 1) (h3 : Ab x3 1) (h4 : Ab x4 1) (h5 : Ab x5 1) (h6 : Ab x6 1) : Ab (dotS s x1 x2 x3 x4 x5 x6) (9 * B) := by
  obtain ⟨p, q, r, d, e, g⟩ := s
  have s0 : Ab p B := hs 0 (by decide)
  have s1 : Ab q B := hs 1 (by decide)
  have s2 : Ab r B := hs 2 (by decide)
  have s3 : Ab d B := hs 3 (by decide)
  have s4 : Ab e B := hs 4 (by decide)
  have s5 : Ab g B := hs 5 (by decide)
  have := ((((((s0.mul h1).mul h4).add ((s1.mul h2).mul h5)).add ((s2.mul h3).mul h6)).add (s3.mul ((h2.mul h6).add (h3.mul h5)))).add (s4.mul ((h1.mul h6).add (h3.mul h4)))).add (s5.mul ((h1.mul h5).add (h2.mul h4)))
  exact this.wk (by omega)
theorem i2l_m {x : Int32} {v : Int} (h : x.toInt = v) : x.toInt64 = zL v := by rw [i2l_z, h]
theorem sp_Ref_keeps {h : MH} {f : (Nat → Nat → Int32)} {l : (Nat → Nat → Int64)} {a k : Nat} {s : S6} {M : Nat → Int} (ka : kd (sil h f l) a = 21) (la : ln (sil h f l) a = 240) (hk : k + 5 < 240) (six : SixA l a k s) (hs : ∀ i, i < 6 → Ab (nth6 s i) 100000000) (hM : MatAt f 57 M) (sm : small M) :
    SpI k_Ref_keeps [.ref 57, .ref a, .int (nI k)] (sil h f l) (fun r g => g = sil h f l ∧ ((r = 1 ∧ kpS s (colV M 0) (colV M 1) (colV M 2)) ∨ (r = 0 ∧ ¬ kpS s (colV M 0) (colV M 1) (colV M 2)))) := by
  have b0 : InB (nI k) 240 := InB_nI (by omega) (by omega)
  have b : ∀ j : Nat, j < 6 → InB (nI k + nI j) 240 := fun j hj => by rw [nI_add]; exact InB_nI (by omega) (by omega)
  have ii : ∀ j : Nat, j < 6 → ix (nI k + nI j) = k + j := fun j hj => by rw [nI_add]; exact ix_nI (by omega)
  have i : ∀ j : Nat, j < 9 → InB (nI j) (ln (sil h f l) 57) := fun j hj => InB_nI hj (by omega)
  have am : ∀ j, j < 9 → Ab (M j) 1 := fun j hj => by have := sm j hj; exact Ab.of (by omega) (by omega)
  have m0 : (mi (sil h f l) 57 (ix (0 : Int32))).toInt64 = zL (M 0) := i2l_m (hM 0 (by decide))
  have m1 : (mi (sil h f l) 57 (ix (1 : Int32))).toInt64 = zL (M 1) := i2l_m (hM 1 (by decide))
  have m2 : (mi (sil h f l) 57 (ix (2 : Int32))).toInt64 = zL (M 2) := i2l_m (hM 2 (by decide))
  have m3 : (mi (sil h f l) 57 (ix (3 : Int32))).toInt64 = zL (M 3) := i2l_m (hM 3 (by decide))
  have m4 : (mi (sil h f l) 57 (ix (4 : Int32))).toInt64 = zL (M 4) := i2l_m (hM 4 (by decide))
  have m5 : (mi (sil h f l) 57 (ix (5 : Int32))).toInt64 = zL (M 5) := i2l_m (hM 5 (by decide))
  have m6 : (mi (sil h f l) 57 (ix (6 : Int32))).toInt64 = zL (M 6) := i2l_m (hM 6 (by decide))
  have m7 : (mi (sil h f l) 57 (ix (7 : Int32))).toInt64 = zL (M 7) := i2l_m (hM 7 (by decide))
  have m8 : (mi (sil h f l) 57 (ix (8 : Int32))).toInt64 = zL (M 8) := i2l_m (hM 8 (by decide))
  have cmp : ∀ (j : Nat) (x1 x2 x3 x4 x5 x6 : Int), j < 6 → Ab x1 1 → Ab x2 1 → Ab x3 1 → Ab x4 1 → Ab x5 1 → Ab x6 1 → (lg_cmp (zL (dotS s x1 x2 x3 x4 x5 x6)) (l a (k + j)) = 0) = (dotS s x1 x2 x3 x4 x5 x6 = nth6 s j) := fun j x1 x2 x3 x4 x5 x6 hj h1 h2 h3 h4 h5 h6 => by
    have d := dot_ab hs h1 h2 h3 h4 h5 h6
    have dl := d.lo
    have dh := d.hi
    have el := (hs j hj).lo
    have eh := (hs j hj).hi
    rw [six j hj]
    exact lz_eq (by omega) (by omega) (by omega) (by omega)
  have no : ¬ kpS s (colV M 0) (colV M 1) (colV M 2) → ∃ r, Value.int 0 = .int r ∧ sil h f l = sil h f l ∧ ((r = 1 ∧ kpS s (colV M 0) (colV M 1) (colV M 2)) ∨ (r = 0 ∧ ¬ kpS s (colV M 0) (colV M 1) (colV M 2))) := fun q => ⟨_, rfl, rfl, Or.inr ⟨rfl, q⟩⟩
  have a0 := am 0 (by decide); have a1 := am 1 (by decide); have a2 := am 2 (by decide); have a3 := am 3 (by decide); have a4 := am 4 (by decide); have a5 := am 5 (by decide); have a6 := am 6 (by decide); have a7 := am 7 (by decide); have a8 := am 8 (by decide)
  have e2 : dotS s (M 0) (M 3) (M 6) (M 0) (M 3) (M 6) = nth6 s 0 → dotS s (M 1) (M 4) (M 7) (M 1) (M 4) (M 7) = nth6 s 1 → dotS s (M 2) (M 5) (M 8) (M 2) (M 5) (M 8) = nth6 s 2 → dotS s (M 1) (M 4) (M 7) (M 2) (M 5) (M 8) = nth6 s 3 → WM k_Ref_keeps p_Ref_keeps_2 [.ref 57, .ref a, .int (nI k)] [] (sil h f l) 0 0 (fun v g => ∃ r, v = .int r ∧ g = sil h f l ∧ ((r = 1 ∧ kpS s (colV M 0) (colV M 1) (colV M 2)) ∨ (r = 0 ∧ ¬ kpS s (colV M 0) (colV M 1) (colV M 2)))) := by
    intro c0 c1 c2 c3
    refine v_Ref_keeps_2 _ _ _ _ _ ⟨K57, i 0 (by decide), i 3 (by decide), i 6 (by decide), i 2 (by decide), i 5 (by decide), i 8 (by decide), ?_⟩
    rw [m0, m3, m6, m2, m5, m8]
    refine SpL.mono (ref_dot ka la hk six _ _ _ _ _ _) ?_
    rintro _ _ ⟨rfl, rfl⟩
    rw [la, show ix (nI k + (4 : Int32)) = k + 4 from ii 4 (by decide), ml_sil, cmp 4 _ _ _ _ _ _ (by decide) a0 a3 a6 a2 a5 a8]
    refine ⟨ka, b 4 (by decide), fun c4 => ⟨K57, i 0 (by decide), i 3 (by decide), i 6 (by decide), i 1 (by decide), i 4 (by decide), i 7 (by decide), ?_⟩, fun c4 => no (fun q => c4 q.2.2.2.2.1)⟩
    rw [m0, m3, m6, m1, m4, m7]
    refine SpL.mono (ref_dot ka la hk six _ _ _ _ _ _) ?_
    rintro _ _ ⟨rfl, rfl⟩
    rw [la, show ix (nI k + (5 : Int32)) = k + 5 from ii 5 (by decide), ml_sil, cmp 5 _ _ _ _ _ _ (by decide) a0 a3 a6 a1 a4 a7]
    exact ⟨ka, b 5 (by decide), fun c5 => v_Ref_keeps_3 _ _ ⟨_, rfl, rfl, Or.inl ⟨rfl, c0, c1, c2, c3, c4, c5⟩⟩, fun c5 => no (fun q => c5 q.2.2.2.2.2)⟩
  have e1 : dotS s (M 0) (M 3) (M 6) (M 0) (M 3) (M 6) = nth6 s 0 → dotS s (M 1) (M 4) (M 7) (M 1) (M 4) (M 7) = nth6 s 1 → WM k_Ref_keeps p_Ref_keeps_1 [.ref 57, .ref a, .int (nI k)] [] (sil h f l) 0 0 (fun v g => ∃ r, v = .int r ∧ g = sil h f l ∧ ((r = 1 ∧ kpS s (colV M 0) (colV M 1) (colV M 2)) ∨ (r = 0 ∧ ¬ kpS s (colV M 0) (colV M 1) (colV M 2)))) := by
    intro c0 c1
    refine v_Ref_keeps_1 _ _ _ _ _ ⟨K57, i 2 (by decide), i 5 (by decide), i 8 (by decide), ?_⟩
    rw [m2, m5, m8]
    refine SpL.mono (ref_dot ka la hk six _ _ _ _ _ _) ?_
    rintro _ _ ⟨rfl, rfl⟩
    rw [la, show ix (nI k + (2 : Int32)) = k + 2 from ii 2 (by decide), ml_sil, cmp 2 _ _ _ _ _ _ (by decide) a2 a5 a8 a2 a5 a8]
    refine ⟨ka, b 2 (by decide), fun c2 => ⟨K57, i 1 (by decide), i 4 (by decide), i 7 (by decide), i 2 (by decide), i 5 (by decide), i 8 (by decide), ?_⟩, fun c2 => no (fun q => c2 q.2.2.1)⟩
    rw [m1, m4, m7, m2, m5, m8]
    refine SpL.mono (ref_dot ka la hk six _ _ _ _ _ _) ?_
    rintro _ _ ⟨rfl, rfl⟩
    rw [la, show ix (nI k + (3 : Int32)) = k + 3 from ii 3 (by decide), ml_sil, cmp 3 _ _ _ _ _ _ (by decide) a1 a4 a7 a2 a5 a8]
    exact ⟨ka, b 3 (by decide), fun c3 => e2 c0 c1 c2 c3, fun c3 => no (fun q => c3 q.2.2.2.1)⟩
  refine v_Ref_keeps _ _ _ _ _ ⟨K57, i 0 (by decide), i 3 (by decide), i 6 (by decide), ?_⟩
  rw [m0, m3, m6]
  refine SpL.mono (ref_dot ka la hk six _ _ _ _ _ _) ?_
  rintro _ _ ⟨rfl, rfl⟩
  have z := cmp 0 _ _ _ _ _ _ (by decide) a0 a3 a6 a0 a3 a6
  rw [Nat.add_zero] at z
  rw [la, ix_nI (by omega), ml_sil, z]
  refine ⟨ka, b0, fun c0 => ⟨K57, i 1 (by decide), i 4 (by decide), i 7 (by decide), ?_⟩, fun c0 => no (fun q => c0 q.1)⟩
  rw [m1, m4, m7]
  refine SpL.mono (ref_dot ka la hk six _ _ _ _ _ _) ?_
  rintro _ _ ⟨rfl, rfl⟩
  rw [la, show ix (nI k + (1 : Int32)) = k + 1 from ii 1 (by decide), ml_sil, cmp 1 _ _ _ _ _ _ (by decide) a1 a4 a7 a1 a4 a7]
  exact ⟨ka, b 1 (by decide), fun c1 => e1 c0 c1, fun c1 => no (fun q => c1 q.2.1)⟩
