/-! products, sorts, moves: the class's and the reference's own -/
def Ab (x : Int) (n : Nat) : Prop := x.natAbs ≤ n
theorem Ab.add {x y : Int} {a b : Nat} (h1 : Ab x a) (h2 : Ab y b) : Ab (x + y) (a + b) := by unfold Ab at *; omega
theorem Ab.sub {x y : Int} {a b : Nat} (h1 : Ab x a) (h2 : Ab y b) : Ab (x - y) (a + b) := by unfold Ab at *; omega
theorem Ab.mul {x y : Int} {a b : Nat} (h1 : Ab x a) (h2 : Ab y b) : Ab (x * y) (a * b) := by
  unfold Ab at *
  rw [Int.natAbs_mul]
  exact Nat.mul_le_mul h1 h2
theorem Ab.neg {x : Int} {a : Nat} (h1 : Ab x a) : Ab (-x) a := by unfold Ab at *; omega
theorem Ab.wk {x : Int} {a b : Nat} (h1 : Ab x a) (h : a ≤ b) : Ab x b := Nat.le_trans h1 h
theorem Ab.lo {x : Int} {a : Nat} (h : Ab x a) : -(a : Int) ≤ x := by unfold Ab at h; omega
theorem Ab.hi {x : Int} {a : Nat} (h : Ab x a) : x ≤ a := by unfold Ab at h; omega
theorem Ab.of {x : Int} {a : Nat} (h1 : -(a : Int) ≤ x) (h2 : x ≤ a) : Ab x a := by unfold Ab; omega
theorem small.ab {M : Nat → Int} (h : small M) {j : Nat} (hj : j < 9) : Ab (M j) 1 := Ab.of (by have := h j hj; omega) (by have := h j hj; omega)
theorem det9_ab {M : Nat → Int} (h : small M) : Ab (det9 M) 6 :=
  ((((h.ab (by decide)).mul (((h.ab (by decide)).mul (h.ab (by decide))).sub ((h.ab (by decide)).mul (h.ab (by decide))))).sub ((h.ab (by decide)).mul (((h.ab (by decide)).mul (h.ab (by decide))).sub ((h.ab (by decide)).mul (h.ab (by decide)))))).add ((h.ab (by decide)).mul (((h.ab (by decide)).mul (h.ab (by decide))).sub ((h.ab (by decide)).mul (h.ab (by decide)))))).wk (by decide)
def tr9 (M : Nat → Int) : Int := M 0 + M 4 + M 8
theorem tr9_ab {M : Nat → Int} (h : small M) : Ab (tr9 M) 3 := (((h.ab (by decide)).add (h.ab (by decide))).add (h.ab (by decide))).wk (by decide)
def sortZ (M : Nat → Int) : Int :=
  if det9 M * tr9 M = 3 then det9 M else if det9 M * tr9 M = -1 then 2 * det9 M else if det9 M * tr9 M = 0 then 3 * det9 M else if det9 M * tr9 M = 1 then 4 * det9 M else if det9 M * tr9 M = 2 then 6 * det9 M else 0
theorem sp_Ref_determinant {h : MH} {a : Nat} {M : Nat → Int} (ka : kd h a = 20) (la : ln h a = 9) (hM : MatAt (mi h) a M) : SpI k_Ref_determinant [.ref a] h (fun r h' => h' = h ∧ r = zI (det9 M)) := by
  have e : ∀ j, j < 9 → mi h a j = zI (M j) := fun j hj => of_toI (hM j hj)
  refine v_Ref_determinant a _ _ ?_
  simp (disch := omega) only [(show (0 : Int32) = nI 0 from rfl), (show (1 : Int32) = nI 1 from rfl), (show (2 : Int32) = nI 2 from rfl), (show (3 : Int32) = nI 3 from rfl), (show (4 : Int32) = nI 4 from rfl), (show (5 : Int32) = nI 5 from rfl), (show (6 : Int32) = nI 6 from rfl), (show (7 : Int32) = nI 7 from rfl), (show (8 : Int32) = nI 8 from rfl), nI_add, nI_mul, nI_1, ix_nI, nI_toI, div_nI, irm_nI, InB_t, zI_add, zI_sub, zI_mul, zI_neg, nI_addZ, zI_addN, nI_mulZ, zI_mulN, nI_subZ, zI_subN, zI_toI, Int.cast_ofNat_Int, mi_sil, ml_sil, hn_sil, wi_sil, wl_sil, up2_ne, up2_s, true_and, and_true, forall_eq, true_implies, implies_true, forall_const, ne_eq, ka, la, e]
  exact ⟨_, rfl, rfl⟩
theorem sp_Motion_determinant {h : MH} {x a : Nat} {M : Nat → Int} (hx : kd h x = 7) (ea : mr h x 0 = a) (ka : kd h a = 20) (la : ln h a = 9) (hM : MatAt (mi h) a M) : SpI k_Motion_determinant [.ref x] h (fun r h' => h' = h ∧ r = zI (det9 M)) := by
  have e : ∀ j, j < 9 → mi h a j = zI (M j) := fun j hj => of_toI (hM j hj)
  refine v_Motion_determinant x _ _ ?_
  simp (disch := omega) only [(show (0 : Int32) = nI 0 from rfl), (show (1 : Int32) = nI 1 from rfl), (show (2 : Int32) = nI 2 from rfl), (show (3 : Int32) = nI 3 from rfl), (show (4 : Int32) = nI 4 from rfl), (show (5 : Int32) = nI 5 from rfl), (show (6 : Int32) = nI 6 from rfl), (show (7 : Int32) = nI 7 from rfl), (show (8 : Int32) = nI 8 from rfl), nI_add, nI_mul, nI_1, ix_nI, nI_toI, div_nI, irm_nI, InB_t, zI_add, zI_sub, zI_mul, zI_neg, nI_addZ, zI_addN, nI_mulZ, zI_mulN, nI_subZ, zI_subN, zI_toI, Int.cast_ofNat_Int, mi_sil, ml_sil, hn_sil, wi_sil, wl_sil, up2_ne, up2_s, true_and, and_true, forall_eq, true_implies, implies_true, forall_const, ne_eq, K9, R9_0, K10, L10, K20, R20_0, K21, L21, K23, R23_0, K24, L24, K26, R26_0, K27, L27, K30, R30_0, K31, L31, K33, R33_0, K34, L34, K36, R36_0, K37, L37, hx, ea, ka, la, e]
  exact ⟨_, rfl, rfl⟩
theorem sp_Ref_sortOf {h : MH} {a : Nat} {M : Nat → Int} (ka : kd h a = 20) (la : ln h a = 9) (hM : MatAt (mi h) a M) (hs : small M) : SpI k_Ref_sortOf [.ref a] h (fun r h' => h' = h ∧ r = zI (sortZ M)) := by
  have e : ∀ j, j < 9 → mi h a j = zI (M j) := fun j hj => of_toI (hM j hj)
  have b1 := ((det9_ab hs).mul (tr9_ab hs)).lo
  have b2 := ((det9_ab hs).mul (tr9_ab hs)).hi
  refine v_Ref_sortOf a _ _ ?_
  simp (disch := omega) only [↓(show (-1 : Int32) = zI (-1) from rfl), (show (0 : Int32) = nI 0 from rfl), (show (1 : Int32) = nI 1 from rfl), (show (2 : Int32) = nI 2 from rfl), (show (3 : Int32) = nI 3 from rfl), (show (4 : Int32) = nI 4 from rfl), (show (6 : Int32) = nI 6 from rfl), (show (8 : Int32) = nI 8 from rfl), nI_add, nI_mul, nI_1, ix_nI, nI_toI, div_nI, irm_nI, InB_t, zI_add, zI_sub, zI_mul, zI_neg, nI_addZ, zI_addN, nI_mulZ, zI_mulN, nI_subZ, zI_subN, zI_toI, Int.cast_ofNat_Int, mi_sil, ml_sil, hn_sil, wi_sil, wl_sil, up2_ne, up2_s, true_and, and_true, forall_eq, true_implies, implies_true, forall_const, ne_eq, ka, la, e]
  refine SpI.mono (sp_Ref_determinant ka la hM) ?_
  rintro r h' ⟨rfl, rfl⟩
  have b0 : ∀ z : Int, -10 ≤ z → z < 10 → (zI (det9 M) * (zI (M 0 + M 4 + M 8)) = zI z) = (det9 M * tr9 M = z) := fun z z1 z2 => by
    rw [zI_mul]
    exact zI_inj (by show _ ≤ det9 M * tr9 M; omega) (by show det9 M * tr9 M < _; omega) (by omega) (by omega)
  have c3 : (nI 3 : Int32) = zI 3 := rfl
  have c0 : (nI 0 : Int32) = zI 0 := rfl
  have c1 : (nI 1 : Int32) = zI 1 := rfl
  have c2 : (nI 2 : Int32) = zI 2 := rfl
  rw [c3, c0, c1, c2, b0 3 (by decide) (by decide), b0 (-1) (by decide) (by decide), b0 0 (by decide) (by decide), b0 1 (by decide) (by decide), b0 2 (by decide) (by decide)]
  unfold sortZ
  refine ⟨fun c => ⟨_, rfl, rfl, ?_⟩, fun n1 => ⟨fun c => ⟨_, rfl, rfl, ?_⟩, fun n2 => ⟨fun c => ⟨_, rfl, rfl, ?_⟩, fun n3 => ⟨fun c => ⟨_, rfl, rfl, ?_⟩, fun n4 => ⟨fun c => ⟨_, rfl, rfl, ?_⟩, fun n5 => ⟨_, rfl, rfl, ?_⟩⟩⟩⟩⟩⟩
  · rw [if_pos c, zI_mul]; congr 1; omega
  · rw [if_neg n1, if_pos c, zI_mul]; congr 1; omega
  · rw [if_neg n1, if_neg n2, if_pos c, zI_mul]; congr 1; omega
  · rw [if_neg n1, if_neg n2, if_neg n3, if_pos c, zI_mulN]; congr 1; omega
  · rw [if_neg n1, if_neg n2, if_neg n3, if_neg n4, if_pos c, zI_mulN]; congr 1; omega
  · rw [if_neg n1, if_neg n2, if_neg n3, if_neg n4, if_neg n5, zI_mul]; congr 1; omega
theorem sp_Motion_sort {h : MH} {x a : Nat} {M : Nat → Int} (hx : kd h x = 7) (ea : mr h x 0 = a) (ka : kd h a = 20) (la : ln h a = 9) (hM : MatAt (mi h) a M) (hs : small M) : SpI k_Motion_sort [.ref x] h (fun r h' => h' = h ∧ r = zI (sortZ M)) := by
  have e : ∀ j, j < 9 → mi h a j = zI (M j) := fun j hj => of_toI (hM j hj)
  have b1 := ((det9_ab hs).mul (tr9_ab hs)).lo
  have b2 := ((det9_ab hs).mul (tr9_ab hs)).hi
  refine v_Motion_sort x h _ ⟨hx, ?_⟩
  refine SpI.mono (sp_Motion_determinant hx ea ka la hM) ?_
  rintro r h' ⟨e0, rfl⟩
  subst h'
  simp (disch := omega) only [↓(show (-1 : Int32) = zI (-1) from rfl), (show (0 : Int32) = nI 0 from rfl), (show (1 : Int32) = nI 1 from rfl), (show (2 : Int32) = nI 2 from rfl), (show (3 : Int32) = nI 3 from rfl), (show (4 : Int32) = nI 4 from rfl), (show (6 : Int32) = nI 6 from rfl), (show (8 : Int32) = nI 8 from rfl), nI_add, nI_mul, nI_1, ix_nI, nI_toI, div_nI, irm_nI, InB_t, zI_add, zI_sub, zI_mul, zI_neg, nI_addZ, zI_addN, nI_mulZ, zI_mulN, nI_subZ, zI_subN, zI_toI, Int.cast_ofNat_Int, mi_sil, ml_sil, hn_sil, wi_sil, wl_sil, up2_ne, up2_s, true_and, and_true, forall_eq, true_implies, implies_true, forall_const, ne_eq, K9, K20, K23, K26, K30, K33, K36, R9_0, K10, L10, R20_0, K21, L21, R23_0, K24, L24, R26_0, K27, L27, R30_0, K31, L31, R33_0, K34, L34, R36_0, K37, L37, hx, ea, ka, la, e]
  have b0 : ∀ z : Int, -10 ≤ z → z < 10 → (zI (det9 M * (M 0 + M 4 + M 8)) = zI z) = (det9 M * tr9 M = z) := fun z z1 z2 => by
    exact zI_inj (by show _ ≤ det9 M * tr9 M; omega) (by show det9 M * tr9 M < _; omega) (by omega) (by omega)
  have c3 : (nI 3 : Int32) = zI 3 := rfl
  have c0 : (nI 0 : Int32) = zI 0 := rfl
  have c1 : (nI 1 : Int32) = zI 1 := rfl
  have c2 : (nI 2 : Int32) = zI 2 := rfl
  rw [c3, c0, c1, c2, b0 3 (by decide) (by decide), b0 (-1) (by decide) (by decide), b0 0 (by decide) (by decide), b0 1 (by decide) (by decide), b0 2 (by decide) (by decide)]
  unfold sortZ
  refine ⟨fun c => ⟨_, rfl, ?_⟩, fun n1 => ⟨fun c => ⟨_, rfl, ?_⟩, fun n2 => ⟨fun c => ⟨_, rfl, ?_⟩, fun n3 => ⟨fun c => ⟨_, rfl, ?_⟩, fun n4 => ⟨fun c => ⟨_, rfl, ?_⟩, fun n5 => ⟨_, rfl, ?_⟩⟩⟩⟩⟩⟩
  · rw [if_neg (by omega), if_pos c]
  · rw [if_neg (by omega), if_neg n1, if_pos c]
  · rw [if_neg (by omega), if_neg n1, if_neg n2, if_pos c]
  · rw [if_neg (by omega), if_neg n1, if_neg n2, if_neg n3, if_pos c]
  · rw [if_pos c]
  · rw [if_neg n5, if_neg n1, if_neg n2, if_neg n3, if_neg n4]
theorem sp_Ref_identity {h : MH} : SpI k_Ref_identity [] h (fun r h' => h' = h ∧ r = nI 227874816) := by
  refine v_Ref_identity h _ ?_
  iterate 9
    refine v_Ref_identity_1 _ _ _ _ ⟨fun _ => ⟨fun c => ?_, fun c => ?_⟩, fun c => absurd (by decide) c⟩ <;> first | exact absurd c (by decide) | skip
  exact v_Ref_identity_1 _ _ _ _ ⟨fun c => absurd c (by decide), fun _ => ⟨_, rfl, rfl, by decide⟩⟩
/-- the remainder as the reference makes it -/
theorem irm_fm {x : Int} {d : Nat} (h1 : -2000000000 ≤ x) (h2 : x < 2000000000) (hd : 0 < d) (hd2 : d < 1000000) : irm (irm (zI x) (nI d) + nI d) (nI d) = zI (x % d) := by
  have td : (nI d).toInt = (d : Int) := nI_toI (by omega)
  have tx : (zI x).toInt = x := zI_toI (by omega) (by omega)
  have e1 := hb_rem (zI x) (nI d) (by omega)
  rw [td, tx] at e1
  have hb := tmod_bounds (a := x) (show (0 : Int) < d by omega)
  have e2 : (irm (zI x) (nI d) + nI d).toInt = x.tmod d + d := by rw [hb_add _ _ (by omega), e1, td]
  apply hb_eq
  rw [hb_remN _ _ (by omega) (by omega), e2, td, Int.add_emod_right]
  have hm := Int.emod_nonneg x (show (d : Int) ≠ 0 by omega)
  have hm2 := Int.emod_lt_of_pos x (show (0 : Int) < d by omega)
  rw [zI_toI (by omega) (by omega)]
  rw [Int.tmod_def]
  exact Int.sub_mul_emod_self_left _ _ _
