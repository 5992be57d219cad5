/-! the reference's reduction, a step -/
theorem lz_lt {x y : Int} (h1 : -1000000000000 ≤ x) (h2 : x ≤ 1000000000000) (h3 : -1000000000000 ≤ y) (h4 : y ≤ 1000000000000) : ((lg_cmp (zL x) (zL y)).toInt < 0) = (x < y) := by
  rw [lc_lt, zL_toI (by omega) (by omega), zL_toI (by omega) (by omega)]
theorem lz_gt {x y : Int} (h1 : -1000000000000 ≤ x) (h2 : x ≤ 1000000000000) (h3 : -1000000000000 ≤ y) (h4 : y ≤ 1000000000000) : (0 < (lg_cmp (zL x) (zL y)).toInt) = (y < x) := by
  rw [lc_gt, zL_toI (by omega) (by omega), zL_toI (by omega) (by omega)]
theorem lz_eq {x y : Int} (h1 : -1000000000000 ≤ x) (h2 : x ≤ 1000000000000) (h3 : -1000000000000 ≤ y) (h4 : y ≤ 1000000000000) : (lg_cmp (zL x) (zL y) = 0) = (x = y) := by
  rw [lc_eq]
  exact zL_inj (by omega) (by omega) (by omega) (by omega)
theorem j0 : (0 : Int64) = zL 0 := rfl
theorem j1 : (1 : Int64) = zL 1 := rfl
theorem j2 : (2 : Int64) = zL 2 := rfl
theorem jm : (-1 : Int64) = zL (-1) := rfl
theorem sp_Ref_size {h : MH} {v : Int} (h1 : -1000000000000 ≤ v) (h2 : v ≤ 1000000000000) : SpL k_Ref_size [.long (zL v)] h (fun r g => g = h ∧ r = zL (sz v)) := by
  refine v_Ref_size _ _ _ ?_
  rw [j0, lz_lt h1 h2 (by decide) (by decide), zL_neg]
  exact ⟨fun c => ⟨_, rfl, rfl, by unfold sz; rw [if_pos c]⟩, fun c => ⟨_, rfl, rfl, by unfold sz; rw [if_neg c]⟩⟩
def Six (l : (Nat → Nat → Int64)) : S6 → Prop := fun (a, b, c, x, y, z) => l 79 0 = zL a ∧ l 79 1 = zL b ∧ l 79 2 = zL c ∧ l 79 3 = zL x ∧ l 79 4 = zL y ∧ l 79 5 = zL z
def BB : S6 → Prop := fun (a, b, c, x, y, z) => (-100000000 ≤ a ∧ a ≤ 100000000) ∧ (-100000000 ≤ b ∧ b ≤ 100000000) ∧ (-100000000 ≤ c ∧ c ≤ 100000000) ∧ (-100000000 ≤ x ∧ x ≤ 100000000) ∧ (-100000000 ≤ y ∧ y ≤ 100000000) ∧ (-100000000 ≤ z ∧ z ≤ 100000000)
theorem OK_BB {t : S6} (h : OKs t) (hT : tT t ≤ 10000000) : BB t := by
  obtain ⟨a, b, c, x, y, z⟩ := t
  have := h.bd
  simp only [tT] at hT
  show (_ ∧ _) ∧ (_ ∧ _) ∧ (_ ∧ _) ∧ (_ ∧ _) ∧ (_ ∧ _) ∧ (_ ∧ _)
  omega
/-- what the last part of a step leaves -/
def LsP (h : MH) (f : (Nat → Nat → Int32)) (l : (Nat → Nat → Int64)) (w : S6) (r : Int32) (g : MH) : Prop := ∃ u l', g = sil h f l' ∧ Fr [79] l l' ∧ Six l' u ∧ ((r = 1 ∧ lsR w u True) ∨ (r = 0 ∧ lsR w u False))
theorem lsX {w : S6} (h : cx w) : lsR w (xF w) True := Or.inl ⟨h, rfl, trivial⟩
theorem lsY {w : S6} (h0 : ¬ cx w) (h : cy w) : lsR w (yF w) True := Or.inr (Or.inl ⟨h0, h, rfl, trivial⟩)
theorem lsZ {w : S6} (h0 : ¬ cx w) (h1 : ¬ cy w) (h : cz w) : lsR w (zF w) True := Or.inr (Or.inr (Or.inl ⟨h0, h1, h, rfl, trivial⟩))
theorem lsS {w : S6} (h0 : ¬ cx w) (h1 : ¬ cy w) (h2 : ¬ cz w) (h : cs w) : lsR w (sF w) True := Or.inr (Or.inr (Or.inr (Or.inl ⟨h0, h1, h2, h, rfl, trivial⟩)))
theorem lsN {w : S6} (h0 : ¬ cx w) (h1 : ¬ cy w) (h2 : ¬ cz w) (h : ¬ cs w) : lsR w w False := Or.inr (Or.inr (Or.inr (Or.inr ⟨h0, h1, h2, h, rfl, fun q => q⟩)))
theorem sg_n {x : Int} (h : x < 0) : sg x = -1 := if_pos h
theorem sg_p {x : Int} (h : ¬ x < 0) : sg x = 1 := if_neg h
theorem ref_ls {h : MH} {f : (Nat → Nat → Int32)} {l0 l : (Nat → Nat → Int64)} {a b c x y z : Int} (hB : BB (a, b, c, x, y, z)) (fr : Fr [79] l0 l) (hs : Six l (a, b, c, x, y, z)) (q : Int32) :
    WM k_Ref_step p_Ref_step_6 [.ref 54, Jv, .int q, .int (nI 6), Jv, Jv, Jv, Jv, Jv, Jv, Jv, Jv, Jv, Jv, Jv, Jv, Jv] [] (sil h f l) 0 0 (fun v g => ∃ r, v = .int r ∧ LsP h f l0 (a, b, c, x, y, z) r g) := by
  obtain ⟨⟨a1, a2⟩, ⟨b1, b2⟩, ⟨c1, c2⟩, ⟨x1, x2⟩, ⟨y1, y2⟩, ⟨z1, z2⟩⟩ := hB
  obtain ⟨s0, s1, s2, s3, s4, s5⟩ := hs
  have m79 : (79 : Nat) ∈ [79] := List.mem_cons_self
  have bx := sz_c x
  have by_ := sz_c y
  have bz := sz_c z
  -- the four ends
  have e9 : ∀ s : Int, s = sg x → cx (a, b, c, x, y, z) → WM k_Ref_step p_Ref_step_9 [.ref 54, Jv, Jv, Jv, Jv, .long (zL b), Jv, .long (zL c), Jv, .long (zL x), Jv, .long (zL y), Jv, .long (zL z), Jv, Jv, Jv] [.long (zL s)] (sil h f l) 0 0 (fun v g => ∃ r, v = .int r ∧ LsP h f l0 (a, b, c, x, y, z) r g) := by
    intro s es hc
    refine v_Ref_step_9 _ _ _ _ _ _ _ _ _ ?_
    simp (disch := omega) only [(show (0 : Int32) = nI 0 from rfl), (show (1 : Int32) = nI 1 from rfl), (show (2 : Int32) = nI 2 from rfl), (show (3 : Int32) = nI 3 from rfl), (show (4 : Int32) = nI 4 from rfl), (show (5 : Int32) = nI 5 from rfl), (show (6 : Int32) = nI 6 from rfl), nI_add, nI_mul, nI_1, ix_nI, nI_toI, div_nI, irm_nI, InB_t, zI_add, zI_sub, zI_mul, zI_neg, nI_addZ, zI_addN, nI_mulZ, zI_mulN, nI_subZ, zI_subN, zI_toI, Int.cast_ofNat_Int, mi_sil, ml_sil, hn_sil, wi_sil, wl_sil, up2_ne, up2_s, true_and, and_true, forall_eq, true_implies, implies_true, forall_const, ne_eq, Int.reduceLT, Int.reduceLE, Int.reduceEq, Int.reduceAdd, Int.reduceSub, Int.reduceMul, Int.reduceNeg, Nat.reduceAdd, Nat.reduceMul, Nat.reduceSub, Nat.reduceDiv, Nat.reduceMod, Nat.add_zero, Nat.zero_add, Nat.mul_zero, not_true_eq_false, not_false_eq_true, false_implies, Nat.reduceEqDiff, nI_subN, Int.natCast_add, Int.natCast_mul, K54, R54_33, K79, L79, j2, zL_add, zL_sub, zL_mul]
    refine ⟨_, rfl, xF (a, b, c, x, y, z), _, rfl, ((fr.up m79).up m79).up m79, ?_, Or.inl ⟨rfl, lsX hc⟩⟩
    subst es
    refine ⟨?_, ?_, ?_, ?_, ?_, ?_⟩ <;> simp (disch := decide) only [up2_ni, up2_s] <;> first | assumption | rfl
  have e12 : ∀ s : Int, s = sg y → ¬ cx (a, b, c, x, y, z) → cy (a, b, c, x, y, z) → WM k_Ref_step p_Ref_step_12 [.ref 54, Jv, Jv, .long (zL a), Jv, Jv, Jv, .long (zL c), Jv, .long (zL x), Jv, .long (zL y), Jv, .long (zL z), Jv, Jv, Jv] [.long (zL s)] (sil h f l) 0 0 (fun v g => ∃ r, v = .int r ∧ LsP h f l0 (a, b, c, x, y, z) r g) := by
    intro s es h0 hc
    refine v_Ref_step_12 _ _ _ _ _ _ _ _ _ ?_
    simp (disch := omega) only [(show (0 : Int32) = nI 0 from rfl), (show (1 : Int32) = nI 1 from rfl), (show (2 : Int32) = nI 2 from rfl), (show (3 : Int32) = nI 3 from rfl), (show (4 : Int32) = nI 4 from rfl), (show (5 : Int32) = nI 5 from rfl), (show (6 : Int32) = nI 6 from rfl), nI_add, nI_mul, nI_1, ix_nI, nI_toI, div_nI, irm_nI, InB_t, zI_add, zI_sub, zI_mul, zI_neg, nI_addZ, zI_addN, nI_mulZ, zI_mulN, nI_subZ, zI_subN, zI_toI, Int.cast_ofNat_Int, mi_sil, ml_sil, hn_sil, wi_sil, wl_sil, up2_ne, up2_s, true_and, and_true, forall_eq, true_implies, implies_true, forall_const, ne_eq, Int.reduceLT, Int.reduceLE, Int.reduceEq, Int.reduceAdd, Int.reduceSub, Int.reduceMul, Int.reduceNeg, Nat.reduceAdd, Nat.reduceMul, Nat.reduceSub, Nat.reduceDiv, Nat.reduceMod, Nat.add_zero, Nat.zero_add, Nat.mul_zero, not_true_eq_false, not_false_eq_true, false_implies, Nat.reduceEqDiff, nI_subN, Int.natCast_add, Int.natCast_mul, K54, R54_33, K79, L79, j2, zL_add, zL_sub, zL_mul]
    refine ⟨_, rfl, yF (a, b, c, x, y, z), _, rfl, ((fr.up m79).up m79).up m79, ?_, Or.inl ⟨rfl, lsY h0 hc⟩⟩
    subst es
    refine ⟨?_, ?_, ?_, ?_, ?_, ?_⟩ <;> simp (disch := decide) only [up2_ni, up2_s] <;> first | assumption | rfl
  have e15 : ∀ s : Int, s = sg z → ¬ cx (a, b, c, x, y, z) → ¬ cy (a, b, c, x, y, z) → cz (a, b, c, x, y, z) → WM k_Ref_step p_Ref_step_15 [.ref 54, Jv, Jv, .long (zL a), Jv, .long (zL b), Jv, Jv, Jv, .long (zL x), Jv, .long (zL y), Jv, .long (zL z), Jv, Jv, Jv] [.long (zL s)] (sil h f l) 0 0 (fun v g => ∃ r, v = .int r ∧ LsP h f l0 (a, b, c, x, y, z) r g) := by
    intro s es h0 h1 hc
    refine v_Ref_step_15 _ _ _ _ _ _ _ _ _ ?_
    simp (disch := omega) only [(show (0 : Int32) = nI 0 from rfl), (show (1 : Int32) = nI 1 from rfl), (show (2 : Int32) = nI 2 from rfl), (show (3 : Int32) = nI 3 from rfl), (show (4 : Int32) = nI 4 from rfl), (show (5 : Int32) = nI 5 from rfl), (show (6 : Int32) = nI 6 from rfl), nI_add, nI_mul, nI_1, ix_nI, nI_toI, div_nI, irm_nI, InB_t, zI_add, zI_sub, zI_mul, zI_neg, nI_addZ, zI_addN, nI_mulZ, zI_mulN, nI_subZ, zI_subN, zI_toI, Int.cast_ofNat_Int, mi_sil, ml_sil, hn_sil, wi_sil, wl_sil, up2_ne, up2_s, true_and, and_true, forall_eq, true_implies, implies_true, forall_const, ne_eq, Int.reduceLT, Int.reduceLE, Int.reduceEq, Int.reduceAdd, Int.reduceSub, Int.reduceMul, Int.reduceNeg, Nat.reduceAdd, Nat.reduceMul, Nat.reduceSub, Nat.reduceDiv, Nat.reduceMod, Nat.add_zero, Nat.zero_add, Nat.mul_zero, not_true_eq_false, not_false_eq_true, false_implies, Nat.reduceEqDiff, nI_subN, Int.natCast_add, Int.natCast_mul, K54, R54_33, K79, L79, j2, zL_add, zL_sub, zL_mul]
    refine ⟨_, rfl, zF (a, b, c, x, y, z), _, rfl, ((fr.up m79).up m79).up m79, ?_, Or.inl ⟨rfl, lsZ h0 h1 hc⟩⟩
    subst es
    refine ⟨?_, ?_, ?_, ?_, ?_, ?_⟩ <;> simp (disch := decide) only [up2_ni, up2_s] <;> first | assumption | rfl
  have e17 : ¬ cx (a, b, c, x, y, z) → ¬ cy (a, b, c, x, y, z) → ¬ cz (a, b, c, x, y, z) → cs (a, b, c, x, y, z) → WM k_Ref_step p_Ref_step_17 [.ref 54, Jv, Jv, .long (zL a), Jv, .long (zL b), Jv, .long (zL c), Jv, .long (zL x), Jv, .long (zL y), Jv, .long (zL z), Jv, .long (zL (x + y + z + a + b)), Jv] [] (sil h f l) 0 0 (fun v g => ∃ r, v = .int r ∧ LsP h f l0 (a, b, c, x, y, z) r g) := by
    intro h0 h1 h2 hc
    refine v_Ref_step_17 _ _ _ _ _ _ _ _ _ _ ?_
    simp (disch := omega) only [(show (0 : Int32) = nI 0 from rfl), (show (1 : Int32) = nI 1 from rfl), (show (2 : Int32) = nI 2 from rfl), (show (3 : Int32) = nI 3 from rfl), (show (4 : Int32) = nI 4 from rfl), (show (5 : Int32) = nI 5 from rfl), (show (6 : Int32) = nI 6 from rfl), nI_add, nI_mul, nI_1, ix_nI, nI_toI, div_nI, irm_nI, InB_t, zI_add, zI_sub, zI_mul, zI_neg, nI_addZ, zI_addN, nI_mulZ, zI_mulN, nI_subZ, zI_subN, zI_toI, Int.cast_ofNat_Int, mi_sil, ml_sil, hn_sil, wi_sil, wl_sil, up2_ne, up2_s, true_and, and_true, forall_eq, true_implies, implies_true, forall_const, ne_eq, Int.reduceLT, Int.reduceLE, Int.reduceEq, Int.reduceAdd, Int.reduceSub, Int.reduceMul, Int.reduceNeg, Nat.reduceAdd, Nat.reduceMul, Nat.reduceSub, Nat.reduceDiv, Nat.reduceMod, Nat.add_zero, Nat.zero_add, Nat.mul_zero, not_true_eq_false, not_false_eq_true, false_implies, Nat.reduceEqDiff, nI_subN, Int.natCast_add, Int.natCast_mul, K54, R54_33, K79, L79, j2, zL_add, zL_sub, zL_mul]
    refine ⟨_, rfl, sF (a, b, c, x, y, z), _, rfl, ((fr.up m79).up m79).up m79, ?_, Or.inl ⟨rfl, lsS h0 h1 h2 hc⟩⟩
    refine ⟨?_, ?_, ?_, ?_, ?_, ?_⟩ <;> simp (disch := decide) only [up2_ni, up2_s] <;> first | assumption | rfl
  have e16 : ¬ cx (a, b, c, x, y, z) → ¬ cy (a, b, c, x, y, z) → ¬ cz (a, b, c, x, y, z) → WM k_Ref_step p_Ref_step_16 [.ref 54, Jv, Jv, .long (zL a), Jv, .long (zL b), Jv, .long (zL c), Jv, .long (zL x), Jv, .long (zL y), Jv, .long (zL z), Jv, Jv, Jv] [] (sil h f l) 0 0 (fun v g => ∃ r, v = .int r ∧ LsP h f l0 (a, b, c, x, y, z) r g) := by
    intro h0 h1 h2
    have fin : ¬ cs (a, b, c, x, y, z) → ∃ r, Value.int 0 = .int r ∧ LsP h f l0 (a, b, c, x, y, z) r (sil h f l) := fun w => ⟨_, rfl, (a, b, c, x, y, z), l, rfl, fr, ⟨s0, s1, s2, s3, s4, s5⟩, Or.inr ⟨rfl, lsN h0 h1 h2 w⟩⟩
    refine v_Ref_step_16 _ _ _ _ _ _ _ _ _ ?_
    simp (disch := omega) only [j0, j2, zL_add, zL_mul, lz_lt, lz_gt, lz_eq]
    exact ⟨fun w => e17 h0 h1 h2 (Or.inl w), fun w1 => ⟨fun w2 => ⟨fun w3 => e17 h0 h1 h2 (Or.inr ⟨w2, w3⟩), fun w3 => fin (fun w => by rcases w with w | w; exact w1 w; exact w3 w.2)⟩, fun w2 => fin (fun w => by rcases w with w | w; exact w1 w; exact w2 w.1)⟩⟩
  have e14 : ¬ cx (a, b, c, x, y, z) → ¬ cy (a, b, c, x, y, z) → ¬ a < sz z → ¬ (z = a ∧ 2 * x < y) → WM k_Ref_step p_Ref_step_14 [.ref 54, Jv, Jv, .long (zL a), Jv, .long (zL b), Jv, .long (zL c), Jv, .long (zL x), Jv, .long (zL y), Jv, .long (zL z), Jv, Jv, Jv] [] (sil h f l) 0 0 (fun v g => ∃ r, v = .int r ∧ LsP h f l0 (a, b, c, x, y, z) r g) := by
    intro h0 h1 n1 n2
    refine v_Ref_step_14 _ _ _ _ _ _ _ _ _ ?_
    simp (disch := omega) only [j0, j1, zL_neg, lz_lt, lz_gt, lz_eq]
    exact ⟨fun w1 => ⟨fun w2 => ⟨fun w3 => e15 _ (sg_n w3).symm h0 h1 (Or.inr (Or.inr ⟨w1, w2⟩)), fun w3 => e15 _ (sg_p w3).symm h0 h1 (Or.inr (Or.inr ⟨w1, w2⟩))⟩, fun w2 => e16 h0 h1 (fun w => by rcases w with w | w | w; exact n1 w; exact n2 w; exact w2 w.2)⟩, fun w1 => e16 h0 h1 (fun w => by rcases w with w | w | w; exact n1 w; exact n2 w; exact w1 w.1)⟩
  have e13 : ¬ cx (a, b, c, x, y, z) → ¬ cy (a, b, c, x, y, z) → WM k_Ref_step p_Ref_step_13 [.ref 54, Jv, Jv, .long (zL a), Jv, .long (zL b), Jv, .long (zL c), Jv, .long (zL x), Jv, .long (zL y), Jv, .long (zL z), Jv, Jv, Jv] [] (sil h f l) 0 0 (fun v g => ∃ r, v = .int r ∧ LsP h f l0 (a, b, c, x, y, z) r g) := by
    intro h0 h1
    refine v_Ref_step_13 _ _ _ _ _ _ _ _ _ (SpL.mono (sp_Ref_size (by omega) (by omega)) ?_)
    rintro r g ⟨e, er⟩
    subst g er
    simp (disch := omega) only [j0, j1, j2, zL_mul, lz_lt, lz_gt, lz_eq]
    exact ⟨fun w1 => ⟨fun w3 => e15 _ (sg_n w3).symm h0 h1 (Or.inl w1), fun w3 => e15 _ (sg_p w3).symm h0 h1 (Or.inl w1)⟩, fun n1 => ⟨fun w1 => ⟨fun w2 => ⟨fun w3 => e15 _ (sg_n w3).symm h0 h1 (Or.inr (Or.inl ⟨w1, w2⟩)), fun w3 => e15 _ (sg_p w3).symm h0 h1 (Or.inr (Or.inl ⟨w1, w2⟩))⟩, fun w2 => e14 h0 h1 n1 (fun w => w2 w.2)⟩, fun w1 => e14 h0 h1 n1 (fun w => w1 w.1)⟩⟩
  have e11 : ¬ cx (a, b, c, x, y, z) → ¬ a < sz y → ¬ (y = a ∧ 2 * x < z) → WM k_Ref_step p_Ref_step_11 [.ref 54, Jv, Jv, .long (zL a), Jv, .long (zL b), Jv, .long (zL c), Jv, .long (zL x), Jv, .long (zL y), Jv, .long (zL z), Jv, Jv, Jv] [] (sil h f l) 0 0 (fun v g => ∃ r, v = .int r ∧ LsP h f l0 (a, b, c, x, y, z) r g) := by
    intro h0 n1 n2
    refine v_Ref_step_11 _ _ _ _ _ _ _ _ _ ?_
    simp (disch := omega) only [j0, j1, zL_neg, lz_lt, lz_gt, lz_eq]
    exact ⟨fun w1 => ⟨fun w2 => ⟨fun w3 => e12 _ (sg_n w3).symm h0 (Or.inr (Or.inr ⟨w1, w2⟩)), fun w3 => e12 _ (sg_p w3).symm h0 (Or.inr (Or.inr ⟨w1, w2⟩))⟩, fun w2 => e13 h0 (fun w => by rcases w with w | w | w; exact n1 w; exact n2 w; exact w2 w.2)⟩, fun w1 => e13 h0 (fun w => by rcases w with w | w | w; exact n1 w; exact n2 w; exact w1 w.1)⟩
  have e10 : ¬ cx (a, b, c, x, y, z) → WM k_Ref_step p_Ref_step_10 [.ref 54, Jv, Jv, .long (zL a), Jv, .long (zL b), Jv, .long (zL c), Jv, .long (zL x), Jv, .long (zL y), Jv, .long (zL z), Jv, Jv, Jv] [] (sil h f l) 0 0 (fun v g => ∃ r, v = .int r ∧ LsP h f l0 (a, b, c, x, y, z) r g) := by
    intro h0
    refine v_Ref_step_10 _ _ _ _ _ _ _ _ _ (SpL.mono (sp_Ref_size (by omega) (by omega)) ?_)
    rintro r g ⟨e, er⟩
    subst g er
    simp (disch := omega) only [j0, j1, j2, zL_mul, lz_lt, lz_gt, lz_eq]
    exact ⟨fun w1 => ⟨fun w3 => e12 _ (sg_n w3).symm h0 (Or.inl w1), fun w3 => e12 _ (sg_p w3).symm h0 (Or.inl w1)⟩, fun n1 => ⟨fun w1 => ⟨fun w2 => ⟨fun w3 => e12 _ (sg_n w3).symm h0 (Or.inr (Or.inl ⟨w1, w2⟩)), fun w3 => e12 _ (sg_p w3).symm h0 (Or.inr (Or.inl ⟨w1, w2⟩))⟩, fun w2 => e11 h0 n1 (fun w => w2 w.2)⟩, fun w1 => e11 h0 n1 (fun w => w1 w.1)⟩⟩
  have e8 : ¬ b < sz x → ¬ (x = b ∧ 2 * y < z) → WM k_Ref_step p_Ref_step_8 [.ref 54, Jv, Jv, .long (zL a), Jv, .long (zL b), Jv, .long (zL c), Jv, .long (zL x), Jv, .long (zL y), Jv, .long (zL z), Jv, Jv, Jv] [] (sil h f l) 0 0 (fun v g => ∃ r, v = .int r ∧ LsP h f l0 (a, b, c, x, y, z) r g) := by
    intro n1 n2
    refine v_Ref_step_8 _ _ _ _ _ _ _ _ _ ?_
    simp (disch := omega) only [j0, j1, zL_neg, lz_lt, lz_gt, lz_eq]
    exact ⟨fun w1 => ⟨fun w2 => ⟨fun w3 => e9 _ (sg_n w3).symm (Or.inr (Or.inr ⟨w1, w2⟩)), fun w3 => e9 _ (sg_p w3).symm (Or.inr (Or.inr ⟨w1, w2⟩))⟩, fun w2 => e10 (fun w => by rcases w with w | w | w; exact n1 w; exact n2 w; exact w2 w.2)⟩, fun w1 => e10 (fun w => by rcases w with w | w | w; exact n1 w; exact n2 w; exact w1 w.1)⟩
  have e7 : ¬ b < sz x → x = b → WM k_Ref_step p_Ref_step_7 [.ref 54, Jv, Jv, .long (zL a), Jv, .long (zL b), Jv, .long (zL c), Jv, .long (zL x), Jv, .long (zL y), Jv, .long (zL z), Jv, Jv, Jv] [] (sil h f l) 0 0 (fun v g => ∃ r, v = .int r ∧ LsP h f l0 (a, b, c, x, y, z) r g) := by
    intro n1 w1
    refine v_Ref_step_7 _ _ _ _ _ _ _ _ _ ?_
    simp (disch := omega) only [j0, j1, j2, zL_mul, lz_lt, lz_gt, lz_eq]
    exact ⟨fun w2 => ⟨fun w3 => e9 _ (sg_n w3).symm (Or.inr (Or.inl ⟨w1, w2⟩)), fun w3 => e9 _ (sg_p w3).symm (Or.inr (Or.inl ⟨w1, w2⟩))⟩, fun w2 => e8 n1 (fun w => w2 w.2)⟩
  refine v_Ref_step_6 _ _ _ _ _ ⟨fun w => absurd w (by decide), fun _ => ⟨K54, ?_⟩⟩
  rw [R54_33]
  have bb : ∀ k : Nat, k < 6 → InB (nI k) 6 := fun k hk => InB_nI hk (by omega)
  refine ⟨K79, bb 0 (by decide), bb 1 (by decide), bb 2 (by decide), bb 3 (by decide), bb 4 (by decide), bb 5 (by decide), ?_⟩
  rw [show ix (0 : Int32) = 0 from rfl, show ix (1 : Int32) = 1 from rfl, show ix (2 : Int32) = 2 from rfl, show ix (3 : Int32) = 3 from rfl, show ix (4 : Int32) = 4 from rfl, show ix (5 : Int32) = 5 from rfl, ml_sil, s0, s1, s2, s3, s4, s5]
  refine SpL.mono (sp_Ref_size (by omega) (by omega)) ?_
  rintro r g ⟨e, er⟩
  subst g er
  simp (disch := omega) only [j0, j1, lz_lt, lz_gt, lz_eq]
  exact ⟨fun w1 => ⟨fun w3 => e9 _ (sg_n w3).symm (Or.inl w1), fun w3 => e9 _ (sg_p w3).symm (Or.inl w1)⟩, fun n1 => ⟨fun w1 => e7 n1 w1, fun w1 => e8 n1 (fun w => w1 w.1)⟩⟩
