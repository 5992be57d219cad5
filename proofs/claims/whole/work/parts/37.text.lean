/-! the waiting bytes, the text, the fault -/
theorem SS_sil {h : MH} {f : (Nat → Nat → Int32)} {l : (Nat → Nat → Int64)} (H : SS h) : SS (sil h f l) := by
  have e := H.sil
  refine ⟨H.1, fun q hq => ?_, fun q hq => ?_, fun q hq => ?_⟩
  · have := H.2.1 q hq
    show sK (kd h) q.1 = q.2
    rw [sK_eq H]; exact this
  · have := H.2.2.1 q hq
    show sL (ln h) q.1 = q.2
    rw [sL_eq H]; exact this
  · have := H.2.2.2 q hq
    show sR (mr h) q.1 q.2.1 = q.2.2
    rw [sR_eq H]; exact this
theorem Sc_sil {h : MH} {f : (Nat → Nat → Int32)} {l : (Nat → Nat → Int64)} (H : SS h) (e : f 1 = mi h 1) : Sc h (sil h f l) := ⟨SS_sil H, rfl, e⟩
def yb (x : Int32) (i : Nat) : Int32 := (x.toUInt32 >>> ((nI (24 - 8 * i)).toUInt32 &&& Int32.toUInt32 31)).toInt32 &&& nI 255
def lay4 (f : (Nat → Nat → Int32)) (a k : Nat) (x : Int32) : (Nat → Nat → Int32) := up2 (up2 (up2 (up2 f a k (yb x 0)) a (k + 1) (yb x 1)) a (k + 2) (yb x 2)) a (k + 3) (yb x 3)
theorem sp_Scribe_lay {h : MH} {f : (Nat → Nat → Int32)} {l : (Nat → Nat → Int64)} (w : Nat) (hw : w < 17) (x : Int32) : SpV k_Scribe_lay [.ref 6, .int (nI w), .int x] (sil h f l) (fun g => g = sil h (lay4 f 7 w x) l) := by
  refine v_Scribe_lay _ _ _ _ _ ?_
  refine v_Scribe_lay_1 _ _ _ _ _ _ ?_
  simp (disch := omega) only [(show (0 : Int32) = nI 0 from rfl), (show (1 : Int32) = nI 1 from rfl), (show (4 : Int32) = nI 4 from rfl), (show (8 : Int32) = nI 8 from rfl), (show (24 : Int32) = nI 24 from rfl), (show (255 : Int32) = nI 255 from rfl), nI_add, nI_mul, nI_1, ix_nI, nI_toI, div_nI, irm_nI, InB_t, zI_add, zI_sub, zI_mul, zI_neg, nI_addZ, zI_addN, nI_mulZ, zI_mulN, nI_subZ, zI_subN, zI_toI, Int.cast_ofNat_Int, mi_sil, ml_sil, hn_sil, wi_sil, wl_sil, up2_ne, up2_s, true_and, and_true, forall_eq, true_implies, implies_true, forall_const, ne_eq, Int.reduceLT, Int.reduceLE, Int.reduceEq, Int.reduceAdd, Int.reduceSub, Int.reduceMul, Int.reduceNeg, Nat.reduceAdd, Nat.reduceMul, Nat.reduceSub, Nat.reduceDiv, Nat.reduceMod, Nat.add_zero, Nat.zero_add, Nat.mul_zero, not_true_eq_false, not_false_eq_true, false_implies, Nat.reduceEqDiff, nI_subN, Int.natCast_add, Int.natCast_mul, K6, R6_0, K7, L7]
  refine v_Scribe_lay_1 _ _ _ _ _ _ ?_
  simp (disch := omega) only [(show (0 : Int32) = nI 0 from rfl), (show (1 : Int32) = nI 1 from rfl), (show (4 : Int32) = nI 4 from rfl), (show (8 : Int32) = nI 8 from rfl), (show (24 : Int32) = nI 24 from rfl), (show (255 : Int32) = nI 255 from rfl), nI_add, nI_mul, nI_1, ix_nI, nI_toI, div_nI, irm_nI, InB_t, zI_add, zI_sub, zI_mul, zI_neg, nI_addZ, zI_addN, nI_mulZ, zI_mulN, nI_subZ, zI_subN, zI_toI, Int.cast_ofNat_Int, mi_sil, ml_sil, hn_sil, wi_sil, wl_sil, up2_ne, up2_s, true_and, and_true, forall_eq, true_implies, implies_true, forall_const, ne_eq, Int.reduceLT, Int.reduceLE, Int.reduceEq, Int.reduceAdd, Int.reduceSub, Int.reduceMul, Int.reduceNeg, Nat.reduceAdd, Nat.reduceMul, Nat.reduceSub, Nat.reduceDiv, Nat.reduceMod, Nat.add_zero, Nat.zero_add, Nat.mul_zero, not_true_eq_false, not_false_eq_true, false_implies, Nat.reduceEqDiff, nI_subN, Int.natCast_add, Int.natCast_mul, K6, R6_0, K7, L7]
  refine v_Scribe_lay_1 _ _ _ _ _ _ ?_
  simp (disch := omega) only [(show (0 : Int32) = nI 0 from rfl), (show (1 : Int32) = nI 1 from rfl), (show (4 : Int32) = nI 4 from rfl), (show (8 : Int32) = nI 8 from rfl), (show (24 : Int32) = nI 24 from rfl), (show (255 : Int32) = nI 255 from rfl), nI_add, nI_mul, nI_1, ix_nI, nI_toI, div_nI, irm_nI, InB_t, zI_add, zI_sub, zI_mul, zI_neg, nI_addZ, zI_addN, nI_mulZ, zI_mulN, nI_subZ, zI_subN, zI_toI, Int.cast_ofNat_Int, mi_sil, ml_sil, hn_sil, wi_sil, wl_sil, up2_ne, up2_s, true_and, and_true, forall_eq, true_implies, implies_true, forall_const, ne_eq, Int.reduceLT, Int.reduceLE, Int.reduceEq, Int.reduceAdd, Int.reduceSub, Int.reduceMul, Int.reduceNeg, Nat.reduceAdd, Nat.reduceMul, Nat.reduceSub, Nat.reduceDiv, Nat.reduceMod, Nat.add_zero, Nat.zero_add, Nat.mul_zero, not_true_eq_false, not_false_eq_true, false_implies, Nat.reduceEqDiff, nI_subN, Int.natCast_add, Int.natCast_mul, K6, R6_0, K7, L7]
  refine v_Scribe_lay_1 _ _ _ _ _ _ ?_
  simp (disch := omega) only [(show (0 : Int32) = nI 0 from rfl), (show (1 : Int32) = nI 1 from rfl), (show (4 : Int32) = nI 4 from rfl), (show (8 : Int32) = nI 8 from rfl), (show (24 : Int32) = nI 24 from rfl), (show (255 : Int32) = nI 255 from rfl), nI_add, nI_mul, nI_1, ix_nI, nI_toI, div_nI, irm_nI, InB_t, zI_add, zI_sub, zI_mul, zI_neg, nI_addZ, zI_addN, nI_mulZ, zI_mulN, nI_subZ, zI_subN, zI_toI, Int.cast_ofNat_Int, mi_sil, ml_sil, hn_sil, wi_sil, wl_sil, up2_ne, up2_s, true_and, and_true, forall_eq, true_implies, implies_true, forall_const, ne_eq, Int.reduceLT, Int.reduceLE, Int.reduceEq, Int.reduceAdd, Int.reduceSub, Int.reduceMul, Int.reduceNeg, Nat.reduceAdd, Nat.reduceMul, Nat.reduceSub, Nat.reduceDiv, Nat.reduceMod, Nat.add_zero, Nat.zero_add, Nat.mul_zero, not_true_eq_false, not_false_eq_true, false_implies, Nat.reduceEqDiff, nI_subN, Int.natCast_add, Int.natCast_mul, K6, R6_0, K7, L7]
  refine v_Scribe_lay_1 _ _ _ _ _ _ ?_
  simp (disch := omega) only [(show (0 : Int32) = nI 0 from rfl), (show (1 : Int32) = nI 1 from rfl), (show (4 : Int32) = nI 4 from rfl), (show (8 : Int32) = nI 8 from rfl), (show (24 : Int32) = nI 24 from rfl), (show (255 : Int32) = nI 255 from rfl), nI_add, nI_mul, nI_1, ix_nI, nI_toI, div_nI, irm_nI, InB_t, zI_add, zI_sub, zI_mul, zI_neg, nI_addZ, zI_addN, nI_mulZ, zI_mulN, nI_subZ, zI_subN, zI_toI, Int.cast_ofNat_Int, mi_sil, ml_sil, hn_sil, wi_sil, wl_sil, up2_ne, up2_s, true_and, and_true, forall_eq, true_implies, implies_true, forall_const, ne_eq, Int.reduceLT, Int.reduceLE, Int.reduceEq, Int.reduceAdd, Int.reduceSub, Int.reduceMul, Int.reduceNeg, Nat.reduceAdd, Nat.reduceMul, Nat.reduceSub, Nat.reduceDiv, Nat.reduceMod, Nat.add_zero, Nat.zero_add, Nat.mul_zero, not_true_eq_false, not_false_eq_true, false_implies, Nat.reduceEqDiff, nI_subN, Int.natCast_add, Int.natCast_mul, K6, R6_0, K7, L7]
  rfl
theorem sp_Ho_feed {h : MH} {f : (Nat → Nat → Int32)} {l : (Nat → Nat → Int64)} (a b c d e : Int32) : SpV k_Ho_feed [.ref 5, .int a, .int b, .int c, .int d, .int e] (sil h f l) (fun g => g = sil h (lay4 (lay4 (lay4 (lay4 (lay4 f 7 0 a) 7 4 b) 7 8 c) 7 12 d) 7 16 e) l) := by
  refine v_Ho_feed _ _ _ _ _ _ _ _ ⟨Kd5, ?_⟩
  rw [R5_0]
  refine ⟨K6, SpV.mono (sp_Scribe_lay 0 (by decide) a) ?_⟩
  rintro _ rfl
  rw [R5_0]
  refine ⟨Kd5, K6, SpV.mono (sp_Scribe_lay 4 (by decide) b) ?_⟩
  rintro _ rfl
  rw [R5_0]
  refine ⟨Kd5, K6, SpV.mono (sp_Scribe_lay 8 (by decide) c) ?_⟩
  rintro _ rfl
  rw [R5_0]
  refine ⟨Kd5, K6, SpV.mono (sp_Scribe_lay 12 (by decide) d) ?_⟩
  rintro _ rfl
  rw [R5_0]
  refine ⟨Kd5, K6, SpV.mono (sp_Scribe_lay 16 (by decide) e) ?_⟩
  rintro _ rfl
  rfl
theorem bv_sh (x : BitVec 32) (s : Nat) (hs : s ≤ 24) : (x.sshiftRight s) &&& 255#32 = (x >>> s) &&& 255#32 := by
  have key : ∀ i (hi : i < 32), (255#32)[i] = decide (i < 8) := by decide
  ext i hi
  rw [BitVec.getElem_and, BitVec.getElem_and, key i hi]
  by_cases h : i < 8
  · rw [BitVec.getElem_sshiftRight, BitVec.getElem_ushiftRight, dif_pos (by omega)]
    rw [BitVec.getLsbD_eq_getElem (by omega)]
  · simp [h]
theorem yz (x : Int32) (i : Nat) (hi : i < 4) : (x >>> (zI (24 - ((8 * i : Nat) : Int)) &&& nI 31)) &&& nI 255 = yb x i := by
  have h : i = 0 ∨ i = 1 ∨ i = 2 ∨ i = 3 := by omega
  rcases h with rfl | rfl | rfl | rfl
  · exact Int32.toBitVec_inj.mp (bv_sh x.toBitVec 24 (by decide))
  · exact Int32.toBitVec_inj.mp (bv_sh x.toBitVec 16 (by decide))
  · exact Int32.toBitVec_inj.mp (bv_sh x.toBitVec 8 (by decide))
  · exact Int32.toBitVec_inj.mp (bv_sh x.toBitVec 0 (by decide))
theorem yz0 (x : Int32) : (x >>> (zI 24 &&& nI 31)) &&& nI 255 = yb x 0 := yz x 0 (by decide)
theorem yz1 (x : Int32) : (x >>> (zI 16 &&& nI 31)) &&& nI 255 = yb x 1 := yz x 1 (by decide)
theorem yz2 (x : Int32) : (x >>> (zI 8 &&& nI 31)) &&& nI 255 = yb x 2 := yz x 2 (by decide)
theorem yz3 (x : Int32) : (x >>> (zI 0 &&& nI 31)) &&& nI 255 = yb x 3 := yz x 3 (by decide)
def lay5 (f : (Nat → Nat → Int32)) (q i : Nat) (a b c d e : Int32) : (Nat → Nat → Int32) := up2 (up2 (up2 (up2 (up2 f q i (yb a i)) q (4 + i) (yb b i)) q (8 + i) (yb c i)) q (12 + i) (yb d i)) q (16 + i) (yb e i)
theorem sp_Ref_feed {h : MH} {f : (Nat → Nat → Int32)} {l : (Nat → Nat → Int64)} (a b c d e : Int32) : SpV k_Ref_feed [.ref 54, .int a, .int b, .int c, .int d, .int e] (sil h f l) (fun g => g = sil h (lay5 (lay5 (lay5 (lay5 f 61 0 a b c d e) 61 1 a b c d e) 61 2 a b c d e) 61 3 a b c d e) l) := by
  refine v_Ref_feed _ _ _ _ _ _ _ _ ?_
  refine v_Ref_feed_1 _ _ _ _ _ _ _ _ _ ?_
  simp (disch := omega) only [(show (0 : Int32) = nI 0 from rfl), (show (1 : Int32) = nI 1 from rfl), (show (4 : Int32) = nI 4 from rfl), (show (8 : Int32) = nI 8 from rfl), (show (12 : Int32) = nI 12 from rfl), (show (16 : Int32) = nI 16 from rfl), (show (24 : Int32) = nI 24 from rfl), (show (255 : Int32) = nI 255 from rfl), nI_add, nI_mul, nI_1, ix_nI, nI_toI, div_nI, irm_nI, InB_t, zI_add, zI_sub, zI_mul, zI_neg, nI_addZ, zI_addN, nI_mulZ, zI_mulN, nI_subZ, zI_subN, zI_toI, Int.cast_ofNat_Int, mi_sil, ml_sil, hn_sil, wi_sil, wl_sil, up2_ne, up2_s, true_and, and_true, forall_eq, true_implies, implies_true, forall_const, ne_eq, Int.reduceLT, Int.reduceLE, Int.reduceEq, Int.reduceAdd, Int.reduceSub, Int.reduceMul, Int.reduceNeg, Nat.reduceAdd, Nat.reduceMul, Nat.reduceSub, Nat.reduceDiv, Nat.reduceMod, Nat.add_zero, Nat.zero_add, Nat.mul_zero, not_true_eq_false, not_false_eq_true, false_implies, Nat.reduceEqDiff, nI_subN, Int.natCast_add, Int.natCast_mul, K54, R54_7, K61, L61, yz0, yz1, yz2, yz3]
  refine v_Ref_feed_2 _ _ _ _ _ _ _ _ _ ?_
  simp (disch := omega) only [(show (0 : Int32) = nI 0 from rfl), (show (1 : Int32) = nI 1 from rfl), (show (4 : Int32) = nI 4 from rfl), (show (8 : Int32) = nI 8 from rfl), (show (12 : Int32) = nI 12 from rfl), (show (16 : Int32) = nI 16 from rfl), (show (24 : Int32) = nI 24 from rfl), (show (255 : Int32) = nI 255 from rfl), nI_add, nI_mul, nI_1, ix_nI, nI_toI, div_nI, irm_nI, InB_t, zI_add, zI_sub, zI_mul, zI_neg, nI_addZ, zI_addN, nI_mulZ, zI_mulN, nI_subZ, zI_subN, zI_toI, Int.cast_ofNat_Int, mi_sil, ml_sil, hn_sil, wi_sil, wl_sil, up2_ne, up2_s, true_and, and_true, forall_eq, true_implies, implies_true, forall_const, ne_eq, Int.reduceLT, Int.reduceLE, Int.reduceEq, Int.reduceAdd, Int.reduceSub, Int.reduceMul, Int.reduceNeg, Nat.reduceAdd, Nat.reduceMul, Nat.reduceSub, Nat.reduceDiv, Nat.reduceMod, Nat.add_zero, Nat.zero_add, Nat.mul_zero, not_true_eq_false, not_false_eq_true, false_implies, Nat.reduceEqDiff, nI_subN, Int.natCast_add, Int.natCast_mul, K54, R54_7, K61, L61, yz0, yz1, yz2, yz3]
  refine v_Ref_feed_1 _ _ _ _ _ _ _ _ _ ?_
  simp (disch := omega) only [(show (0 : Int32) = nI 0 from rfl), (show (1 : Int32) = nI 1 from rfl), (show (4 : Int32) = nI 4 from rfl), (show (8 : Int32) = nI 8 from rfl), (show (12 : Int32) = nI 12 from rfl), (show (16 : Int32) = nI 16 from rfl), (show (24 : Int32) = nI 24 from rfl), (show (255 : Int32) = nI 255 from rfl), nI_add, nI_mul, nI_1, ix_nI, nI_toI, div_nI, irm_nI, InB_t, zI_add, zI_sub, zI_mul, zI_neg, nI_addZ, zI_addN, nI_mulZ, zI_mulN, nI_subZ, zI_subN, zI_toI, Int.cast_ofNat_Int, mi_sil, ml_sil, hn_sil, wi_sil, wl_sil, up2_ne, up2_s, true_and, and_true, forall_eq, true_implies, implies_true, forall_const, ne_eq, Int.reduceLT, Int.reduceLE, Int.reduceEq, Int.reduceAdd, Int.reduceSub, Int.reduceMul, Int.reduceNeg, Nat.reduceAdd, Nat.reduceMul, Nat.reduceSub, Nat.reduceDiv, Nat.reduceMod, Nat.add_zero, Nat.zero_add, Nat.mul_zero, not_true_eq_false, not_false_eq_true, false_implies, Nat.reduceEqDiff, nI_subN, Int.natCast_add, Int.natCast_mul, K54, R54_7, K61, L61, yz0, yz1, yz2, yz3]
  refine v_Ref_feed_2 _ _ _ _ _ _ _ _ _ ?_
  simp (disch := omega) only [(show (0 : Int32) = nI 0 from rfl), (show (1 : Int32) = nI 1 from rfl), (show (4 : Int32) = nI 4 from rfl), (show (8 : Int32) = nI 8 from rfl), (show (12 : Int32) = nI 12 from rfl), (show (16 : Int32) = nI 16 from rfl), (show (24 : Int32) = nI 24 from rfl), (show (255 : Int32) = nI 255 from rfl), nI_add, nI_mul, nI_1, ix_nI, nI_toI, div_nI, irm_nI, InB_t, zI_add, zI_sub, zI_mul, zI_neg, nI_addZ, zI_addN, nI_mulZ, zI_mulN, nI_subZ, zI_subN, zI_toI, Int.cast_ofNat_Int, mi_sil, ml_sil, hn_sil, wi_sil, wl_sil, up2_ne, up2_s, true_and, and_true, forall_eq, true_implies, implies_true, forall_const, ne_eq, Int.reduceLT, Int.reduceLE, Int.reduceEq, Int.reduceAdd, Int.reduceSub, Int.reduceMul, Int.reduceNeg, Nat.reduceAdd, Nat.reduceMul, Nat.reduceSub, Nat.reduceDiv, Nat.reduceMod, Nat.add_zero, Nat.zero_add, Nat.mul_zero, not_true_eq_false, not_false_eq_true, false_implies, Nat.reduceEqDiff, nI_subN, Int.natCast_add, Int.natCast_mul, K54, R54_7, K61, L61, yz0, yz1, yz2, yz3]
  refine v_Ref_feed_1 _ _ _ _ _ _ _ _ _ ?_
  simp (disch := omega) only [(show (0 : Int32) = nI 0 from rfl), (show (1 : Int32) = nI 1 from rfl), (show (4 : Int32) = nI 4 from rfl), (show (8 : Int32) = nI 8 from rfl), (show (12 : Int32) = nI 12 from rfl), (show (16 : Int32) = nI 16 from rfl), (show (24 : Int32) = nI 24 from rfl), (show (255 : Int32) = nI 255 from rfl), nI_add, nI_mul, nI_1, ix_nI, nI_toI, div_nI, irm_nI, InB_t, zI_add, zI_sub, zI_mul, zI_neg, nI_addZ, zI_addN, nI_mulZ, zI_mulN, nI_subZ, zI_subN, zI_toI, Int.cast_ofNat_Int, mi_sil, ml_sil, hn_sil, wi_sil, wl_sil, up2_ne, up2_s, true_and, and_true, forall_eq, true_implies, implies_true, forall_const, ne_eq, Int.reduceLT, Int.reduceLE, Int.reduceEq, Int.reduceAdd, Int.reduceSub, Int.reduceMul, Int.reduceNeg, Nat.reduceAdd, Nat.reduceMul, Nat.reduceSub, Nat.reduceDiv, Nat.reduceMod, Nat.add_zero, Nat.zero_add, Nat.mul_zero, not_true_eq_false, not_false_eq_true, false_implies, Nat.reduceEqDiff, nI_subN, Int.natCast_add, Int.natCast_mul, K54, R54_7, K61, L61, yz0, yz1, yz2, yz3]
  refine v_Ref_feed_2 _ _ _ _ _ _ _ _ _ ?_
  simp (disch := omega) only [(show (0 : Int32) = nI 0 from rfl), (show (1 : Int32) = nI 1 from rfl), (show (4 : Int32) = nI 4 from rfl), (show (8 : Int32) = nI 8 from rfl), (show (12 : Int32) = nI 12 from rfl), (show (16 : Int32) = nI 16 from rfl), (show (24 : Int32) = nI 24 from rfl), (show (255 : Int32) = nI 255 from rfl), nI_add, nI_mul, nI_1, ix_nI, nI_toI, div_nI, irm_nI, InB_t, zI_add, zI_sub, zI_mul, zI_neg, nI_addZ, zI_addN, nI_mulZ, zI_mulN, nI_subZ, zI_subN, zI_toI, Int.cast_ofNat_Int, mi_sil, ml_sil, hn_sil, wi_sil, wl_sil, up2_ne, up2_s, true_and, and_true, forall_eq, true_implies, implies_true, forall_const, ne_eq, Int.reduceLT, Int.reduceLE, Int.reduceEq, Int.reduceAdd, Int.reduceSub, Int.reduceMul, Int.reduceNeg, Nat.reduceAdd, Nat.reduceMul, Nat.reduceSub, Nat.reduceDiv, Nat.reduceMod, Nat.add_zero, Nat.zero_add, Nat.mul_zero, not_true_eq_false, not_false_eq_true, false_implies, Nat.reduceEqDiff, nI_subN, Int.natCast_add, Int.natCast_mul, K54, R54_7, K61, L61, yz0, yz1, yz2, yz3]
  refine v_Ref_feed_1 _ _ _ _ _ _ _ _ _ ?_
  simp (disch := omega) only [(show (0 : Int32) = nI 0 from rfl), (show (1 : Int32) = nI 1 from rfl), (show (4 : Int32) = nI 4 from rfl), (show (8 : Int32) = nI 8 from rfl), (show (12 : Int32) = nI 12 from rfl), (show (16 : Int32) = nI 16 from rfl), (show (24 : Int32) = nI 24 from rfl), (show (255 : Int32) = nI 255 from rfl), nI_add, nI_mul, nI_1, ix_nI, nI_toI, div_nI, irm_nI, InB_t, zI_add, zI_sub, zI_mul, zI_neg, nI_addZ, zI_addN, nI_mulZ, zI_mulN, nI_subZ, zI_subN, zI_toI, Int.cast_ofNat_Int, mi_sil, ml_sil, hn_sil, wi_sil, wl_sil, up2_ne, up2_s, true_and, and_true, forall_eq, true_implies, implies_true, forall_const, ne_eq, Int.reduceLT, Int.reduceLE, Int.reduceEq, Int.reduceAdd, Int.reduceSub, Int.reduceMul, Int.reduceNeg, Nat.reduceAdd, Nat.reduceMul, Nat.reduceSub, Nat.reduceDiv, Nat.reduceMod, Nat.add_zero, Nat.zero_add, Nat.mul_zero, not_true_eq_false, not_false_eq_true, false_implies, Nat.reduceEqDiff, nI_subN, Int.natCast_add, Int.natCast_mul, K54, R54_7, K61, L61, yz0, yz1, yz2, yz3]
  refine v_Ref_feed_2 _ _ _ _ _ _ _ _ _ ?_
  simp (disch := omega) only [(show (0 : Int32) = nI 0 from rfl), (show (1 : Int32) = nI 1 from rfl), (show (4 : Int32) = nI 4 from rfl), (show (8 : Int32) = nI 8 from rfl), (show (12 : Int32) = nI 12 from rfl), (show (16 : Int32) = nI 16 from rfl), (show (24 : Int32) = nI 24 from rfl), (show (255 : Int32) = nI 255 from rfl), nI_add, nI_mul, nI_1, ix_nI, nI_toI, div_nI, irm_nI, InB_t, zI_add, zI_sub, zI_mul, zI_neg, nI_addZ, zI_addN, nI_mulZ, zI_mulN, nI_subZ, zI_subN, zI_toI, Int.cast_ofNat_Int, mi_sil, ml_sil, hn_sil, wi_sil, wl_sil, up2_ne, up2_s, true_and, and_true, forall_eq, true_implies, implies_true, forall_const, ne_eq, Int.reduceLT, Int.reduceLE, Int.reduceEq, Int.reduceAdd, Int.reduceSub, Int.reduceMul, Int.reduceNeg, Nat.reduceAdd, Nat.reduceMul, Nat.reduceSub, Nat.reduceDiv, Nat.reduceMod, Nat.add_zero, Nat.zero_add, Nat.mul_zero, not_true_eq_false, not_false_eq_true, false_implies, Nat.reduceEqDiff, nI_subN, Int.natCast_add, Int.natCast_mul, K54, R54_7, K61, L61, yz0, yz1, yz2, yz3]
  refine v_Ref_feed_1 _ _ _ _ _ _ _ _ _ ?_
  simp (disch := omega) only [(show (0 : Int32) = nI 0 from rfl), (show (1 : Int32) = nI 1 from rfl), (show (4 : Int32) = nI 4 from rfl), (show (8 : Int32) = nI 8 from rfl), (show (12 : Int32) = nI 12 from rfl), (show (16 : Int32) = nI 16 from rfl), (show (24 : Int32) = nI 24 from rfl), (show (255 : Int32) = nI 255 from rfl), nI_add, nI_mul, nI_1, ix_nI, nI_toI, div_nI, irm_nI, InB_t, zI_add, zI_sub, zI_mul, zI_neg, nI_addZ, zI_addN, nI_mulZ, zI_mulN, nI_subZ, zI_subN, zI_toI, Int.cast_ofNat_Int, mi_sil, ml_sil, hn_sil, wi_sil, wl_sil, up2_ne, up2_s, true_and, and_true, forall_eq, true_implies, implies_true, forall_const, ne_eq, Int.reduceLT, Int.reduceLE, Int.reduceEq, Int.reduceAdd, Int.reduceSub, Int.reduceMul, Int.reduceNeg, Nat.reduceAdd, Nat.reduceMul, Nat.reduceSub, Nat.reduceDiv, Nat.reduceMod, Nat.add_zero, Nat.zero_add, Nat.mul_zero, not_true_eq_false, not_false_eq_true, false_implies, Nat.reduceEqDiff, nI_subN, Int.natCast_add, Int.natCast_mul, K54, R54_7, K61, L61, yz0, yz1, yz2, yz3]
  simp only [show (31 : Int32) = nI 31 from rfl, yz0, yz1, yz2, yz3, lay5, Nat.reduceAdd]
/-- m of the waiting bytes behind a text of n -/
def endT (T W : Nat → Int32) (n m : Nat) : Nat → Int32 := fun j => if n ≤ j ∧ j < n + m then W (j - n) else T j
def EndPost (f f' : (Nat → Nat → Int32)) (o p w t n m : Nat) : Prop := (∀ a, a ≠ o → a ≠ w → a ≠ t → f' a = f a) ∧ (∀ j, j ≠ p → f' o j = f o j) ∧ f' o p = nI (n + m) ∧ (∀ j, j < 20 → f' w j = nI 0) ∧ f' t = endT (f t) (f w) n m
def endOk (n : Nat) (x : Int32) : Prop := 0 ≤ x.toInt ∧ x.toInt ≤ 20 ∧ (n : Int) + x.toInt ≤ 100
theorem sp_Scribe_append {h : MH} {f : (Nat → Nat → Int32)} {l : (Nat → Nat → Int64)} {n : Nat} (hf : f 6 2 = nI n) (hn : n ≤ 100) (x : Int32) : SpI k_Scribe_append [.ref 6, .int x] (sil h f l) (fun r g =>
    (endOk n x ∧ ∃ f', g = sil h f' l ∧ EndPost f f' 6 2 7 8 n (ix x) ∧ r = nI (n + ix x)) ∨ (¬ endOk n x ∧ g = sil h f l ∧ r = zI (-1))) := by
  have t20 : (20 : Int32).toInt = 20 := rfl
  have t100 : (100 : Int32).toInt = 100 := rfl
  have tn : (nI n).toInt = (n : Int) := nI_toI (by omega)
  refine v_Scribe_append _ _ _ _ ⟨fun c => ⟨_, rfl, Or.inr ⟨fun q => by have := q.1; omega, rfl, rfl⟩⟩, fun c => ⟨fun c2 => ⟨_, rfl, Or.inr ⟨fun q => by have := q.2.1; omega, rfl, rfl⟩⟩, fun c2 => ⟨K6, ?_⟩⟩⟩
  rw [t20] at c2
  obtain ⟨m, hm, rfl⟩ : ∃ m, m < 2147483648 ∧ x = nI m := ⟨ix x, (by have := hb_ix (i := x) (by omega); have := hb_hi x; omega), hb_of (by omega)⟩
  have tm : (nI m).toInt = (m : Int) := nI_toI hm
  rw [tm] at c2
  rw [show mi (sil h f l) 6 2 = nI n from hf, nI_add, t100, nI_toI (by omega), R6_0, R6_1, ix_nI hm]
  refine ⟨fun c3 => ⟨_, rfl, Or.inr ⟨fun q => by have := q.2.2; rw [tm] at this; omega, rfl, rfl⟩⟩, fun c3 => ⟨K7, K8, ?_, ?_⟩⟩
  · rw [tm, tn]
    have : (0 : Int32).toInt = 0 := rfl
    show _ ∧ _ ∧ _ ∧ _ ≤ ((20 : Nat) : Int) ∧ _ ≤ ((100 : Nat) : Int)
    omega
  · rintro _ rfl
    rintro _ rfl
    rw [ix_nI (by omega), show ix (0 : Int32) = 0 from rfl]
    refine SpV.mono (sp_fillI 7 0 rfl (by show 20 < 2147483648; decide)) ?_
    rintro _ ⟨f2, rfl, h1, h2, h3⟩
    rw [mi_wi] at h1
    have e8 : ∀ a j, a ≠ 8 → mi (cpI (sil h f l) 7 0 8 n m) a j = f a j := fun a j ha => by rw [mi_cpI, if_neg (fun q => ha q.1)]; rfl
    have e62 : f2 6 2 = nI (n + m) := by
      rw [h1 6 (by decide), up2_s, e8 6 2 (by decide), hf, nI_add]
    refine ⟨rfl, _, rfl, Or.inl ⟨⟨by omega, by omega, by omega⟩, f2, rfl, ⟨fun a a1 a2 a3 => ?_, fun j hj => ?_, e62, h2, ?_⟩, e62⟩⟩
    · rw [h1 a a2]
      funext j
      rw [up2_id a1, e8 a j a3]
    · rw [h1 6 (by decide), up2_ix hj, e8 6 j (by decide)]
    · rw [h1 8 (by decide)]
      funext j
      rw [up2_id (by decide), mi_cpI]
      unfold endT
      rw [Nat.zero_add]
      by_cases q : n ≤ j ∧ j < n + m
      · rw [if_pos ⟨rfl, q⟩, if_pos q]; rfl
      · rw [if_neg (fun w => q w.2), if_neg q]; rfl
theorem sp_Ref_end {h : MH} {f : (Nat → Nat → Int32)} {l : (Nat → Nat → Int64)} {n : Nat} (hf : f 54 9 = nI n) (hn : n ≤ 100) (x : Int32) : SpI k_Ref_end [.ref 54, .int x] (sil h f l) (fun r g =>
    (endOk n x ∧ ∃ f', g = sil h f' l ∧ EndPost f f' 54 9 61 62 n (ix x) ∧ r = nI (n + ix x)) ∨ (¬ endOk n x ∧ g = sil h f l ∧ r = zI (-1))) := by
  have t20 : (20 : Int32).toInt = 20 := rfl
  have t100 : (100 : Int32).toInt = 100 := rfl
  have tn : (nI n).toInt = (n : Int) := nI_toI (by omega)
  refine v_Ref_end _ _ _ _ ⟨fun c => ⟨_, rfl, Or.inr ⟨fun q => by have := q.1; omega, rfl, rfl⟩⟩, fun c => ⟨fun c2 => ⟨_, rfl, Or.inr ⟨fun q => by have := q.2.1; omega, rfl, rfl⟩⟩, fun c2 => ⟨K54, ?_⟩⟩⟩
  rw [t20] at c2
  obtain ⟨m, hm, rfl⟩ : ∃ m, m < 2147483648 ∧ x = nI m := ⟨ix x, (by have := hb_ix (i := x) (by omega); have := hb_hi x; omega), hb_of (by omega)⟩
  have tm : (nI m).toInt = (m : Int) := nI_toI hm
  rw [tm] at c2
  rw [show mi (sil h f l) 54 9 = nI n from hf, nI_add, t100, nI_toI (by omega), ix_nI hm]
  refine ⟨fun c3 => ⟨_, rfl, Or.inr ⟨fun q => by have := q.2.2; rw [tm] at this; omega, rfl, rfl⟩⟩, fun c3 => ?_⟩
  refine up_ind m (fun i (f1 : (Nat → Nat → Int32)) => (∀ a, a ≠ 62 → f1 a = f a) ∧ f1 62 = endT (f 62) (f 61) n i) (fun i f1 => WM k_Ref_end p_Ref_end_1 [.ref 54, .int (nI m), .int (nI i)] [] (sil h f1 l) 0 0 _) ?_ ?_ 0 f (Nat.zero_le m) ⟨fun _ _ => rfl, ?_⟩
  · rintro i f1 hi ⟨i1, i2⟩ ih
    have e9 : f1 54 9 = nI n := by rw [i1 54 (by decide)]; exact hf
    refine v_Ref_end_1 _ _ _ _ _ ?_
    simp (disch := omega) only [↓(show (-1 : Int32) = zI (-1) from rfl), (show (0 : Int32) = nI 0 from rfl), (show (1 : Int32) = nI 1 from rfl), (show (20 : Int32) = nI 20 from rfl), (show (100 : Int32) = nI 100 from rfl), nI_add, nI_mul, nI_1, ix_nI, nI_toI, div_nI, irm_nI, InB_t, zI_add, zI_sub, zI_mul, zI_neg, nI_addZ, zI_addN, nI_mulZ, zI_mulN, nI_subZ, zI_subN, zI_toI, Int.cast_ofNat_Int, mi_sil, ml_sil, hn_sil, wi_sil, wl_sil, up2_ne, up2_s, true_and, and_true, forall_eq, true_implies, implies_true, forall_const, ne_eq, Int.reduceLT, Int.reduceLE, Int.reduceEq, Int.reduceAdd, Int.reduceSub, Int.reduceMul, Int.reduceNeg, Nat.reduceAdd, Nat.reduceMul, Nat.reduceSub, Nat.reduceDiv, Nat.reduceMod, Nat.add_zero, Nat.zero_add, Nat.mul_zero, not_true_eq_false, not_false_eq_true, false_implies, Nat.reduceEqDiff, nI_subN, Int.natCast_add, Int.natCast_mul, K54, R54_8, K62, L62, R54_7, K61, L61, e9]
    refine ⟨fun _ => ih _ ⟨fun a ha => ?_, ?_⟩, fun q => absurd (by omega) q⟩
    · rw [up2_row ha]; exact i1 a ha
    · funext j
      by_cases e : j = n + i
      · subst e
        rw [up2_s, i1 61 (by decide)]
        unfold endT
        rw [if_pos ⟨by omega, by omega⟩, show n + i - n = i by omega]
      · rw [up2_ix e, i2]
        unfold endT
        by_cases q : n ≤ j ∧ j < n + i
        · rw [if_pos q, if_pos ⟨q.1, by omega⟩]
        · rw [if_neg q, if_neg (fun w => q ⟨w.1, by omega⟩)]
  · rintro f1 ⟨i1, i2⟩
    have e9 : f1 54 9 = nI n := by rw [i1 54 (by decide)]; exact hf
    refine v_Ref_end_1 _ _ _ _ _ ?_
    simp (disch := omega) only [↓(show (-1 : Int32) = zI (-1) from rfl), (show (0 : Int32) = nI 0 from rfl), (show (1 : Int32) = nI 1 from rfl), (show (20 : Int32) = nI 20 from rfl), (show (100 : Int32) = nI 100 from rfl), nI_add, nI_mul, nI_1, ix_nI, nI_toI, div_nI, irm_nI, InB_t, zI_add, zI_sub, zI_mul, zI_neg, nI_addZ, zI_addN, nI_mulZ, zI_mulN, nI_subZ, zI_subN, zI_toI, Int.cast_ofNat_Int, mi_sil, ml_sil, hn_sil, wi_sil, wl_sil, up2_ne, up2_s, true_and, and_true, forall_eq, true_implies, implies_true, forall_const, ne_eq, Int.reduceLT, Int.reduceLE, Int.reduceEq, Int.reduceAdd, Int.reduceSub, Int.reduceMul, Int.reduceNeg, Nat.reduceAdd, Nat.reduceMul, Nat.reduceSub, Nat.reduceDiv, Nat.reduceMod, Nat.add_zero, Nat.zero_add, Nat.mul_zero, not_true_eq_false, not_false_eq_true, false_implies, Nat.reduceEqDiff, nI_subN, Int.natCast_add, Int.natCast_mul, K54, R54_8, K62, L62, R54_7, K61, L61, e9]
    refine ⟨fun q => absurd q (by omega), fun _ => ?_⟩
    refine up_ind 20 (fun i (f2 : (Nat → Nat → Int32)) => (∀ a, a ≠ 61 → f2 a = up2 f1 54 9 (nI (n + m)) a) ∧ ∀ j, j < i → f2 61 j = nI 0) (fun i f2 => WM k_Ref_end p_Ref_end_2 [.ref 54, Jv, .int (nI i)] [] (sil h f2 l) 0 0 _) ?_ ?_ 0 _ (by decide) ⟨fun _ _ => rfl, fun j hj => absurd hj (Nat.not_lt_zero j)⟩
    · rintro i f2 hi ⟨j1, j2⟩ ih
      refine v_Ref_end_2 _ _ _ _ ?_
      simp (disch := omega) only [↓(show (-1 : Int32) = zI (-1) from rfl), (show (0 : Int32) = nI 0 from rfl), (show (1 : Int32) = nI 1 from rfl), (show (20 : Int32) = nI 20 from rfl), (show (100 : Int32) = nI 100 from rfl), nI_add, nI_mul, nI_1, ix_nI, nI_toI, div_nI, irm_nI, InB_t, zI_add, zI_sub, zI_mul, zI_neg, nI_addZ, zI_addN, nI_mulZ, zI_mulN, nI_subZ, zI_subN, zI_toI, Int.cast_ofNat_Int, mi_sil, ml_sil, hn_sil, wi_sil, wl_sil, up2_ne, up2_s, true_and, and_true, forall_eq, true_implies, implies_true, forall_const, ne_eq, Int.reduceLT, Int.reduceLE, Int.reduceEq, Int.reduceAdd, Int.reduceSub, Int.reduceMul, Int.reduceNeg, Nat.reduceAdd, Nat.reduceMul, Nat.reduceSub, Nat.reduceDiv, Nat.reduceMod, Nat.add_zero, Nat.zero_add, Nat.mul_zero, not_true_eq_false, not_false_eq_true, false_implies, Nat.reduceEqDiff, nI_subN, Int.natCast_add, Int.natCast_mul, K54, R54_8, K62, L62, R54_7, K61, L61]
      refine ⟨fun _ => ih _ ⟨fun a ha => ?_, fun j hj => ?_⟩, fun q => absurd (by omega) q⟩
      · rw [up2_row ha]; exact j1 a ha
      · by_cases e : j = i
        · subst e; rw [up2_s]
        · rw [up2_ix e]; exact j2 j (by omega)
    · rintro f2 ⟨j1, j2⟩
      have e9 : f2 54 9 = nI (n + m) := by rw [j1 54 (by decide), up2_s]
      refine v_Ref_end_2 _ _ _ _ ?_
      simp (disch := omega) only [↓(show (-1 : Int32) = zI (-1) from rfl), (show (0 : Int32) = nI 0 from rfl), (show (1 : Int32) = nI 1 from rfl), (show (20 : Int32) = nI 20 from rfl), (show (100 : Int32) = nI 100 from rfl), nI_add, nI_mul, nI_1, ix_nI, nI_toI, div_nI, irm_nI, InB_t, zI_add, zI_sub, zI_mul, zI_neg, nI_addZ, zI_addN, nI_mulZ, zI_mulN, nI_subZ, zI_subN, zI_toI, Int.cast_ofNat_Int, mi_sil, ml_sil, hn_sil, wi_sil, wl_sil, up2_ne, up2_s, true_and, and_true, forall_eq, true_implies, implies_true, forall_const, ne_eq, Int.reduceLT, Int.reduceLE, Int.reduceEq, Int.reduceAdd, Int.reduceSub, Int.reduceMul, Int.reduceNeg, Nat.reduceAdd, Nat.reduceMul, Nat.reduceSub, Nat.reduceDiv, Nat.reduceMod, Nat.add_zero, Nat.zero_add, Nat.mul_zero, not_true_eq_false, not_false_eq_true, false_implies, Nat.reduceEqDiff, nI_subN, Int.natCast_add, Int.natCast_mul, K54, R54_8, K62, L62, R54_7, K61, L61, e9]
      refine ⟨_, rfl, Or.inl ⟨⟨by omega, by omega, by omega⟩, f2, rfl, ⟨fun a a1 a2 a3 => ?_, fun j hj => ?_, e9, j2, ?_⟩, rfl⟩⟩
      · rw [j1 a a2, up2_row a1, i1 a a3]
      · rw [j1 54 (by decide), up2_ix hj, i1 54 (by decide)]
      · rw [j1 62 (by decide), up2_row (by decide), i2]
  · funext j
    unfold endT
    rw [if_neg (by omega)]
theorem sp_Ho_end {h : MH} {f : (Nat → Nat → Int32)} {l : (Nat → Nat → Int64)} {n : Nat} (hf : f 6 2 = nI n) (hn : n ≤ 100) (x : Int32) : SpI k_Ho_end [.ref 5, .int x] (sil h f l) (fun r g =>
    (endOk n x ∧ ∃ f', g = sil h f' l ∧ EndPost f f' 6 2 7 8 n (ix x) ∧ r = nI (n + ix x)) ∨ (¬ endOk n x ∧ g = sil h f l ∧ r = zI (-1))) := by
  refine v_Ho_end _ _ _ _ ⟨Kd5, ?_⟩
  rw [R5_0]
  refine ⟨K6, SpI.mono (sp_Scribe_append hf hn x) ?_⟩
  intro r g q
  exact ⟨_, rfl, q⟩
theorem sp_Ho_fault {h : MH} {f : (Nat → Nat → Int32)} {l : (Nat → Nat → Int64)} (x : Int32) : SpI k_Ho_fault [.ref 5, .int x] (sil h f l) (fun r g => g = sil h f l ∧ r = if x = 0 then f 6 4 else if x = 1 then f 6 5 else -1) := by
  refine v_Ho_fault _ _ _ _ ?_
  rw [R5_0]
  exact ⟨fun c => ⟨Kd5, K6, _, rfl, rfl, by rw [if_pos c]; rfl⟩, fun c => ⟨fun c2 => ⟨Kd5, K6, _, rfl, rfl, by rw [if_neg c, if_pos c2]; rfl⟩, fun c2 => ⟨_, rfl, rfl, by rw [if_neg c, if_neg c2]⟩⟩⟩
theorem sp_Ref_fault {h : MH} {f : (Nat → Nat → Int32)} {l : (Nat → Nat → Int64)} (x : Int32) : SpI k_Ref_fault [.ref 54, .int x] (sil h f l) (fun r g => g = sil h f l ∧ r = if x = 0 then f 54 10 else if x = 1 then f 54 11 else -1) := by
  refine v_Ref_fault _ _ _ _ ?_
  exact ⟨fun c => ⟨K54, _, rfl, rfl, by rw [if_pos c]; rfl⟩, fun c => ⟨fun c2 => ⟨K54, _, rfl, rfl, by rw [if_neg c, if_pos c2]; rfl⟩, fun c2 => ⟨_, rfl, rfl, by rw [if_neg c, if_neg c2]⟩⟩⟩
