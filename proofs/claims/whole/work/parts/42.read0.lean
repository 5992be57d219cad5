/-! an empty text is read -/
theorem sp_Scribe_report {h : MH} {f : (Nat → Nat → Int32)} {l : (Nat → Nat → Int64)} (x y : Int32) : SpV k_Scribe_report [.ref 6, .int x, .int y] (sil h f l) (fun g => g = sil h (up2 (up2 f 6 4 x) 6 5 y) l) := by
  refine v_Scribe_report _ _ _ _ _ ⟨K6, ?_⟩
  rintro _ rfl
  rintro _ rfl
  rfl
theorem sp_Motion_clear {h : MH} {f : (Nat → Nat → Int32)} {l : (Nat → Nat → Int64)} : SpV k_Motion_clear [.ref 9] (sil h f l) (fun g => ∃ f', g = sil h f' l ∧ Fr [10, 11] f f' ∧ MatAt f' 10 (fun _ => 0) ∧ ShAt f' 11 (fun _ => 0)) := by
  refine v_Motion_clear _ _ _ ⟨K9, ?_⟩
  rw [R9_0]
  refine SpV.mono (sp_fillI 10 0 rfl (by show 9 < 2147483648; decide)) ?_
  rintro _ ⟨f1, rfl, a1, a2, a3⟩
  rw [si_sil, R9_1]
  refine ⟨K9, SpV.mono (sp_fillI 11 0 rfl (by show 3 < 2147483648; decide)) ?_⟩
  rintro _ ⟨f2, rfl, b1, b2, b3⟩
  rw [si_sil]
  refine ⟨f2, rfl, fun a ha => ?_, fun j hj => ?_, fun j hj => ?_⟩
  · rw [b1 a (fun q => ha (by rw [q]; decide)), mi_sil]
    exact a1 a (fun q => ha (by rw [q]; decide))
  · rw [b1 10 (by decide), mi_sil, a2 j hj]; rfl
  · rw [b2 j hj]; rfl
section E0
variable {h : MH} {f : (Nat → Nat → Int32)} {l : (Nat → Nat → Int64)}
theorem e_peek (h2 : f 6 2 = nI 0) (h3 : f 6 3 = nI 0) : SpI k_Scribe_peek [.ref 6] (sil h f l) (fun r g => g = sil h f l ∧ r = -1) := by
  refine v_Scribe_peek _ _ _ ⟨K6, ?_⟩
  rw [mi_sil, h2, h3]
  exact ⟨fun c => absurd c (by decide), fun _ => ⟨_, rfl, rfl, rfl⟩⟩
theorem e_seesSign (h2 : f 6 2 = nI 0) (h3 : f 6 3 = nI 0) : SpI k_Scribe_seesSign [.ref 6] (sil h f l) (fun r g => g = sil h f l ∧ r = 0) := by
  refine v_Scribe_seesSign _ _ _ ⟨K6, ?_⟩
  rw [mi_sil, h2, h3]
  exact ⟨fun c => absurd c (by decide), fun _ => ⟨_, rfl, rfl, rfl⟩⟩
theorem e_seesDigit (h2 : f 6 2 = nI 0) (h3 : f 6 3 = nI 0) : SpI k_Scribe_seesDigit [.ref 6] (sil h f l) (fun r g => g = sil h f l ∧ r = 0) := by
  refine v_Scribe_seesDigit _ _ _ ⟨K6, ?_⟩
  rw [mi_sil, h2, h3]
  exact ⟨fun c => absurd c (by decide), fun _ => ⟨_, rfl, rfl, rfl⟩⟩
theorem e_skip (h2 : f 6 2 = nI 0) (h3 : f 6 3 = nI 0) : SpV k_Scribe_skipBlanks [.ref 6] (sil h f l) (fun g => g = sil h f l) := by
  refine v_Scribe_skipBlanks _ _ _ ⟨K6, ?_⟩
  rw [mi_sil, h2, h3]
  exact ⟨fun c => absurd c (by decide), fun _ => rfl⟩
theorem e_parseTerm (h2 : f 6 2 = nI 0) (h3 : f 6 3 = nI 0) (x y : Int32) : SpV k_Scribe_parseTerm [.ref 6, .int x, .int y] (sil h f l) (fun g => g = sil h (up2 (up2 f 6 4 1) 6 5 (nI 0)) l) := by
  refine v_Scribe_parseTerm _ _ _ _ _ ⟨K6, SpI.mono (e_peek h2 h3) ?_⟩
  rintro r g ⟨e, er⟩
  subst g er
  refine ⟨fun _ => ?_, fun c => absurd (by decide) c⟩
  refine v_Scribe_parseTerm_1 _ _ _ _ _ ⟨K6, SpI.mono (e_seesDigit h2 h3) ?_⟩
  rintro r g ⟨e, er⟩
  subst g er
  refine ⟨fun _ => ⟨K6, ?_⟩, fun c => absurd rfl c⟩
  rw [mi_sil, h3]
  exact SpV.mono (sp_Scribe_report _ _) (fun g e => e)
theorem e_parseExpression (h2 : f 6 2 = nI 0) (h3 : f 6 3 = nI 0) (x : Int32) : SpV k_Scribe_parseExpression [.ref 6, .int x] (sil h f l) (fun g => g = sil h (up2 (up2 f 6 4 1) 6 5 (nI 0)) l) := by
  refine v_Scribe_parseExpression _ _ _ _ ⟨K6, SpV.mono (e_skip h2 h3) ?_⟩
  rintro _ rfl
  refine ⟨K6, SpI.mono (e_seesSign h2 h3) ?_⟩
  rintro r g ⟨e, er⟩
  subst g er
  refine ⟨fun _ => ⟨K6, SpV.mono (e_parseTerm h2 h3 _ _) ?_⟩, fun c => absurd rfl c⟩
  rintro _ rfl
  refine ⟨K6, SpV.mono (e_skip (by rw [up2_ni (by decide), up2_ni (by decide)]; exact h2) (by rw [up2_ni (by decide), up2_ni (by decide)]; exact h3)) ?_⟩
  rintro _ rfl
  refine v_Scribe_parseExpression_1 _ _ _ _ _ ⟨fun _ => ⟨K6, ?_⟩, fun _ => rfl⟩
  rw [mi_sil, up2_ni (by decide), up2_s]
  exact ⟨fun c => absurd c (by decide), fun _ => rfl⟩
theorem read0_Ho (h2 : f 6 2 = nI 0) : SpI k_Ho_read [.ref 5] (sil h f l) (fun r g => r = -1 ∧ ∃ f', g = sil h f' l ∧ Fr [6, 10, 11] f f') := by
  refine v_Ho_read _ _ _ ⟨Kd5, ?_⟩
  rw [R5_0]
  refine ⟨K6, ?_⟩
  refine v_Scribe_parse _ _ _ ⟨K6, ?_⟩
  rintro _ rfl
  rw [wi_sil]
  refine SpV.mono (sp_Scribe_report _ _) ?_
  rintro _ rfl
  rw [R6_6]
  refine ⟨K6, K9, SpV.mono sp_Motion_clear ?_⟩
  rintro _ ⟨f1, rfl, q1, -, -⟩
  have fr : Fr [6, 10, 11] f f1 := (((Fr.refl.up (by decide)).up (by decide)).up (by decide)).trans (q1.mono (by decide))
  have e6 := q1 6 (by decide)
  have g2 : f1 6 2 = nI 0 := by rw [e6, up2_ni (by decide), up2_ni (by decide), up2_ni (by decide)]; exact h2
  have g3 : f1 6 3 = nI 0 := by rw [e6, up2_ni (by decide), up2_ni (by decide), up2_s]; rfl
  have g4 : f1 6 4 = nI 0 := by rw [e6, up2_ni (by decide), up2_s]; rfl
  refine v_Scribe_parse_1 _ _ _ _ ⟨fun _ => ⟨K6, ?_⟩, fun c => absurd (by decide) c⟩
  rw [mi_sil, g4]
  refine ⟨fun _ => ?_, fun c => absurd rfl c⟩
  refine SpV.mono (e_parseExpression g2 g3 _) ?_
  rintro _ rfl
  refine ⟨K6, ?_⟩
  rw [mi_sil, up2_ni (by decide), up2_s]
  refine ⟨fun c => absurd c (by decide), fun _ => ?_⟩
  refine v_Scribe_parse_1 _ _ _ _ ⟨fun _ => ⟨K6, ?_⟩, fun c => absurd (by decide) c⟩
  rw [mi_sil, up2_ni (by decide), up2_s]
  refine ⟨fun c => absurd c (by decide), fun _ => ⟨fun c => absurd c (by decide), fun _ => ?_⟩⟩
  refine v_Scribe_parse_2 _ _ _ ⟨K6, ?_⟩
  rintro _ rfl
  rw [wi_sil, mi_sil, up2_ni (by decide), up2_ni (by decide), up2_s]
  refine ⟨fun c => absurd c (by decide), fun _ => ⟨_, rfl, ?_⟩⟩
  exact ⟨fun _ => ⟨_, rfl, rfl, _, rfl, ((fr.up (by decide)).up (by decide)).up (by decide)⟩, fun c => absurd rfl c⟩
theorem e_byteAt (h9 : f 54 9 = nI 0) (h12 : f 54 12 = nI 0) : SpI k_Ref_byteAt [.ref 54, .int (f 54 12)] (sil h f l) (fun r g => g = sil h f l ∧ r = -1) := by
  refine v_Ref_byteAt _ _ _ _ ⟨K54, ?_⟩
  rw [mi_sil, h9, h12]
  exact ⟨fun c => absurd c (by decide), fun _ => ⟨_, rfl, rfl, rfl⟩⟩
theorem e_next (h9 : f 54 9 = nI 0) (h12 : f 54 12 = nI 0) : SpI k_Ref_next [.ref 54] (sil h f l) (fun r g => g = sil h f l ∧ r = -1) := by
  refine v_Ref_next _ _ _ ⟨K54, SpI.mono (e_byteAt h9 h12) ?_⟩
  rintro r g ⟨e, er⟩
  subst g er
  refine ⟨fun c => absurd c (by decide), fun _ => ⟨K54, SpI.mono (e_byteAt h9 h12) ?_⟩⟩
  rintro r g ⟨e, er⟩
  subst g er
  exact ⟨_, rfl, rfl, rfl⟩
theorem sp_Ref_wrong (x y : Int32) : SpI k_Ref_wrong [.ref 54, .int x, .int y] (sil h f l) (fun r g => r = 0 ∧ g = sil h (up2 (up2 f 54 10 x) 54 11 y) l) := by
  refine v_Ref_wrong _ _ _ _ _ ⟨K54, ?_⟩
  rintro _ rfl
  rintro _ rfl
  exact ⟨_, rfl, rfl, rfl⟩
theorem e_term (h9 : f 54 9 = nI 0) (h12 : f 54 12 = nI 0) (x y : Int32) : SpI k_Ref_term [.ref 54, .int x, .int y] (sil h f l) (fun r g => r = 0 ∧ g = sil h (up2 (up2 f 54 10 1) 54 11 (nI 0)) l) := by
  refine v_Ref_term _ _ _ _ _ ⟨K54, SpI.mono (e_next h9 h12) ?_⟩
  rintro r g ⟨e, er⟩
  subst g er
  refine ⟨fun c => absurd c (by decide), fun _ => ⟨fun c => absurd c (by decide), fun _ => ⟨fun c => absurd c (by decide), fun _ => ?_⟩⟩⟩
  refine v_Ref_isDigit _ _ _ ⟨fun _ => ⟨_, rfl, fun _ => ⟨K54, ?_⟩, fun c => absurd rfl c⟩, fun c => absurd (by decide) c⟩
  rw [mi_sil, h12]
  refine SpI.mono (sp_Ref_wrong _ _) ?_
  rintro r g ⟨er, e⟩
  exact ⟨Or.inl er, _, rfl, er, e⟩
theorem e_expression (h9 : f 54 9 = nI 0) (h12 : f 54 12 = nI 0) (x : Int32) : SpI k_Ref_expression [.ref 54, .int x] (sil h f l) (fun r g => r = 0 ∧ g = sil h (up2 (up2 f 54 10 1) 54 11 (nI 0)) l) := by
  refine v_Ref_expression _ _ _ _ ⟨K54, SpI.mono (e_next h9 h12) ?_⟩
  rintro r g ⟨e, er⟩
  subst g er
  refine ⟨fun c => absurd c (by decide), fun _ => ⟨fun c => absurd c (by decide), fun _ => ?_⟩⟩
  refine v_Ref_expression_1 _ _ _ _ _ _ ⟨fun _ => ?_, fun c => absurd rfl c⟩
  refine v_Ref_expression_2 _ _ _ _ _ ⟨fun c => absurd c (by decide), fun _ => ⟨K54, SpI.mono (e_term h9 h12 _ _) ?_⟩⟩
  rintro r g ⟨er, e⟩
  subst er
  exact ⟨fun _ => ⟨_, rfl, rfl, e⟩, fun c => absurd rfl c⟩
theorem read0_Ref (h9 : f 54 9 = nI 0) : SpI k_Ref_read [.ref 54] (sil h f l) (fun r g => r = -1 ∧ ∃ f', g = sil h f' l ∧ Fr [54, 95, 96] f f') := by
  refine v_Ref_read _ _ _ ⟨K54, ?_⟩
  rintro _ rfl
  rintro _ rfl
  rintro _ rfl
  rw [wi_sil, wi_sil, wi_sil]
  have fr : Fr [54, 95, 96] f (up2 (up2 (up2 f 54 10 0) 54 11 (-1)) 54 12 0) := ((Fr.refl.up (by decide)).up (by decide)).up (by decide)
  have g9 : up2 (up2 (up2 f 54 10 0) 54 11 (-1)) 54 12 0 54 9 = nI 0 := by rw [up2_ni (by decide), up2_ni (by decide), up2_ni (by decide)]; exact h9
  have g12 : up2 (up2 (up2 f 54 10 0) 54 11 (-1)) 54 12 0 54 12 = nI 0 := by rw [up2_s]; rfl
  generalize up2 (up2 (up2 f 54 10 0) 54 11 (-1)) 54 12 0 = f1 at *
  refine up_ind 9 (fun i (f2 : (Nat → Nat → Int32)) => Fr [54, 95, 96] f f2 ∧ f2 54 = f1 54) (fun i f2 => WM k_Ref_read p_Ref_read_1 [.ref 54, .int (nI i), Jv, Jv, Jv] [] (sil h f2 l) 0 0 _) ?_ ?_ 0 f1 (by decide) ⟨fr, rfl⟩
  · rintro i f2 hi ⟨i1, i2⟩ ih
    refine v_Ref_read_1 _ _ _ _ ?_
    simp (disch := omega) only [↓(show (-1 : Int32) = zI (-1) from rfl), (show (0 : Int32) = nI 0 from rfl), (show (1 : Int32) = nI 1 from rfl), (show (2 : Int32) = nI 2 from rfl), (show (3 : Int32) = nI 3 from rfl), (show (4 : Int32) = nI 4 from rfl), (show (5 : Int32) = nI 5 from rfl), (show (9 : Int32) = nI 9 from rfl), (show (40 : Int32) = nI 40 from rfl), nI_add, nI_mul, nI_1, ix_nI, nI_toI, div_nI, irm_nI, InB_t, zI_add, zI_sub, zI_mul, zI_neg, nI_addZ, zI_addN, nI_mulZ, zI_mulN, nI_subZ, zI_subN, zI_toI, Int.cast_ofNat_Int, mi_sil, ml_sil, hn_sil, wi_sil, wl_sil, up2_ne, up2_s, true_and, and_true, forall_eq, true_implies, implies_true, forall_const, ne_eq, Int.reduceLT, Int.reduceLE, Int.reduceEq, Int.reduceAdd, Int.reduceSub, Int.reduceMul, Int.reduceNeg, Nat.reduceAdd, Nat.reduceMul, Nat.reduceSub, Nat.reduceDiv, Nat.reduceMod, Nat.add_zero, Nat.zero_add, Nat.mul_zero, not_true_eq_false, not_false_eq_true, false_implies, Nat.reduceEqDiff, nI_subN, Int.natCast_add, Int.natCast_mul, K54, R54_59, K95, L95, R54_60, K96, L96]
    refine ⟨fun _ => ih _ ⟨i1.up (by decide), ?_⟩, fun c => absurd (by omega) c⟩
    rw [up2_row (by decide)]; exact i2
  · rintro f2 ⟨i1, i2⟩
    refine v_Ref_read_1 _ _ _ _ ⟨fun c => absurd c (by decide), fun _ => ?_⟩
    refine up_ind 3 (fun i (f3 : (Nat → Nat → Int32)) => Fr [54, 95, 96] f f3 ∧ f3 54 = f1 54) (fun i f3 => WM k_Ref_read p_Ref_read_2 [.ref 54, .int (nI i), Jv, Jv, Jv] [] (sil h f3 l) 0 0 _) ?_ ?_ 0 f2 (by decide) ⟨i1, i2⟩
    · rintro i f3 hi ⟨j1, j2⟩ ih
      have n3 : ¬ (3 : Int) ≤ i := by omega
      refine v_Ref_read_2 _ _ _ _ ⟨fun _ => ⟨K54, ?_⟩, fun c => absurd (by rw [nI_toI (by omega)]; show (i : Int) < 3; omega) c⟩
      rw [R54_60, ix_nI (by omega), nI_1]
      refine ⟨K96, InB_nI (show i < 3 from hi) (by omega), ?_⟩
      rintro _ rfl
      rw [wi_sil]
      refine ih _ ⟨j1.up (by decide), ?_⟩
      rw [up2_row (by decide)]; exact j2
    · rintro f3 ⟨j1, j2⟩
      have k9 : f3 54 9 = nI 0 := by rw [j2]; exact g9
      have k12 : f3 54 12 = nI 0 := by rw [j2]; exact g12
      refine v_Ref_read_2 _ _ _ _ ⟨fun c => absurd c (by decide), fun _ => ⟨K54, SpI.mono (e_expression k9 k12 _) ?_⟩⟩
      rintro r g ⟨er, e⟩
      subst er g
      refine ⟨fun _ => ?_, fun c => absurd rfl c⟩
      refine v_Ref_read_3 _ _ _ _ ⟨K54, ?_⟩
      rintro _ rfl
      rw [wi_sil]
      exact ⟨fun _ => ⟨_, rfl, rfl, _, rfl, ((j1.up (by decide)).up (by decide)).up (by decide)⟩, fun c => absurd rfl c⟩
end E0
