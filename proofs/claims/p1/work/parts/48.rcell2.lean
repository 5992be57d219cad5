/-! the reference's cell, whole -/
theorem ref_cell3 {h : MH} {f : (Nat → Nat → Int32)} {l0 l : (Nat → Nat → Int64)} {n : Nat} {a b c d e g : Int} (hn : n < 40) (h32 : f 54 32 = nI n) (ok : OKs (a, b, c, 2 * d, 2 * e, 2 * g)) (hT : a + b + c ≤ 10000000)
    (s0 : l 76 (6 * n) = zL a) (s1 : l 76 (6 * n + 1) = zL b) (s2 : l 76 (6 * n + 2) = zL c) (s3 : l 76 (6 * n + 3) = zL d) (s4 : l 76 (6 * n + 4) = zL e) (s5 : l 76 (6 * n + 5) = zL g) :
    WM k_Ref_cell p_Ref_cell_3 [.ref 54, Jv, Jv, Jv, Jv, Jv, Jv, Jv, .int (nI (6 * n)), .int (nI 0), Jv, Jv] [] (sil h f l) 0 0 (fun v q => ∃ r, v = .int r ∧ r = nI n ∧ ∃ f' l', q = sil h f' l' ∧ Fr [54, 57, 58, 78] f f') := by
  have e4 : ∀ l1 : (Nat → Nat → Int64), WM k_Ref_cell p_Ref_cell_4 [.ref 54, Jv, Jv, Jv, Jv, Jv, Jv, Jv, .int (nI (6 * n)), .int (nI 0), Jv, Jv] [] (sil h f l1) 0 0 (fun v q => ∃ r, v = .int r ∧ r = nI n ∧ ∃ f' l', q = sil h f' l' ∧ Fr [54, 57, 58, 78] f f') := by
    intro l1
    refine up_ind 6 (fun _ (_ : (Nat → Nat → Int64)) => True) (fun i l2 => WM k_Ref_cell p_Ref_cell_4 [.ref 54, Jv, Jv, Jv, Jv, Jv, Jv, Jv, .int (nI (6 * n)), .int (nI i), Jv, Jv] [] (sil h f l2) 0 0 _) ?_ ?_ 0 l1 (by decide) trivial
    · intro i l2 hi _ ih
      have ti : (nI i).toInt = (i : Int) := nI_toI (by omega)
      have t6 : (6 : Int32).toInt = 6 := rfl
      refine v_Ref_cell_4 _ _ _ _ _ ⟨fun _ => ⟨K54, ?_⟩, fun w => absurd (by rw [ti, t6]; omega) w⟩
      rw [R54_33, R54_30, nI_add, ix_nI (by omega), ix_nI (by omega), nI_1]
      refine ⟨K79, InB_nI (show i < 6 from hi) (by omega), K77, InB_nI (show 6 * n + i < 240 by omega) (by omega), ?_⟩
      rintro _ rfl
      exact ih _ trivial
    · intro l2 _
      refine v_Ref_cell_4 _ _ _ _ _ ⟨fun w => absurd w (by decide), fun _ => ?_⟩
      refine WM.mono' (ref_count hn Fr.refl h32 _) ?_
      rintro v q ⟨r, e1, e2, f', e3, e5⟩
      exact ⟨r, e1, e2, f', l2, e3, e5⟩
  have W6 : ∀ j, j < 6 → l 76 (6 * n + j) = (match j with | 0 => zL a | 1 => zL b | 2 => zL c | 3 => zL d | 4 => zL e | _ => zL g) := by
    intro j hj
    have : j = 0 ∨ j = 1 ∨ j = 2 ∨ j = 3 ∨ j = 4 ∨ j = 5 := by omega
    rcases this with rfl | rfl | rfl | rfl | rfl | rfl <;> assumption
  refine up_ind 6 (fun i (l2 : (Nat → Nat → Int64)) => l2 76 = l 76 ∧ ∀ j, j < i → l2 79 j = l 76 (6 * n + j)) (fun i l2 => WM k_Ref_cell p_Ref_cell_3 [.ref 54, Jv, Jv, Jv, Jv, Jv, Jv, Jv, .int (nI (6 * n)), .int (nI i), Jv, Jv] [] (sil h f l2) 0 0 _) ?_ ?_ 0 l (by decide) ⟨rfl, fun j hj => absurd hj (Nat.not_lt_zero j)⟩
  · rintro i l2 hi ⟨q1, q2⟩ ih
    have ti : (nI i).toInt = (i : Int) := nI_toI (by omega)
    have t6 : (6 : Int32).toInt = 6 := rfl
    refine v_Ref_cell_3 _ _ _ _ _ ⟨fun _ => ⟨K54, ?_⟩, fun w => absurd (by rw [ti, t6]; omega) w⟩
    rw [R54_33, R54_29, nI_add, ix_nI (by omega), ix_nI (by omega), nI_1, ml_sil]
    refine ⟨K76, InB_nI (show 6 * n + i < 240 by omega) (by omega), K79, InB_nI (show i < 6 from hi) (by omega), ?_⟩
    rintro _ rfl
    refine ih _ ⟨by rw [up2_row (by decide)]; exact q1, fun j hj => ?_⟩
    by_cases ej : j = i
    · subst ej; rw [up2_s, q1]
    · rw [up2_ni ej]; exact q2 j (by omega)
  · rintro l2 ⟨q1, q2⟩
    refine v_Ref_cell_3 _ _ _ _ _ ⟨fun w => absurd w (by decide), fun _ => ⟨K54, SpV.mono (any_Ref_reduce (l := l2) ok hT ⟨?_, ?_, ?_, ?_, ?_, ?_⟩) ?_⟩⟩
    · rw [q2 0 (by decide)]; exact s0
    · rw [q2 1 (by decide)]; exact s1
    · rw [q2 2 (by decide)]; exact s2
    · rw [q2 3 (by decide)]; exact s3
    · rw [q2 4 (by decide)]; exact s4
    · rw [q2 5 (by decide)]; exact s5
    · rintro _ ⟨l3, rfl, -⟩
      exact e4 l3
theorem sp_Ref_cell {h : MH} {f : (Nat → Nat → Int32)} {l : (Nat → Nat → Int64)} {n : Nat} (h32 : f 54 32 = nI n) (hb : n ≤ 40) (x1 x2 x3 x4 x5 x6 : Int32) : SpI k_Ref_cell [.ref 54, .int x1, .int x2, .int x3, .int x4, .int x5, .int x6] (sil h f l) (fun r g =>
    (cellOk n x1.toInt x2.toInt x3.toInt x4.toInt x5.toInt x6.toInt ∧ r = nI n ∧ ∃ f' l', g = sil h f' l' ∧ Fr [54, 57, 58, 78] f f') ∨ (¬ cellOk n x1.toInt x2.toInt x3.toInt x4.toInt x5.toInt x6.toInt ∧ r = -1 ∧ ∃ l', g = sil h f l')) := by
  have t40 : (40 : Int32).toInt = 40 := rfl
  have tn : (nI n).toInt = (n : Int) := nI_toI (by omega)
  have z1 : ¬ (1 : Int32) = 0 := by decide
  have a1 : (1 : Int64).toInt = 1 := rfl
  have a2 : (10000 : Int64).toInt = 10000 := rfl
  have a3 : (-10000 : Int64).toInt = -10000 := rfl
  have sq : ∀ x : Int32, (((1 : Int64).toInt ≤ x.toInt64.toInt ∧ x.toInt64.toInt ≤ (10000 : Int64).toInt) ↔ sqI x.toInt) := fun x => by rw [i2l_int, a1, a2]; rfl
  have mx : ∀ x : Int32, (((-10000 : Int64).toInt ≤ x.toInt64.toInt ∧ x.toInt64.toInt ≤ (10000 : Int64).toInt) ↔ mxI x.toInt) := fun x => by rw [i2l_int, a3, a2]; rfl
  generalize hQ : cellOk n x1.toInt x2.toInt x3.toInt x4.toInt x5.toInt x6.toInt = Q
  have bad : ∀ l1 : (Nat → Nat → Int64), ¬ Q → ∃ v, Value.int (-1) = .int v ∧ ((Q ∧ v = nI n ∧ ∃ f' l', sil h f l1 = sil h f' l' ∧ Fr [54, 57, 58, 78] f f') ∨ (¬ Q ∧ v = -1 ∧ ∃ l', sil h f l1 = sil h f l')) := fun l1 q => ⟨_, rfl, Or.inr ⟨q, rfl, l1, rfl⟩⟩
  have no : ¬ Q → WM k_Ref_cell p_Ref_cell_1 [.ref 54, .int x1, .int x2, .int x3, .int x4, .int x5, .int x6, Jv, Jv, Jv, Jv, Jv] [.int (0 : Int32)] (sil h f l) 0 0 (fun v g => ∃ r, v = .int r ∧ ((Q ∧ r = nI n ∧ ∃ f' l', g = sil h f' l' ∧ Fr [54, 57, 58, 78] f f') ∨ (¬ Q ∧ r = -1 ∧ ∃ l', g = sil h f l'))) := fun q =>
    v_Ref_cell_1 _ _ _ _ _ _ _ _ _ _ ⟨fun _ => bad l q, fun w => absurd rfl w⟩
  refine v_Ref_cell _ _ _ _ _ _ _ _ _ ⟨K54, ?_⟩
  rw [show mi (sil h f l) 54 32 = nI n from h32, tn, t40]
  refine ⟨fun c0 => ?_, fun c => no (fun q => by rw [← hQ] at q; have := q.1; omega)⟩
  refine SpI.mono (sp_Ref_between _ _ _) ?_
  rintro r g ⟨e, (⟨u, v, rfl⟩ | ⟨u, rfl⟩)⟩ <;> subst g
  case inr => exact ⟨fun _ => no (fun q => by rw [← hQ] at q; exact u ((sq _).mpr q.2.1)), fun w => absurd rfl w⟩
  have q1 := (sq x1).mp ⟨u, v⟩
  refine ⟨fun w => absurd w z1, fun _ => SpI.mono (sp_Ref_between _ _ _) ?_⟩
  rintro r g ⟨e, (⟨u, v, rfl⟩ | ⟨u, rfl⟩)⟩ <;> subst g
  case inr => exact ⟨fun _ => no (fun q => by rw [← hQ] at q; exact u ((sq _).mpr q.2.2.1)), fun w => absurd rfl w⟩
  have q2 := (sq x2).mp ⟨u, v⟩
  refine ⟨fun w => absurd w z1, fun _ => SpI.mono (sp_Ref_between _ _ _) ?_⟩
  rintro r g ⟨e, (⟨u, v, rfl⟩ | ⟨u, rfl⟩)⟩ <;> subst g
  case inr => exact ⟨fun _ => no (fun q => by rw [← hQ] at q; exact u ((sq _).mpr q.2.2.2.1)), fun w => absurd rfl w⟩
  have q3 := (sq x3).mp ⟨u, v⟩
  refine ⟨fun w => absurd w z1, fun _ => SpI.mono (sp_Ref_between _ _ _) ?_⟩
  rintro r g ⟨e, (⟨u, v, rfl⟩ | ⟨u, rfl⟩)⟩ <;> subst g
  case inr => exact ⟨fun _ => no (fun q => by rw [← hQ] at q; exact u ((mx _).mpr q.2.2.2.2.1)), fun w => absurd rfl w⟩
  have q4 := (mx x4).mp ⟨u, v⟩
  refine ⟨fun w => absurd w z1, fun _ => SpI.mono (sp_Ref_between _ _ _) ?_⟩
  rintro r g ⟨e, (⟨u, v, rfl⟩ | ⟨u, rfl⟩)⟩ <;> subst g
  case inr => exact ⟨fun _ => no (fun q => by rw [← hQ] at q; exact u ((mx _).mpr q.2.2.2.2.2.1)), fun w => absurd rfl w⟩
  have q5 := (mx x5).mp ⟨u, v⟩
  refine ⟨fun w => absurd w z1, fun _ => SpI.mono (sp_Ref_between _ _ _) ?_⟩
  rintro r g ⟨e, (⟨u, v, rfl⟩ | ⟨u, rfl⟩)⟩ <;> subst g
  case inr => exact ⟨fun _ => no (fun q => by rw [← hQ] at q; exact u ((mx _).mpr q.2.2.2.2.2.2.1)), fun w => absurd rfl w⟩
  have q6 := (mx x6).mp ⟨u, v⟩
  refine ⟨fun w => absurd w z1, fun _ => ?_⟩
  have ab1 := (q1.ab.mul q2.ab).sub (q6.ab.mul q6.ab)
  have ab1l := ab1.lo
  have ab1h := ab1.hi
  have ab2 := det6_ab q1 q2 q3 q4 q5 q6
  have ab2l := ab2.lo
  have ab2h := ab2.hi
  have z0 : (0 : Int64).toInt = 0 := rfl
  have et : (x1.toInt64 * x2.toInt64 - x6.toInt64 * x6.toInt64).toInt = x1.toInt * x2.toInt - x6.toInt * x6.toInt := by
    rw [i2l_z, i2l_z, i2l_z, zL_mul, zL_mul, zL_sub, zL_toI (by omega) (by omega)]
  refine v_Ref_cell_1 _ _ _ _ _ _ _ _ _ _ ⟨fun w => absurd w z1, fun _ => ?_⟩
  rw [lc_gt, et, z0, show mi (sil h f l) 54 32 = nI n from h32, R54_29, show (6 : Int32) * nI n = nI (6 * n) from nI_mul 6 n]
  refine ⟨fun c7 => ?_, fun c => bad l (fun q => by rw [← hQ] at q; exact c q.2.2.2.2.2.2.2.1)⟩
  have bI : ∀ j : Nat, j < 6 → InB (nI (6 * n) + nI j) 240 := fun j hj => by rw [nI_add]; exact InB_nI (by omega) (by omega)
  have iI : ∀ j : Nat, j < 6 → ix (nI (6 * n) + nI j) = 6 * n + j := fun j hj => by rw [nI_add]; exact ix_nI (by omega)
  refine ⟨K54, K76, InB_nI (show 6 * n < 240 by omega) (by omega), ?_⟩
  rintro _ rfl
  refine ⟨bI 1 (by decide), ?_⟩
  rintro _ rfl
  refine ⟨bI 2 (by decide), ?_⟩
  rintro _ rfl
  refine ⟨bI 3 (by decide), ?_⟩
  rintro _ rfl
  rw [ix_nI (by omega), show ix (nI (6 * n) + (1 : Int32)) = 6 * n + 1 from iI 1 (by decide), show ix (nI (6 * n) + (2 : Int32)) = 6 * n + 2 from iI 2 (by decide), show ix (nI (6 * n) + (3 : Int32)) = 6 * n + 3 from iI 3 (by decide), wl_sil, wl_sil, wl_sil, wl_sil]
  refine v_Ref_cell_2 _ _ _ _ _ _ ⟨K54, ?_⟩
  rw [R54_29]
  refine ⟨K76, bI 4 (by decide), ?_⟩
  rintro _ rfl
  refine ⟨bI 5 (by decide), ?_⟩
  rintro _ rfl
  rw [show ix (nI (6 * n) + (4 : Int32)) = 6 * n + 4 from iI 4 (by decide), show ix (nI (6 * n) + (5 : Int32)) = 6 * n + 5 from iI 5 (by decide), wl_sil, wl_sil, i2l_z, i2l_z, i2l_z, i2l_z, i2l_z, i2l_z]
  generalize hl2 : up2 (up2 (up2 (up2 (up2 (up2 l 76 (6 * n) (zL x1.toInt)) 76 (6 * n + 1) (zL x2.toInt)) 76 (6 * n + 2) (zL x3.toInt)) 76 (6 * n + 3) (zL x4.toInt)) 76 (6 * n + 4) (zL x5.toInt)) 76 (6 * n + 5) (zL x6.toInt) = l2
  have s0 : l2 76 (6 * n) = zL x1.toInt := by rw [← hl2]; simp (disch := omega) only [up2_ni, up2_s]
  have s1 : l2 76 (6 * n + 1) = zL x2.toInt := by rw [← hl2]; simp (disch := omega) only [up2_ni, up2_s]
  have s2 : l2 76 (6 * n + 2) = zL x3.toInt := by rw [← hl2]; simp (disch := omega) only [up2_ni, up2_s]
  have s3 : l2 76 (6 * n + 3) = zL x4.toInt := by rw [← hl2]; simp (disch := omega) only [up2_ni, up2_s]
  have s4 : l2 76 (6 * n + 4) = zL x5.toInt := by rw [← hl2]; simp (disch := omega) only [up2_ni, up2_s]
  have s5 : l2 76 (6 * n + 5) = zL x6.toInt := by rw [← hl2]; simp (disch := omega) only [up2_ni, up2_s]
  refine v_Ref_determinantOf _ _ _ _ ⟨K76, InB_nI (show 6 * n < 240 by omega) (by omega), bI 1 (by decide), bI 2 (by decide), bI 3 (by decide), bI 4 (by decide), bI 5 (by decide), _, rfl, ?_⟩
  rw [ix_nI (by omega), show ix (nI (6 * n) + (1 : Int32)) = 6 * n + 1 from iI 1 (by decide), show ix (nI (6 * n) + (2 : Int32)) = 6 * n + 2 from iI 2 (by decide), show ix (nI (6 * n) + (3 : Int32)) = 6 * n + 3 from iI 3 (by decide), show ix (nI (6 * n) + (4 : Int32)) = 6 * n + 4 from iI 4 (by decide), show ix (nI (6 * n) + (5 : Int32)) = 6 * n + 5 from iI 5 (by decide), ml_sil, s0, s1, s2, s3, s4, s5]
  show (0 < (lg_cmp _ (0 : Int64)).toInt → _) ∧ (¬ 0 < (lg_cmp _ (0 : Int64)).toInt → _)
  have ed : (zL x1.toInt * (zL x2.toInt * zL x3.toInt - zL x4.toInt * zL x4.toInt) - zL x6.toInt * (zL x6.toInt * zL x3.toInt - zL x4.toInt * zL x5.toInt) + zL x5.toInt * (zL x6.toInt * zL x4.toInt - zL x2.toInt * zL x5.toInt)).toInt = det6 x1.toInt x2.toInt x3.toInt x4.toInt x5.toInt x6.toInt := by
    simp only [zL_mul, zL_sub, zL_add]
    exact zL_toI (by show _ ≤ det6 _ _ _ _ _ _; omega) (by show det6 _ _ _ _ _ _ < _; omega)
  rw [lc_gt, ed, z0]
  refine ⟨fun c8 => ?_, fun c => bad l2 (fun q => by rw [← hQ] at q; exact c q.2.2.2.2.2.2.2.2)⟩
  have hq : Q := by rw [← hQ]; exact ⟨by omega, q1, q2, q3, q4, q5, q6, c7, c8⟩
  refine WM.mono' (ref_cell3 (l0 := l) (by omega) h32 (cell_OK q1 c7 c8) (by have := q1.2; have := q2.2; have := q3.2; omega) s0 s1 s2 s3 s4 s5) ?_
  rintro v g ⟨r, e1, e2, w⟩
  exact ⟨r, e1, Or.inl ⟨hq, e2, w⟩⟩
