/-! lines, line in the reference -/
def RLAt (f : (Nat → Nat → Int32)) (l : (Nat → Nat → Int64)) (CS : List S6) (MS : List Mdl) (m w : Nat) : Prop := f 54 51 = nI m ∧ f 54 52 = nI w ∧ ∃ L, LinL (CS.getD (MS.getD m zM).2.1 z6) (MS.getD m zM).2.2.2 w 0 (bN w) L ∧ L.length ≤ 2197 ∧ f 54 50 = nI L.length ∧ RLn f l L (lnV (CS.getD (MS.getD m zM).2.1 z6) (MS.getD m zM).2.2.2 w 0 (bN w))
def RLin (f : (Nat → Nat → Int32)) (l : (Nat → Nat → Int64)) (CS : List S6) (MS : List Mdl) : Prop := f 54 51 = -1 ∨ ∃ m w, (m < MS.length ∧ 1 ≤ w ∧ w ≤ 6) ∧ RLAt f l CS MS m w
def GlP (h : MH) (f : (Nat → Nat → Int32)) (l : (Nat → Nat → Int64)) (CS : List S6) (MS : List Mdl) (m w : Nat) (g : MH) : Prop := ∃ f' l', g = sil h f' l' ∧ Fr [54, 90] f f' ∧ (∀ j, j ≠ 50 → j ≠ 51 → j ≠ 52 → f' 54 j = f 54 j) ∧ Fr [88, 89, 91] l l' ∧ RLAt f' l' CS MS m w
theorem bN_le {w : Nat} (hw : w < 7) : bN w ≤ 2197 := by
  have : w = 0 ∨ w = 1 ∨ w = 2 ∨ w = 3 ∨ w = 4 ∨ w = 5 ∨ w = 6 := by omega
  rcases this with rfl | rfl | rfl | rfl | rfl | rfl | rfl <;> decide
theorem rc_eq (s : S6) : (nth6 s 1 * nth6 s 2 - nth6 s 3 * nth6 s 3 = nth6 (rcS s) 0 ∧ nth6 s 0 * nth6 s 2 - nth6 s 4 * nth6 s 4 = nth6 (rcS s) 1 ∧ nth6 s 0 * nth6 s 1 - nth6 s 5 * nth6 s 5 = nth6 (rcS s) 2) ∧ nth6 s 4 * nth6 s 5 - nth6 s 0 * nth6 s 3 = nth6 (rcS s) 3 ∧ nth6 s 3 * nth6 s 5 - nth6 s 1 * nth6 s 4 = nth6 (rcS s) 4 ∧ nth6 s 3 * nth6 s 4 - nth6 s 2 * nth6 s 5 = nth6 (rcS s) 5 := by
  obtain ⟨a, b, c, d, e, f⟩ := s
  exact ⟨⟨rfl, rfl, rfl⟩, rfl, rfl, rfl⟩
theorem sp_Ref_gatherLines {h : MH} {f : (Nat → Nat → Int32)} {l : (Nat → Nat → Int64)} {ng m w : Nat} {CS : List S6} {MS : List Mdl} (hm : RMdl f MS) (hc : RCel f l CS) (okc : ∀ j, j < CS.length → okC (CS.getD j z6)) (ok : okMS ng CS.length MS) (rl : RLin f l CS MS) (hi : m < MS.length) (w1 : 1 ≤ w) (hw : w ≤ 6) :
    SpV k_Ref_gatherLines [.ref 54, .int (nI m), .int (nI w)] (sil h f l) (GlP h f l CS MS m w) := by
  have hl := hm.1
  have cl := hc.1
  obtain ⟨o1, o2, o3, o4⟩ := ok m hi
  have oks := okc _ o2
  have six := (hc.2.2 _ o2).1
  have e82 := (hm.2.2.2 m hi).2.1
  have one : WM k_Ref_gatherLines p_Ref_gatherLines_1 [.ref 54, .int (nI m), .int (nI w), Jv, Jv, Jv, Jv, Jv, Jv, Jv, Jv, Jv, Jv, Jv, Jv, Jv, Jv, Jv, Jv, Jv, Jv] [] (sil h f l) 0 0 (fun _ g => GlP h f l CS MS m w g) := by
    generalize hs : CS.getD (MS.getD m zM).2.1 z6 = s at *
    generalize hci : (MS.getD m zM).2.1 = ci at *
    have c1 : nI (6 * ci) + (1 : Int32) = nI (6 * ci + 1) := nI_add _ 1
    have c2 : nI (6 * ci) + (2 : Int32) = nI (6 * ci + 2) := nI_add _ 2
    have c3 : nI (6 * ci) + (3 : Int32) = nI (6 * ci + 3) := nI_add _ 3
    have c4 : nI (6 * ci) + (4 : Int32) = nI (6 * ci + 4) := nI_add _ 4
    have c5 : nI (6 * ci) + (5 : Int32) = nI (6 * ci + 5) := nI_add _ 5
    have ib : ∀ i, i < 6 → InB (nI (6 * ci + i)) 240 := fun i hi => InB_nI (by omega) (by omega)
    have ib0 := ib 0 (by decide)
    rw [Nat.add_zero] at ib0
    have s0 := six 0 (by decide); have s1 := six 1 (by decide); have s2 := six 2 (by decide); have s3 := six 3 (by decide); have s4 := six 4 (by decide); have s5 := six 5 (by decide)
    rw [Nat.add_zero] at s0
    obtain ⟨⟨q0, q1, q2⟩, q3, q4, q5⟩ := rc_eq s
    have x0 : ix (nI (6 * ci)) = 6 * ci := ix_nI (by omega)
    have x1 : ix (nI (6 * ci + 1)) = 6 * ci + 1 := ix_nI (by omega)
    have x2 : ix (nI (6 * ci + 2)) = 6 * ci + 2 := ix_nI (by omega)
    have x3 : ix (nI (6 * ci + 3)) = 6 * ci + 3 := ix_nI (by omega)
    have x4 : ix (nI (6 * ci + 4)) = 6 * ci + 4 := ix_nI (by omega)
    have x5 : ix (nI (6 * ci + 5)) = 6 * ci + 5 := ix_nI (by omega)
    refine v_Ref_gatherLines_1 _ _ _ _ _ ⟨K54, ?_⟩
    rintro _ rfl
    rintro _ rfl
    rintro _ rfl
    rw [wi_sil, wi_sil, wi_sil, R54_39, R54_29, mi_sil, ix_nI (a := m) (by omega), up2_ne (by decide), up2_ne (by decide), up2_ne (by decide), e82, show (6 : Int32) = nI 6 from rfl, nI_mul, c1, c2, c3, c4, x0, x1, x2, x3, x4, ml_sil, s0, s1, s2, s3, s4, L82, L76]
    simp only [zL_mul, zL_sub]
    rw [q0, q1]
    refine ⟨K82, InB_nI (by omega) (by omega), K76, ib 1 (by decide), ib 2 (by decide), ib 3 (by decide), ib0, ib 4 (by decide), v_Ref_gatherLines_2 _ _ _ _ _ _ _ _ ⟨K54, ?_⟩⟩
    rw [R54_29, c1, c3, c4, c5, x0, x1, x3, x4, x5, ml_sil, s0, s1, s3, s4, s5, L76]
    simp only [zL_mul, zL_sub]
    rw [q2, q3, q4]
    refine ⟨K76, ib0, ib 1 (by decide), ib 5 (by decide), ib 4 (by decide), ib 3 (by decide), v_Ref_gatherLines_3 _ _ _ _ _ _ _ _ _ _ _ ⟨K54, ?_⟩⟩
    rw [R54_29, c2, c3, c4, c5, x2, x3, x4, x5, ml_sil, s2, s3, s4, s5, L76]
    simp only [zL_mul, zL_sub]
    rw [q5, neg_nI]
    refine ⟨K76, ib 3 (by decide), ib 4 (by decide), ib 2 (by decide), ib 5 (by decide), ?_⟩
    have fr0 : Fr [54, 90] f (up2 (up2 (up2 f 54 51 (nI m)) 54 52 (nI w)) 54 50 0) := ((Fr.refl.up (by decide)).up (by decide)).up (by decide)
    have fr1 : Fr [54] f (up2 (up2 (up2 f 54 51 (nI m)) 54 52 (nI w)) 54 50 0) := ((Fr.refl.up (by decide)).up (by decide)).up (by decide)
    have hm1 : RMdl (up2 (up2 (up2 f 54 51 (nI m)) 54 52 (nI w)) 54 50 0) MS := hm.fr (by rw [up2_ni (by decide), up2_ni (by decide), up2_ni (by decide)]) (fun a ha => fr1 a (by revert a; decide))
    refine gl_4 (s := s) hm1 ok oks hi (by omega) (fun f2 l2 st => ?_) _ 0 _ l rfl (Nat.zero_le _) ⟨[], Fr.refl, fun _ _ => rfl, Fr.refl, ?_, Nat.zero_le _, by rw [up2_s]; rfl, fun k hk => absurd hk (Nat.not_lt_zero k)⟩
    · obtain ⟨L, ff, f5, fl, ll, le, e50, rl⟩ := st
      refine ⟨f2, l2, rfl, fr0.trans ff, fun j j0 j1 j2 => by rw [f5 j j0, up2_ni j0, up2_ni j2, up2_ni j1], fl, by rw [f5 51 (by decide), up2_ni (by decide), up2_ni (by decide), up2_s], by rw [f5 52 (by decide), up2_ni (by decide), up2_s], L, ?_, Nat.le_trans le (bN_le (by omega)), e50, ?_⟩
      · rw [hci, hs]; exact ll
      · rw [hci, hs]; exact rl
    · rw [Nat.zero_mul, Nat.zero_mul]; exact LinL.nil
  refine v_Ref_gatherLines _ _ _ _ _ ⟨K54, ?_⟩
  rw [mi_sil]
  refine ⟨fun e1 => ⟨fun e2 => ?_, fun _ => one⟩, fun _ => one⟩
  rcases rl with q | ⟨m', w', ⟨a1, a2, a3⟩, b⟩
  · rw [q] at e1
    exact absurd e1.symm (nI_ne1 (by omega))
  · have em : m = m' := (nI_inj (by omega) (by omega)).mp (e1.symm.trans b.1)
    have ew : w = w' := (nI_inj (by omega) (by omega)).mp (e2.symm.trans b.2.1)
    subst em ew
    exact ⟨f, l, rfl, Fr.refl, fun _ _ _ _ => rfl, Fr.refl, b⟩
