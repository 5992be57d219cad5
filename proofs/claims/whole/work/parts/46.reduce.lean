/-! the reference's reduction, whole -/
theorem sp_Ref_exchange {h : MH} {f : (Nat → Nat → Int32)} {l : (Nat → Nat → Int64)} {i j : Nat} (hi : i < 6) (hj : j < 6) : SpV k_Ref_exchange [.ref 54, .int (nI i), .int (nI j)] (sil h f l) (fun g => g = sil h f (up2 (up2 l 79 i (l 79 j)) 79 j (l 79 i))) := by
  refine v_Ref_exchange _ _ _ _ _ ⟨K54, ?_⟩
  rw [R54_33, ix_nI (by omega), ix_nI (by omega)]
  refine ⟨K79, InB_nI (show i < 6 from hi) (by omega), InB_nI (show j < 6 from hj) (by omega), ?_⟩
  rintro _ rfl
  rintro _ rfl
  rfl
theorem ref_sgn {h : MH} {f : (Nat → Nat → Int32)} {l : (Nat → Nat → Int64)} {i : Nat} {v : Int} {q : Int32} {Rt : Value → MH → Prop} (hi : 3 ≤ i) (h6 : i < 6) (hv : l 79 i = zL v) (h1 : -1000000000000 ≤ v) (h2 : v ≤ 1000000000000)
    (nx : ∀ l', l' = up2 l 79 i (zL (if q = 0 then -sz v else sz v)) → WM k_Ref_step p_Ref_step_6 [.ref 54, Jv, .int q, .int (nI (i + 1)), Jv, Jv, Jv, Jv, Jv, Jv, Jv, Jv, Jv, Jv, Jv, Jv, Jv] [] (sil h f l') 0 0 Rt) :
    WM k_Ref_step p_Ref_step_6 [.ref 54, Jv, .int q, .int (nI i), Jv, Jv, Jv, Jv, Jv, Jv, Jv, Jv, Jv, Jv, Jv, Jv, Jv] [] (sil h f l) 0 0 Rt := by
  have ti : (nI i).toInt = (i : Int) := nI_toI (by omega)
  have t6 : (6 : Int32).toInt = 6 := rfl
  refine v_Ref_step_6 _ _ _ _ _ ⟨fun _ => ⟨K54, ?_⟩, fun w => absurd (by rw [ti, t6]; omega) w⟩
  rw [R54_33, ix_nI (by omega), ml_sil, hv, nI_1]
  have bb : InB (nI i) 6 := InB_nI h6 (by omega)
  refine ⟨fun c => ⟨K79, bb, SpL.mono (sp_Ref_size h1 h2) ?_⟩, fun c => ⟨K79, bb, SpL.mono (sp_Ref_size h1 h2) ?_⟩⟩
  · rintro r g ⟨e, er⟩
    subst g er
    refine ⟨K79, bb, ?_⟩
    rintro _ rfl
    rw [wl_sil, zL_neg]
    exact nx _ (by rw [if_pos c])
  · rintro r g ⟨e, er⟩
    subst g er
    refine ⟨K79, bb, ?_⟩
    rintro _ rfl
    rw [wl_sil]
    exact nx _ (by rw [if_neg c])
theorem sz_bb {v : Int} (h1 : -100000000 ≤ v) (h2 : v ≤ 100000000) : -100000000 ≤ sz v ∧ sz v ≤ 100000000 := by have := sz_c v; omega
theorem ref_sg {h : MH} {f : (Nat → Nat → Int32)} {l0 l : (Nat → Nat → Int64)} {a b c x y z : Int} (hB : BB (a, b, c, x, y, z)) (fr : Fr [79] l0 l) (hs : Six l (a, b, c, x, y, z)) :
    WM k_Ref_step p_Ref_step_2 [.ref 54, Jv, Jv, Jv, Jv, Jv, Jv, Jv, Jv, Jv, Jv, Jv, Jv, Jv, Jv, Jv, Jv] [] (sil h f l) 0 0 (fun v g => ∃ r, v = .int r ∧ ∃ w, sgR (a, b, c, x, y, z) w ∧ LsP h f l0 w r g) := by
  have hB0 := hB
  obtain ⟨⟨a1, a2⟩, ⟨b1, b2⟩, ⟨c1, c2⟩, ⟨x1, x2⟩, ⟨y1, y2⟩, ⟨z1, z2⟩⟩ := hB
  obtain ⟨s0, s1, s2, s3, s4, s5⟩ := hs
  have m79 : (79 : Nat) ∈ [79] := List.mem_cons_self
  have bx := sz_bb x1 x2
  have by_ := sz_bb y1 y2
  have bz := sz_bb z1 z2
  have bb : ∀ k : Nat, k < 6 → InB (nI k) 6 := fun k hk => InB_nI hk (by omega)
  have e6 : ∀ q : Int32, ((q = 1 ∧ posi x y z) ∨ (q = 0 ∧ ¬ posi x y z)) → WM k_Ref_step p_Ref_step_6 [.ref 54, Jv, .int q, .int (3 : Int32), Jv, Jv, Jv, Jv, Jv, Jv, Jv, Jv, Jv, Jv, Jv, Jv, Jv] [] (sil h f l) 0 0 (fun v g => ∃ r, v = .int r ∧ ∃ w, sgR (a, b, c, x, y, z) w ∧ LsP h f l0 w r g) := by
    intro q hq
    refine ref_sgn (i := 3) (v := x) (by decide) (by decide) s3 (by omega) (by omega) ?_
    rintro _ rfl
    refine ref_sgn (i := 4) (v := y) (by decide) (by decide) (by rw [up2_ni (by decide)]; exact s4) (by omega) (by omega) ?_
    rintro _ rfl
    refine ref_sgn (i := 5) (v := z) (by decide) (by decide) (by rw [up2_ni (by decide), up2_ni (by decide)]; exact s5) (by omega) (by omega) ?_
    rintro _ rfl
    rcases hq with ⟨rfl, hp⟩ | ⟨rfl, hp⟩
    · have n0 : ¬ (1 : Int32) = 0 := by decide
      rw [if_neg n0, if_neg n0, if_neg n0]
      refine WM.mono' (ref_ls (a := a) (b := b) (c := c) (x := sz x) (y := sz y) (z := sz z) (l0 := l0) ⟨⟨a1, a2⟩, ⟨b1, b2⟩, ⟨c1, c2⟩, bx, by_, bz⟩ (((fr.up m79).up m79).up m79) ?_ _) ?_
      · refine ⟨?_, ?_, ?_, ?_, ?_, ?_⟩ <;> simp (disch := decide) only [up2_ni, up2_s] <;> assumption
      · rintro v g ⟨r, e, w⟩
        exact ⟨r, e, sgp (a, b, c, x, y, z), Or.inl ⟨hp, rfl⟩, w⟩
    · rw [if_pos rfl, if_pos rfl, if_pos rfl]
      refine WM.mono' (ref_ls (a := a) (b := b) (c := c) (x := -sz x) (y := -sz y) (z := -sz z) (l0 := l0) ⟨⟨a1, a2⟩, ⟨b1, b2⟩, ⟨c1, c2⟩, by omega, by omega, by omega⟩ (((fr.up m79).up m79).up m79) ?_ _) ?_
      · refine ⟨?_, ?_, ?_, ?_, ?_, ?_⟩ <;> simp (disch := decide) only [up2_ni, up2_s] <;> assumption
      · rintro v g ⟨r, e, w⟩
        exact ⟨r, e, sgM (a, b, c, x, y, z), Or.inr ⟨hp, rfl⟩, w⟩
  have e5 : ∀ s0' s1' : Int32, ((s0' ^^^ s1') = 0 ↔ (x < 0 ↔ (y < 0 ↔ 0 ≤ z))) → WM k_Ref_step p_Ref_step_5 [.ref 54, Jv, Jv, Jv, Jv, Jv, Jv, Jv, Jv, Jv, Jv, Jv, Jv, Jv, Jv, Jv, Jv] [.int s1', .int s0'] (sil h f l) 0 0 (fun v g => ∃ r, v = .int r ∧ ∃ w, sgR (a, b, c, x, y, z) w ∧ LsP h f l0 w r g) := by
    intro p q hpq
    refine v_Ref_step_5 _ _ _ _ _ ?_
    rw [R54_33, show ix (3 : Int32) = 3 from rfl, show ix (4 : Int32) = 4 from rfl, show ix (5 : Int32) = 5 from rfl, ml_sil, s3, s4, s5]
    simp (disch := omega) only [j0, lz_eq]
    refine ⟨fun w0 => ⟨K54, K79, bb 3 (by decide), fun w => e6 0 (Or.inr ⟨rfl, fun u => u.2.1 w⟩), fun w1 => ⟨bb 4 (by decide), fun w => e6 0 (Or.inr ⟨rfl, fun u => u.2.2.1 w⟩), fun w2 => ⟨bb 5 (by decide), fun w => e6 0 (Or.inr ⟨rfl, fun u => u.2.2.2 w⟩), fun w3 => e6 1 (Or.inl ⟨rfl, hpq.mp w0, w1, w2, w3⟩)⟩⟩⟩, fun w0 => e6 0 (Or.inr ⟨rfl, fun u => w0 (hpq.mpr u.1)⟩)⟩
  have e4 : ∀ p q : Int32, ((x < 0 ∧ p = 1) ∨ (¬ x < 0 ∧ p = 0)) → ((y < 0 ∧ q = 1) ∨ (¬ y < 0 ∧ q = 0)) → WM k_Ref_step p_Ref_step_4 [.ref 54, Jv, Jv, Jv, Jv, Jv, Jv, Jv, Jv, Jv, Jv, Jv, Jv, Jv, Jv, Jv, Jv] [.int q, .int p] (sil h f l) 0 0 (fun v g => ∃ r, v = .int r ∧ ∃ w, sgR (a, b, c, x, y, z) w ∧ LsP h f l0 w r g) := by
    intro p q hp hq
    refine v_Ref_step_4 _ _ _ _ _ ⟨K54, ?_⟩
    rw [R54_33, show ix (5 : Int32) = 5 from rfl, ml_sil, s5]
    simp (disch := omega) only [j0, lz_lt]
    refine ⟨K79, bb 5 (by decide), fun w => e5 _ _ ?_, fun w => e5 _ _ ?_⟩
    · rcases hp with ⟨u1, rfl⟩ | ⟨u1, rfl⟩ <;> rcases hq with ⟨u2, rfl⟩ | ⟨u2, rfl⟩ <;> first | exact ⟨fun _ => by omega, fun _ => by decide⟩ | exact ⟨fun t => absurd t (by decide), fun t => by omega⟩
    · rcases hp with ⟨u1, rfl⟩ | ⟨u1, rfl⟩ <;> rcases hq with ⟨u2, rfl⟩ | ⟨u2, rfl⟩ <;> first | exact ⟨fun _ => by omega, fun _ => by decide⟩ | exact ⟨fun t => absurd t (by decide), fun t => by omega⟩
  have e3 : ∀ p : Int32, ((x < 0 ∧ p = 1) ∨ (¬ x < 0 ∧ p = 0)) → WM k_Ref_step p_Ref_step_3 [.ref 54, Jv, Jv, Jv, Jv, Jv, Jv, Jv, Jv, Jv, Jv, Jv, Jv, Jv, Jv, Jv, Jv] [.int p] (sil h f l) 0 0 (fun v g => ∃ r, v = .int r ∧ ∃ w, sgR (a, b, c, x, y, z) w ∧ LsP h f l0 w r g) := by
    intro p hp
    refine v_Ref_step_3 _ _ _ _ ⟨K54, ?_⟩
    rw [R54_33, show ix (4 : Int32) = 4 from rfl, ml_sil, s4]
    simp (disch := omega) only [j0, lz_lt]
    exact ⟨K79, bb 4 (by decide), fun w => e4 _ _ hp (Or.inl ⟨w, rfl⟩), fun w => e4 _ _ hp (Or.inr ⟨w, rfl⟩)⟩
  refine v_Ref_step_2 _ _ _ ⟨K54, ?_⟩
  rw [R54_33, show ix (3 : Int32) = 3 from rfl, ml_sil, s3]
  simp (disch := omega) only [j0, lz_lt]
  exact ⟨K79, bb 3 (by decide), fun w => e3 _ (Or.inl ⟨w, rfl⟩), fun w => e3 _ (Or.inr ⟨w, rfl⟩)⟩
def StP (h : MH) (f : (Nat → Nat → Int32)) (l : (Nat → Nat → Int64)) (t : S6) (r : Int32) (g : MH) : Prop := ∃ u l', g = sil h f l' ∧ Fr [79] l l' ∧ Six l' u ∧ ((r = 1 ∧ stR t u True) ∨ (r = 0 ∧ stR t u False))
theorem ref_sw2 {h : MH} {f : (Nat → Nat → Int32)} {l0 l : (Nat → Nat → Int64)} {t : S6} {a b c x y z : Int} (hB : BB (a, b, c, x, y, z)) (fr : Fr [79] l0 l) (hs : Six l (a, b, c, x, y, z)) (h1 : s1R t (a, b, c, x, y, z)) :
    WM k_Ref_step p_Ref_step_1 [.ref 54, Jv, Jv, Jv, Jv, Jv, Jv, Jv, Jv, Jv, Jv, Jv, Jv, Jv, Jv, Jv, Jv] [] (sil h f l) 0 0 (fun v g => ∃ r, v = .int r ∧ StP h f l0 t r g) := by
  have hB0 := hB
  have hs0 := hs
  obtain ⟨⟨a1, a2⟩, ⟨b1, b2⟩, ⟨d1, d2⟩, ⟨x1, x2⟩, ⟨y1, y2⟩, ⟨z1, z2⟩⟩ := hB
  obtain ⟨s0, s1, s2, s3, s4, s5⟩ := hs
  have m79 : (79 : Nat) ∈ [79] := List.mem_cons_self
  have by_ := sz_bb y1 y2
  have bz := sz_bb z1 z2
  have bb : ∀ k : Nat, k < 6 → InB (nI k) 6 := fun k hk => InB_nI hk (by omega)
  have sw : c2 (a, b, c, x, y, z) → SpV k_Ref_exchange [.ref 54, .int (1 : Int32), .int (2 : Int32)] (sil h f l) (fun g5 => kd g5 54 = 13 ∧ SpV k_Ref_exchange [.ref 54, .int (4 : Int32), .int (5 : Int32)] g5 (fun g6 => ∃ r, Value.int 1 = .int r ∧ StP h f l0 t r g6)) := by
    intro hc
    refine SpV.mono (sp_Ref_exchange (i := 1) (j := 2) (by decide) (by decide)) ?_
    rintro _ rfl
    refine ⟨K54, SpV.mono (sp_Ref_exchange (i := 4) (j := 5) (by decide) (by decide)) ?_⟩
    rintro _ rfl
    refine ⟨_, rfl, s2F (a, b, c, x, y, z), _, rfl, (((fr.up m79).up m79).up m79).up m79, ?_, Or.inl ⟨rfl, _, h1, Or.inl ⟨hc, rfl, trivial⟩⟩⟩
    refine ⟨?_, ?_, ?_, ?_, ?_, ?_⟩ <;> simp (disch := decide) only [up2_ni, up2_s] <;> assumption
  have go : ¬ c2 (a, b, c, x, y, z) → WM k_Ref_step p_Ref_step_2 [.ref 54, Jv, Jv, Jv, Jv, Jv, Jv, Jv, Jv, Jv, Jv, Jv, Jv, Jv, Jv, Jv, Jv] [] (sil h f l) 0 0 (fun v g => ∃ r, v = .int r ∧ StP h f l0 t r g) := by
    intro hc
    refine WM.mono' (ref_sg hB0 fr hs0) ?_
    rintro v g ⟨r, e, w, hw, u, l', e1, e2, e3, e4⟩
    refine ⟨r, e, u, l', e1, e2, e3, ?_⟩
    rcases e4 with ⟨q1, q2⟩ | ⟨q1, q2⟩
    · exact Or.inl ⟨q1, _, h1, Or.inr ⟨hc, w, hw, q2⟩⟩
    · exact Or.inr ⟨q1, _, h1, Or.inr ⟨hc, w, hw, q2⟩⟩
  refine v_Ref_step_1 _ _ _ ⟨K54, ?_⟩
  rw [R54_33, show ix (1 : Int32) = 1 from rfl, show ix (2 : Int32) = 2 from rfl, show ix (4 : Int32) = 4 from rfl, ml_sil, s1, s2, s4]
  simp (disch := omega) only [lz_gt, lz_eq]
  refine ⟨K79, bb 1 (by decide), bb 2 (by decide), fun w => sw (Or.inl w), fun w1 => ⟨fun w2 => ⟨bb 4 (by decide), SpL.mono (sp_Ref_size (by omega) (by omega)) ?_⟩, fun w2 => go (fun w => by rcases w with w | w; exact w1 w; exact w2 w.1)⟩⟩
  rintro r g ⟨e, er⟩
  subst g er
  rw [R54_33, show ix (5 : Int32) = 5 from rfl, ml_sil, s5]
  refine ⟨K54, K79, bb 5 (by decide), SpL.mono (sp_Ref_size (by omega) (by omega)) ?_⟩
  rintro r g ⟨e, er⟩
  subst g er
  simp (disch := omega) only [lz_gt]
  exact ⟨fun w => ⟨K54, sw (Or.inr ⟨w2, w⟩)⟩, fun w3 => go (fun w => by rcases w with w | w; exact w1 w; exact w3 w.2)⟩
theorem sp_Ref_step {h : MH} {f : (Nat → Nat → Int32)} {l : (Nat → Nat → Int64)} {t : S6} (hB : BB t) (hs : Six l t) : SpI k_Ref_step [.ref 54] (sil h f l) (fun r g => StP h f l t r g) := by
  obtain ⟨a, b, c, x, y, z⟩ := t
  have hB0 := hB
  have hs0 := hs
  obtain ⟨⟨a1, a2⟩, ⟨b1, b2⟩, ⟨d1, d2⟩, ⟨x1, x2⟩, ⟨y1, y2⟩, ⟨z1, z2⟩⟩ := hB
  obtain ⟨s0, s1, s2, s3, s4, s5⟩ := hs
  have m79 : (79 : Nat) ∈ [79] := List.mem_cons_self
  have bx := sz_bb x1 x2
  have by_ := sz_bb y1 y2
  have bb : ∀ k : Nat, k < 6 → InB (nI k) 6 := fun k hk => InB_nI hk (by omega)
  have sw : c1 (a, b, c, x, y, z) → SpV k_Ref_exchange [.ref 54, .int (0 : Int32), .int (1 : Int32)] (sil h f l) (fun g5 => kd g5 54 = 13 ∧ SpV k_Ref_exchange [.ref 54, .int (3 : Int32), .int (4 : Int32)] g5 (fun g6 => WM k_Ref_step p_Ref_step_1 [.ref 54, Jv, Jv, Jv, Jv, Jv, Jv, Jv, Jv, Jv, Jv, Jv, Jv, Jv, Jv, Jv, Jv] [] g6 0 0 (fun v g => ∃ r, v = .int r ∧ StP h f l (a, b, c, x, y, z) r g))) := by
    intro hc
    refine SpV.mono (sp_Ref_exchange (i := 0) (j := 1) (by decide) (by decide)) ?_
    rintro _ rfl
    refine ⟨K54, SpV.mono (sp_Ref_exchange (i := 3) (j := 4) (by decide) (by decide)) ?_⟩
    rintro _ rfl
    refine ref_sw2 (a := b) (b := a) (c := c) (x := y) (y := x) (z := z) ⟨⟨b1, b2⟩, ⟨a1, a2⟩, ⟨d1, d2⟩, ⟨y1, y2⟩, ⟨x1, x2⟩, ⟨z1, z2⟩⟩ ((((Fr.refl.up m79).up m79).up m79).up m79) ?_ (Or.inl ⟨hc, rfl⟩)
    refine ⟨?_, ?_, ?_, ?_, ?_, ?_⟩ <;> simp (disch := decide) only [up2_ni, up2_s] <;> assumption
  have go : ¬ c1 (a, b, c, x, y, z) → WM k_Ref_step p_Ref_step_1 [.ref 54, Jv, Jv, Jv, Jv, Jv, Jv, Jv, Jv, Jv, Jv, Jv, Jv, Jv, Jv, Jv, Jv] [] (sil h f l) 0 0 (fun v g => ∃ r, v = .int r ∧ StP h f l (a, b, c, x, y, z) r g) := fun hc => ref_sw2 hB0 Fr.refl hs0 (Or.inr ⟨hc, rfl⟩)
  refine v_Ref_step _ _ _ ⟨K54, ?_⟩
  rw [R54_33, show ix (0 : Int32) = 0 from rfl, show ix (1 : Int32) = 1 from rfl, show ix (3 : Int32) = 3 from rfl, ml_sil, s0, s1, s3]
  simp (disch := omega) only [lz_gt, lz_eq]
  refine ⟨K79, bb 0 (by decide), bb 1 (by decide), fun w => sw (Or.inl w), fun w1 => ⟨fun w2 => ⟨bb 3 (by decide), SpL.mono (sp_Ref_size (by omega) (by omega)) ?_⟩, fun w2 => go (fun w => by rcases w with w | w; exact w1 w; exact w2 w.1)⟩⟩
  rintro r g ⟨e, er⟩
  subst g er
  rw [R54_33, show ix (4 : Int32) = 4 from rfl, ml_sil, s4]
  refine ⟨K54, K79, bb 4 (by decide), SpL.mono (sp_Ref_size (by omega) (by omega)) ?_⟩
  rintro r g ⟨e, er⟩
  subst g er
  simp (disch := omega) only [lz_gt]
  exact ⟨fun w => ⟨K54, sw (Or.inr ⟨w2, w⟩)⟩, fun w3 => go (fun w => by rcases w with w | w; exact w1 w; exact w3 w.2)⟩
/-- the reduction ends -/
theorem any_Ref_reduce {h : MH} {f : (Nat → Nat → Int32)} {l : (Nat → Nat → Int64)} {a b c d e g : Int} (ho : OKs (a, b, c, 2 * d, 2 * e, 2 * g)) (hT : a + b + c ≤ 10000000) (hs : Six l (a, b, c, d, e, g)) : SpV k_Ref_reduce [.ref 54] (sil h f l) (fun q => ∃ l', q = sil h f l' ∧ Fr [79] l l') := by
  obtain ⟨s0, s1, s2, s3, s4, s5⟩ := hs
  have m79 : (79 : Nat) ∈ [79] := List.mem_cons_self
  have bb : ∀ k : Nat, k < 6 → InB (nI k) 6 := fun k hk => InB_nI hk (by omega)
  have e3 : ∀ l1, Fr [79] l l1 → WM k_Ref_reduce p_Ref_reduce_3 [.ref 54, Jv, .int (3 : Int32)] [] (sil h f l1) 0 0 (fun _ q => ∃ l', q = sil h f l' ∧ Fr [79] l l') := by
    intro l1 hl
    refine up_ind 6 (fun i (l2 : (Nat → Nat → Int64)) => Fr [79] l l2 ∧ 3 ≤ i) (fun i l2 => WM k_Ref_reduce p_Ref_reduce_3 [.ref 54, Jv, .int (nI i)] [] (sil h f l2) 0 0 _) ?_ ?_ 3 l1 (by decide) ⟨hl, Nat.le_refl _⟩
    · rintro i l2 hi ⟨q1, q2⟩ ih
      refine v_Ref_reduce_3 _ _ _ _ ⟨fun _ => ⟨K54, ?_⟩, fun _ => ⟨l2, rfl, q1⟩⟩
      rw [R54_33, ix_nI (by omega), nI_1]
      refine ⟨K79, bb i hi, ?_⟩
      rintro _ rfl
      exact ih _ ⟨q1.up m79, by omega⟩
    · rintro l2 ⟨q1, q2⟩
      exact v_Ref_reduce_3 _ _ _ _ ⟨fun w => absurd w (by decide), fun _ => ⟨l2, rfl, q1⟩⟩
  have e2 : ∀ p : S6 × (Nat → Nat → Int64), (OKs p.1 ∧ tT p.1 ≤ 10000000 ∧ Six p.2 p.1 ∧ Fr [79] l p.2) → WM k_Ref_reduce p_Ref_reduce_2 [.ref 54, .int (1 : Int32), Jv] [] (sil h f p.2) 0 0 (fun _ q => ∃ l', q = sil h f l' ∧ Fr [79] l l') := by
    refine dn_ind (fun p : S6 × (Nat → Nat → Int64) => mu p.1) _ _ ?_
    rintro ⟨t, l1⟩ ⟨q1, q2, q3, q4⟩ ih
    refine v_Ref_reduce_2 _ _ _ _ ⟨fun w => absurd w (by decide), fun _ => ⟨K54, SpI.mono (sp_Ref_step (OK_BB q1 q2) q3) ?_⟩⟩
    rintro r _ ⟨u, l2, rfl, f2, s2', (⟨rfl, hu⟩ | ⟨rfl, hu⟩)⟩
    · have ok := stR_ok hu q1
      exact ih (u, l2) ⟨ok.1, Int.le_trans ok.2.1 q2, s2', q4.trans f2⟩ (Less_mu (ok.2.2 trivial) ok.1 q1 q2)
    · exact v_Ref_reduce_2 _ _ _ _ ⟨fun _ => e3 _ (q4.trans f2), fun w => absurd rfl w⟩
  refine v_Ref_reduce _ _ _ ?_
  refine v_Ref_reduce_1 _ _ _ _ ?_
  simp (disch := omega) only [(show (1 : Int32) = nI 1 from rfl), (show (3 : Int32) = nI 3 from rfl), (show (6 : Int32) = nI 6 from rfl), nI_add, nI_mul, nI_1, ix_nI, nI_toI, div_nI, irm_nI, InB_t, zI_add, zI_sub, zI_mul, zI_neg, nI_addZ, zI_addN, nI_mulZ, zI_mulN, nI_subZ, zI_subN, zI_toI, Int.cast_ofNat_Int, mi_sil, ml_sil, hn_sil, wi_sil, wl_sil, up2_ne, up2_s, true_and, and_true, forall_eq, true_implies, implies_true, forall_const, ne_eq, Int.reduceLT, Int.reduceLE, Int.reduceEq, Int.reduceAdd, Int.reduceSub, Int.reduceMul, Int.reduceNeg, Nat.reduceAdd, Nat.reduceMul, Nat.reduceSub, Nat.reduceDiv, Nat.reduceMod, Nat.add_zero, Nat.zero_add, Nat.mul_zero, not_true_eq_false, not_false_eq_true, false_implies, Nat.reduceEqDiff, nI_subN, Int.natCast_add, Int.natCast_mul, K54, R54_33, K79, L79, s3]
  refine v_Ref_reduce_1 _ _ _ _ ?_
  simp (disch := omega) only [(show (1 : Int32) = nI 1 from rfl), (show (3 : Int32) = nI 3 from rfl), (show (6 : Int32) = nI 6 from rfl), nI_add, nI_mul, nI_1, ix_nI, nI_toI, div_nI, irm_nI, InB_t, zI_add, zI_sub, zI_mul, zI_neg, nI_addZ, zI_addN, nI_mulZ, zI_mulN, nI_subZ, zI_subN, zI_toI, Int.cast_ofNat_Int, mi_sil, ml_sil, hn_sil, wi_sil, wl_sil, up2_ne, up2_s, true_and, and_true, forall_eq, true_implies, implies_true, forall_const, ne_eq, Int.reduceLT, Int.reduceLE, Int.reduceEq, Int.reduceAdd, Int.reduceSub, Int.reduceMul, Int.reduceNeg, Nat.reduceAdd, Nat.reduceMul, Nat.reduceSub, Nat.reduceDiv, Nat.reduceMod, Nat.add_zero, Nat.zero_add, Nat.mul_zero, not_true_eq_false, not_false_eq_true, false_implies, Nat.reduceEqDiff, nI_subN, Int.natCast_add, Int.natCast_mul, K54, R54_33, K79, L79, s4, up2_ni]
  refine v_Ref_reduce_1 _ _ _ _ ?_
  simp (disch := omega) only [(show (1 : Int32) = nI 1 from rfl), (show (3 : Int32) = nI 3 from rfl), (show (6 : Int32) = nI 6 from rfl), nI_add, nI_mul, nI_1, ix_nI, nI_toI, div_nI, irm_nI, InB_t, zI_add, zI_sub, zI_mul, zI_neg, nI_addZ, zI_addN, nI_mulZ, zI_mulN, nI_subZ, zI_subN, zI_toI, Int.cast_ofNat_Int, mi_sil, ml_sil, hn_sil, wi_sil, wl_sil, up2_ne, up2_s, true_and, and_true, forall_eq, true_implies, implies_true, forall_const, ne_eq, Int.reduceLT, Int.reduceLE, Int.reduceEq, Int.reduceAdd, Int.reduceSub, Int.reduceMul, Int.reduceNeg, Nat.reduceAdd, Nat.reduceMul, Nat.reduceSub, Nat.reduceDiv, Nat.reduceMod, Nat.add_zero, Nat.zero_add, Nat.mul_zero, not_true_eq_false, not_false_eq_true, false_implies, Nat.reduceEqDiff, nI_subN, Int.natCast_add, Int.natCast_mul, K54, R54_33, K79, L79, s5, up2_ni]
  refine v_Ref_reduce_1 _ _ _ _ ?_
  simp (disch := omega) only [(show (1 : Int32) = nI 1 from rfl), (show (3 : Int32) = nI 3 from rfl), (show (6 : Int32) = nI 6 from rfl), nI_add, nI_mul, nI_1, ix_nI, nI_toI, div_nI, irm_nI, InB_t, zI_add, zI_sub, zI_mul, zI_neg, nI_addZ, zI_addN, nI_mulZ, zI_mulN, nI_subZ, zI_subN, zI_toI, Int.cast_ofNat_Int, mi_sil, ml_sil, hn_sil, wi_sil, wl_sil, up2_ne, up2_s, true_and, and_true, forall_eq, true_implies, implies_true, forall_const, ne_eq, Int.reduceLT, Int.reduceLE, Int.reduceEq, Int.reduceAdd, Int.reduceSub, Int.reduceMul, Int.reduceNeg, Nat.reduceAdd, Nat.reduceMul, Nat.reduceSub, Nat.reduceDiv, Nat.reduceMod, Nat.add_zero, Nat.zero_add, Nat.mul_zero, not_true_eq_false, not_false_eq_true, false_implies, Nat.reduceEqDiff, nI_subN, Int.natCast_add, Int.natCast_mul, K54, R54_33, K79, L79, s5, up2_ni]
  refine e2 ((a, b, c, 2 * d, 2 * e, 2 * g), up2 (up2 (up2 l 79 3 (2 * zL d)) 79 4 (2 * zL e)) 79 5 (2 * zL g)) ⟨ho, hT, ?_, ((Fr.refl.up m79).up m79).up m79⟩
  refine ⟨?_, ?_, ?_, ?_, ?_, ?_⟩ <;> simp (disch := decide) only [up2_ni, up2_s, j2, zL_mul] <;> assumption
