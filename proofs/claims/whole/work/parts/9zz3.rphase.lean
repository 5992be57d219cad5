/-! above of the reference -/
theorem St5.mk0 {o p q : Nat} {C : CdT} {l0 l : (Nat → Nat → Int64)} (a : Fr [o] l0 l) (b : ∀ j, j ≠ p → j ≠ q → l o j = l0 o j) {U L : Int} (e1 : l o p = zL U) (e2 : l o q = zL L) (m : MX C U L) : St5 o p q C l0 l := ⟨a, b, U, L, e1, e2, m⟩
/-- the reference's level: what it holds is E L less U -/
def St6 (E : Int) (C : CdT) (l0 l : (Nat → Nat → Int64)) : Prop := Fr [54] l0 l ∧ (∀ j, j ≠ 57 → j ≠ 58 → l 54 j = l0 54 j) ∧ ∃ U L, l 54 57 = zL (E * L - U) ∧ l 54 58 = zL L ∧ MX C U L
theorem St6.ext {E : Int} {C C' : CdT} {l0 l : (Nat → Nat → Int64)} (s : St6 E C l0 l) (e : ∀ u v, C' u v ↔ C u v) : St6 E C' l0 l := by
  obtain ⟨s1, s2, U, L, s3, s4, s5⟩ := s
  exact ⟨s1, s2, U, L, s3, s4, s5.ext e⟩
theorem sp_Ref_lesser {h : MH} {f : (Nat → Nat → Int32)} {l0 l : (Nat → Nat → Int64)} {C : CdT} {E u v : Int} (b : Cb C) (st : St6 E C l0 l) (hE : Ab E 100000000) (hu : Ab u 4000000000000) (hv : 0 < v ∧ v ≤ 9801) : SpV k_Ref_lesser [.ref 54, .long (zL (E * v - u)), .long (zL v)] (sil h f l) (fun g => ∃ l', g = sil h f l' ∧ St6 E (or1 C u v) l0 l') := by
  obtain ⟨s1, s2, U, L, s3, s4, s5⟩ := st
  have me : 54 ∈ [54] := List.mem_cons_self
  obtain ⟨bL, bU⟩ := b U L s5.2.1
  have v9 : Ab v 9801 := Ab.of (by omega) (by omega)
  have L9 : Ab L 9801 := Ab.of (by omega) (by omega)
  have w1 := ((hE.mul v9).sub hu).mul L9
  have w2 := ((hE.mul L9).sub bU).mul v9
  have a1 := w1.lo; have a2 := w1.hi; have a3 := w2.lo; have a4 := w2.hi
  have ev : (E * v - u) * L < (E * L - U) * v ↔ U * v < u * L := by
    have e1 : (E * v - u) * L = E * v * L - u * L := Int.sub_mul _ _ _
    have e2 : (E * L - U) * v = E * v * L - U * v := by rw [Int.sub_mul, Int.mul_assoc, Int.mul_comm L v, ← Int.mul_assoc]
    omega
  refine v_Ref_lesser _ _ _ _ _ ⟨K54, ?_⟩
  rw [ml_sil, s3, s4, zL_mul, zL_mul, lc_lt, zL_toI (by omega) (by omega), zL_toI (by omega) (by omega), ev]
  refine ⟨fun c => ?_, fun c => ⟨l, rfl, s1, s2, U, L, s3, s4, s5.keep c⟩⟩
  rintro _ rfl
  rintro _ rfl
  rw [wl_sil, wl_sil]
  refine ⟨_, rfl, (s1.up me).up me, fun j j1 j2 => by rw [up2_ni j2, up2_ni j1]; exact s2 j j1 j2, u, v, ?_, ?_, MX.take b s5 hv.1 c⟩
  · rw [up2_ni (by decide), up2_s]
  · rw [up2_s]
def CrK (PH : List Ph) (k i j : Nat) : CdT := fun u v => Cr PH k i u v ∨ (crs PH i k = 0 ∧ u = sU PH k i ∧ v = phS PH i) ∨ CrJ PH k i j u v
theorem CrK_0y {PH : List Ph} {k i : Nat} (c : crs PH i k = 0) (u v : Int) : CrK PH k i 0 u v ↔ or1 (Cr PH k i) (sU PH k i) (phS PH i) u v :=
  ⟨fun q => q.elim Or.inl (fun q => q.elim (fun q => Or.inr q.2) (fun ⟨j, hj, _⟩ => absurd hj (Nat.not_lt_zero j))), fun q => q.elim Or.inl (fun q => Or.inr (Or.inl ⟨c, q⟩))⟩
theorem CrK_0n {PH : List Ph} {k i : Nat} (c : ¬ crs PH i k = 0) (u v : Int) : CrK PH k i 0 u v ↔ Cr PH k i u v :=
  ⟨fun q => q.elim id (fun q => q.elim (fun q => absurd q.1 c) (fun ⟨j, hj, _⟩ => absurd hj (Nat.not_lt_zero j))), Or.inl⟩
theorem CrK_y {PH : List Ph} {k i j : Nat} (c : 0 < crs PH i j ∧ 0 ≤ crs PH k j ∧ 0 ≤ crs PH i k) (u v : Int) : CrK PH k i (j + 1) u v ↔ or1 (CrK PH k i j) (mU PH k i j) (crs PH i j) u v := by
  constructor
  · rintro (q | q | ⟨j', hj, c', e1, e2⟩)
    · exact Or.inl (Or.inl q)
    · exact Or.inl (Or.inr (Or.inl q))
    · by_cases e : j' = j
      · subst e; exact Or.inr ⟨e1, e2⟩
      · exact Or.inl (Or.inr (Or.inr ⟨j', by omega, c', e1, e2⟩))
  · rintro ((q | q | ⟨j', hj, q⟩) | ⟨e1, e2⟩)
    · exact Or.inl q
    · exact Or.inr (Or.inl q)
    · exact Or.inr (Or.inr ⟨j', by omega, q⟩)
    · exact Or.inr (Or.inr ⟨j, by omega, c, e1, e2⟩)
theorem CrK_n {PH : List Ph} {k i j : Nat} (c : ¬ (0 < crs PH i j ∧ 0 ≤ crs PH k j ∧ 0 ≤ crs PH i k)) (u v : Int) : CrK PH k i (j + 1) u v ↔ CrK PH k i j u v := by
  constructor
  · rintro (q | q | ⟨j', hj, c', q⟩)
    · exact Or.inl q
    · exact Or.inr (Or.inl q)
    · refine Or.inr (Or.inr ⟨j', ?_, c', q⟩)
      by_cases e : j' = j
      · subst e; exact absurd c' c
      · omega
  · rintro (q | q | ⟨j', hj, q⟩)
    · exact Or.inl q
    · exact Or.inr (Or.inl q)
    · exact Or.inr (Or.inr ⟨j', by omega, q⟩)
theorem CrK.b {PH : List Ph} {k i n : Nat} (ok : okPh PH) (hk : k < PH.length) (hi : i < PH.length) (hn : n ≤ PH.length) : Cb (CrK PH k i n) := by
  rintro u v (q | ⟨_, rfl, rfl⟩ | q)
  · exact Cr.b ok hk (by omega) u v q
  · have := phS_ab ok hi
    exact ⟨by omega, sU_ab ok hk hi⟩
  · exact CrJ.b ok hk hi hn u v q
theorem Cr_i {PH : List Ph} {k i : Nat} (u v : Int) : Cr PH k (i + 1) u v ↔ CrK PH k i PH.length u v := by
  constructor
  · rintro (q | ⟨i', hi, q⟩)
    · exact Or.inl (Or.inl q)
    · by_cases e : i' = i
      · subst e; exact Or.inr q
      · exact Or.inl (Or.inr ⟨i', by omega, q⟩)
  · rintro ((q | ⟨i', hi, q⟩) | q)
    · exact Or.inl q
    · exact Or.inr ⟨i', by omega, q⟩
    · exact Or.inr ⟨i, by omega, q⟩
theorem n94 : (94 : Nat) ∉ [54] := by decide
theorem sp_hullOf {h : MH} {f : (Nat → Nat → Int32)} {l0 : (Nat → Nat → Int64)} {PH : List Ph} {k : Nat} (ok : okPh PH) (ph : PhA f l0 92 93 94 54 56 PH) (hk : k < PH.length) :
    SpV k_Ref_hullOf [.ref 54, .int (nI k)] (sil h f l0) (fun g => ∃ l', g = sil h f l' ∧ St6 (phE PH k) (Cr PH k PH.length) l0 l') := by
  have hl := ok.1
  have me : 54 ∈ [54] := List.mem_cons_self
  have z0 : (0 : Int64) = zL 0 := rfl
  obtain ⟨⟨p1, p2⟩, ⟨p3, p4⟩, _⟩ := ok.2 k hk
  refine v_Ref_hullOf _ _ _ _ ⟨K54, ?_⟩
  rw [R54_53, R54_54, R54_55, mi_sil, ml_sil, ix_nI (by omega), (ph.2 k hk).1, (ph.2 k hk).2.1, (ph.2 k hk).2.2, i2l_zI (by omega) (by omega), i2l_zI (by omega) (by omega), L92, L93, L94]
  refine ⟨K92, InB_nI (by omega) (by omega), K93, InB_nI (by omega) (by omega), K94, InB_nI (by omega) (by omega), ?_⟩
  rintro _ rfl
  rintro _ rfl
  rw [wl_sil, wl_sil]
  have go : ∀ d i (l : (Nat → Nat → Int64)), PH.length - i = d → i ≤ PH.length → St6 (phE PH k) (Cr PH k i) l0 l →
      WM k_Ref_hullOf p_Ref_hullOf_1 [.ref 54, Jv, .long (zL (phP PH k)), Jv, .long (zL (phQ PH k)), Jv, .int (nI i), Jv, Jv, Jv, Jv, Jv, Jv, Jv] [] (sil h f l) 0 0 (fun _ g => ∃ l', g = sil h f l' ∧ St6 (phE PH k) (Cr PH k PH.length) l0 l') := by
    intro d
    induction d with
    | zero =>
      intro i l hd hi st
      have e : i = PH.length := by omega
      subst e
      refine v_Ref_hullOf_1 _ _ _ _ _ _ ⟨K54, ?_⟩
      rw [mi_sil, ph.1]
      exact ⟨fun q => absurd q (by omega), fun _ => ⟨l, rfl, st⟩⟩
    | succ d ih =>
      intro i l hd hi st
      have hi' : i < PH.length := by omega
      obtain ⟨⟨i1, i2⟩, ⟨i3, i4⟩, _⟩ := ok.2 i hi'
      have inner : ∀ d2 j (l : (Nat → Nat → Int64)), PH.length - j = d2 → j ≤ PH.length → St6 (phE PH k) (CrK PH k i j) l0 l →
          WM k_Ref_hullOf p_Ref_hullOf_2 [.ref 54, Jv, .long (zL (phP PH k)), Jv, .long (zL (phQ PH k)), Jv, .int (nI i), .int (nI j), Jv, Jv, Jv, Jv, Jv, Jv] [] (sil h f l) 0 0 (fun _ g => ∃ l', g = sil h f l' ∧ St6 (phE PH k) (Cr PH k PH.length) l0 l') := by
        intro d2
        induction d2 with
        | zero =>
          intro j l hd2 hj st
          have e : j = PH.length := by omega
          subst e
          refine v_Ref_hullOf_2 _ _ _ _ _ _ _ ⟨K54, ?_⟩
          rw [mi_sil, ph.1, nI_1]
          exact ⟨fun q => absurd q (by omega), fun _ => ih (i + 1) l (by omega) (by omega) (st.ext Cr_i)⟩
        | succ d2 ih2 =>
          intro j l hd2 hj st
          have hj' : j < PH.length := by omega
          have pl : PhA f l 92 93 94 54 56 PH := ph.fr st.1 n94
          obtain ⟨⟨j1, j2⟩, ⟨j3, j4⟩, _⟩ := ok.2 j hj'
          have skip : ¬ (0 < crs PH i j ∧ 0 ≤ crs PH k j ∧ 0 ≤ crs PH i k) → WM k_Ref_hullOf p_Ref_hullOf_2 [.ref 54, Jv, .long (zL (phP PH k)), Jv, .long (zL (phQ PH k)), Jv, .int (nI i), .int (nI j + 1), Jv, Jv, Jv, Jv, Jv, Jv] [] (sil h f l) 0 0 (fun _ g => ∃ l', g = sil h f l' ∧ St6 (phE PH k) (Cr PH k PH.length) l0 l') := fun c => by
            rw [nI_1]
            exact ih2 (j + 1) l (by omega) (by omega) (st.ext (CrK_n c))
          refine v_Ref_hullOf_2 _ _ _ _ _ _ _ ⟨K54, ?_⟩
          rw [mi_sil, ph.1, nI_toI (by omega), nI_toI (by omega)]
          refine ⟨fun _ => ?_, fun q => absurd (by omega) q⟩
          rw [R54_53, R54_54, ix_nI (a := i) (by omega), ix_nI (a := j) (by omega), (ph.2 i hi').1, (ph.2 i hi').2.1, (ph.2 j hj').1, (ph.2 j hj').2.1, i2l_zI (v := phP PH i) (by omega) (by omega), i2l_zI (v := phQ PH i) (by omega) (by omega), i2l_zI (v := phP PH j) (by omega) (by omega), i2l_zI (v := phQ PH j) (by omega) (by omega), zL_mul, zL_mul, zL_sub, zL_mul, zL_mul, zL_sub, zL_mul, zL_mul, zL_sub, L92, L93]
          refine ⟨K92, InB_nI (by omega) (by omega), K93, InB_nI (by omega) (by omega), InB_nI (by omega) (by omega), InB_nI (by omega) (by omega), ?_⟩
          have bij := crs_ab ok hi' hj'
          have bkj := crs_ab ok hk hj'
          have bik := crs_ab ok hi' hk
          rw [show phP PH i * phQ PH j - phQ PH i * phP PH j = crs PH i j from rfl, show phP PH k * phQ PH j - phQ PH k * phP PH j = crs PH k j from rfl, show phP PH i * phQ PH k - phQ PH i * phP PH k = crs PH i k from rfl]
          refine v_Ref_hullOf_3 _ _ _ _ _ _ _ _ _ _ ?_
          rw [z0, lc_gt, lc_lt, lc_lt, zL_toI (x := 0) (by decide) (by decide), zL_toI (x := crs PH i j) (by omega) (by omega), zL_toI (x := crs PH k j) (by omega) (by omega), zL_toI (x := crs PH i k) (by omega) (by omega)]
          refine ⟨fun c1 => ⟨fun c => skip (fun q => by omega), fun c2 => ⟨fun c => skip (fun q => by omega), fun c3 => ⟨K54, ?_⟩⟩⟩, fun c => skip (fun q => c q.1)⟩
          have eu : crs PH k j * phE PH i + crs PH i k * phE PH j = phE PH k * crs PH i j - mU PH k i j := by
            unfold mU
            rw [Int.mul_comm (crs PH k j), Int.mul_comm (crs PH i k)]
            omega
          rw [R54_55, ml_sil, ix_nI (a := i) (by omega), ix_nI (a := j) (by omega), (pl.2 i hi').2.2, (pl.2 j hj').2.2, zL_mul, zL_mul, zL_add, eu, L94]
          refine ⟨K94, InB_nI (by omega) (by omega), InB_nI (by omega) (by omega), SpV.mono (sp_Ref_lesser (CrK.b ok hk hi' (by omega)) st (phE_ab ok hk) (mU_ab ok hk hi' hj') ⟨c1, bij.2⟩) ?_⟩
          rintro _ ⟨l', rfl, st'⟩
          rw [nI_1]
          exact ih2 (j + 1) l' (by omega) (by omega) (st'.ext (CrK_y ⟨c1, by omega, by omega⟩))
      have pl : PhA f l 92 93 94 54 56 PH := ph.fr st.1 n94
      have bI := phS_ab ok hi'
      have bik := crs_ab ok hi' hk
      have ec : (lg_cmp (zL (phP PH i * phQ PH k)) (zL (phQ PH i * phP PH k)) = 0) ↔ crs PH i k = 0 := by
        have m1 : phP PH i * phQ PH k ≤ 99 * 99 := Int.mul_le_mul i2 p4 p3 (by decide)
        have m2 : phQ PH i * phP PH k ≤ 99 * 99 := Int.mul_le_mul i4 p2 p1 (by decide)
        have m3 : 0 ≤ phP PH i * phQ PH k := Int.mul_nonneg i1 p3
        have m4 : 0 ≤ phQ PH i * phP PH k := Int.mul_nonneg i3 p1
        rw [lc_eq, zL_inj (by omega) (by omega) (by omega) (by omega)]
        unfold crs
        omega
      refine v_Ref_hullOf_1 _ _ _ _ _ _ ⟨K54, ?_⟩
      rw [mi_sil, ph.1, nI_toI (by omega), nI_toI (by omega)]
      refine ⟨fun _ => ?_, fun q => absurd (by omega) q⟩
      rw [R54_53, R54_54, ix_nI (a := i) (by omega), (ph.2 i hi').1, (ph.2 i hi').2.1, i2l_zI (v := phP PH i) (by omega) (by omega), i2l_zI (v := phQ PH i) (by omega) (by omega), zL_mul, zL_mul, ec, L92, L93]
      refine ⟨K92, InB_nI (by omega) (by omega), K93, InB_nI (by omega) (by omega), fun c => ?_, fun c => inner _ 0 l rfl (by omega) (st.ext (CrK_0n c))⟩
      have eu : phE PH i * phS PH k = phE PH k * phS PH i - sU PH k i := by unfold sU; omega
      rw [R54_55, ml_sil, (pl.2 i hi').2.2, zL_add, zL_mul, zI_add, show phP PH k + phQ PH k = phS PH k from rfl, show phP PH i + phQ PH i = phS PH i from rfl, i2l_zI (v := phS PH i) (by omega) (by omega), eu, L94]
      refine ⟨K94, InB_nI (by omega) (by omega), SpV.mono (sp_Ref_lesser (Cr.b ok hk (by omega)) st (phE_ab ok hk) (sU_ab ok hk hi') ⟨by omega, by omega⟩) ?_⟩
      rintro _ ⟨l', rfl, st'⟩
      exact inner _ 0 l' rfl (by omega) (st'.ext (CrK_0y c))
  refine go _ 0 _ rfl (by omega) ⟨(Fr.refl.up me).up me, fun j j1 j2 => by rw [up2_ni j2, up2_ni j1], 0, 1, by rw [up2_ni (by decide), up2_s, Int.mul_one, Int.sub_zero], by rw [up2_s]; rfl, by decide, Or.inl ⟨rfl, rfl⟩, fun u v q => ?_⟩
  rcases q with ⟨rfl, rfl⟩ | ⟨i, hi, _⟩
  · decide
  · exact absurd hi (Nat.not_lt_zero i)
