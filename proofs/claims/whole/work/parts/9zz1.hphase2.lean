/-! phases in the class: above -/
theorem PhA.fr {f : (Nat → Nat → Int32)} {l l' : (Nat → Nat → Int64)} {a b c o v : Nat} {PH : List Ph} {A : List Nat} (p : PhA f l a b c o v PH) (fr : Fr A l l') (n : c ∉ A) : PhA f l' a b c o v PH := ⟨p.1, fun i hi => ⟨(p.2 i hi).1, (p.2 i hi).2.1, by rw [fr c n]; exact (p.2 i hi).2.2⟩⟩
def CdK (PH : List Ph) (k i j : Nat) : CdT := fun u v => Cd PH k i u v ∨ CdJ PH k i j u v
theorem CdK_0 {PH : List Ph} {k i : Nat} (u v : Int) : CdK PH k i 0 u v ↔ Cd PH k i u v := ⟨fun q => q.elim id (fun ⟨j, hj, _⟩ => absurd hj (Nat.not_lt_zero j)), Or.inl⟩
theorem CdK_y {PH : List Ph} {k i j : Nat} (c : 0 < crs PH k j) (u v : Int) : CdK PH k i (j + 1) u v ↔ or1 (CdK PH k i j) (mU PH k i j) (crs PH i j) u v := by
  constructor
  · rintro (q | ⟨j', hj, c', e1, e2⟩)
    · exact Or.inl (Or.inl q)
    · by_cases e : j' = j
      · subst e; exact Or.inr ⟨e1, e2⟩
      · exact Or.inl (Or.inr ⟨j', by omega, c', e1, e2⟩)
  · rintro ((q | ⟨j', hj, q⟩) | ⟨e1, e2⟩)
    · exact Or.inl q
    · exact Or.inr ⟨j', by omega, q⟩
    · exact Or.inr ⟨j, by omega, c, e1, e2⟩
theorem CdK_n {PH : List Ph} {k i j : Nat} (c : ¬ 0 < crs PH k j) (u v : Int) : CdK PH k i (j + 1) u v ↔ CdK PH k i j u v := by
  constructor
  · rintro (q | ⟨j', hj, c', q⟩)
    · exact Or.inl q
    · refine Or.inr ⟨j', ?_, c', q⟩
      by_cases e : j' = j
      · subst e; exact absurd c' c
      · omega
  · rintro (q | ⟨j', hj, q⟩)
    · exact Or.inl q
    · exact Or.inr ⟨j', by omega, q⟩
theorem CdK.b {PH : List Ph} {k i n : Nat} (ok : okPh PH) (hk : k < PH.length) (hi : i < PH.length) (c : 0 < crs PH i k) (hn : n ≤ PH.length) : Cb (CdK PH k i n) := fun u v q => q.elim (Cd.b ok hk (by omega) u v) (CdJ.b ok hk hi c hn u v)
theorem Cd_i {PH : List Ph} {k i : Nat} (u v : Int) : Cd PH k (i + 1) u v ↔ Cd PH k i u v ∨ CdI PH k i u v := by
  constructor
  · rintro (q | ⟨i', hi, q⟩)
    · exact Or.inl (Or.inl q)
    · by_cases e : i' = i
      · subst e; exact Or.inr q
      · exact Or.inl (Or.inr ⟨i', by omega, q⟩)
  · rintro ((q | ⟨i', hi, q⟩) | q)
    · exact Or.inl q
    · exact Or.inr ⟨i', by omega, q⟩
    · exact Or.inr ⟨i, by omega, q⟩
theorem Cd_s {PH : List Ph} {k i : Nat} (c : crs PH i k = 0) (u v : Int) : Cd PH k (i + 1) u v ↔ or1 (Cd PH k i) (sU PH k i) (phS PH i) u v := (Cd_i u v).trans ⟨fun q => q.elim Or.inl (fun q => q.elim (fun q => Or.inr q.2) (fun q => absurd q.1 (by omega))), fun q => q.elim Or.inl (fun q => Or.inr (Or.inl ⟨c, q⟩))⟩
theorem Cd_m {PH : List Ph} {k i : Nat} (c : 0 < crs PH i k) (u v : Int) : Cd PH k (i + 1) u v ↔ CdK PH k i PH.length u v := (Cd_i u v).trans ⟨fun q => q.elim Or.inl (fun q => q.elim (fun q => absurd q.1 (by omega)) (fun q => Or.inr q.2)), fun q => q.elim Or.inl (fun q => Or.inr (Or.inr ⟨c, q⟩))⟩
theorem Cd_n {PH : List Ph} {k i : Nat} (c : crs PH i k < 0) (u v : Int) : Cd PH k (i + 1) u v ↔ Cd PH k i u v := (Cd_i u v).trans ⟨fun q => q.elim id (fun q => q.elim (fun q => absurd q.1 (by omega)) (fun q => absurd q.1 (by omega))), Or.inl⟩
theorem n53 : (53 : Nat) ∉ [50] := by decide
theorem sp_weighMix {h : MH} {f : (Nat → Nat → Int32)} {l0 l : (Nat → Nat → Int64)} {PH : List Ph} {k i : Nat} (ok : okPh PH) (ph : PhA f l0 51 52 53 50 3 PH) (hk : k < PH.length) (hi : i < PH.length) (c : 0 < crs PH i k) (st : St5 50 4 5 (Cd PH k i) l0 l) :
    SpV k_Phases_weighMixtures [.ref 50, .int (nI k), .int (nI i)] (sil h f l) (fun g => ∃ l', g = sil h f l' ∧ St5 50 4 5 (Cd PH k (i + 1)) l0 l') := by
  have hl := ok.1
  refine v_Phases_weighMixtures _ _ _ _ _ ?_
  have go : ∀ d j (l : (Nat → Nat → Int64)), PH.length - j = d → j ≤ PH.length → St5 50 4 5 (CdK PH k i j) l0 l →
      WM k_Phases_weighMixtures p_Phases_weighMixtures_1 [.ref 50, .int (nI k), .int (nI i), .int (nI j), Jv, Jv] [] (sil h f l) 0 0 (fun _ g => ∃ l', g = sil h f l' ∧ St5 50 4 5 (Cd PH k (i + 1)) l0 l') := by
    intro d
    induction d with
    | zero =>
      intro j l hd hj st
      have e : j = PH.length := by omega
      subst e
      refine v_Phases_weighMixtures_1 _ _ _ _ _ _ ⟨K50, ?_⟩
      rw [mi_sil, ph.1]
      exact ⟨fun q => absurd q (by omega), fun _ => ⟨l, rfl, st.ext (Cd_m c)⟩⟩
    | succ d ih =>
      intro j l hd hj st
      have hj' : j < PH.length := by omega
      have pl : PhA f l 51 52 53 50 3 PH := ph.fr st.1 n53
      refine v_Phases_weighMixtures_1 _ _ _ _ _ _ ⟨K50, ?_⟩
      rw [mi_sil, ph.1, nI_toI (by omega), nI_toI (by omega)]
      refine ⟨fun _ => SpL.mono (sp_Phases_cross ok pl hk hj') ?_, fun q => absurd (by omega) q⟩
      rintro _ g ⟨eg, rfl⟩
      subst g
      have b1 := crs_ab ok hk hj'
      rw [lc_gt, zL_toI (by omega) (by omega), show (0 : Int64).toInt = 0 from rfl, nI_1]
      refine ⟨fun c2 => ⟨K50, SpL.mono (sp_Phases_cross ok pl hi hj') ?_⟩, fun c2 => ih (j + 1) l (by omega) (by omega) (st.ext (CdK_n c2))⟩
      rintro _ g ⟨eg, rfl⟩
      subst g
      rw [R50_2, ml_sil, ix_nI (a := k) (by omega), ix_nI (a := i) (by omega), (pl.2 k hk).2.2, (pl.2 i hi).2.2, L53]
      refine ⟨K50, K53, InB_nI (by omega) (by omega), InB_nI (by omega) (by omega), SpL.mono (sp_Phases_cross ok pl hk hj') ?_⟩
      rintro _ g ⟨eg, rfl⟩
      subst g
      rw [R50_2, ml_sil, ix_nI (a := j) (by omega), (pl.2 j hj').2.2, L53]
      refine ⟨K50, K53, InB_nI (by omega) (by omega), SpL.mono (sp_Phases_cross ok pl hi hk) ?_⟩
      rintro _ g ⟨eg, rfl⟩
      subst g
      rw [zL_mul, zL_mul, zL_mul, zL_sub, zL_sub]
      have p := crs_pos ok hi hj' hk c c2
      refine ⟨K50, SpV.mono (sp_Phases_offer (CdK.b ok hk hi c (by omega)) st (mU_ab ok hk hi hj') ⟨p, (crs_ab ok hi hj').2⟩) ?_⟩
      rintro _ ⟨l', rfl, st'⟩
      exact ih (j + 1) l' (by omega) (by omega) (st'.ext (CdK_y c2))
  exact go _ 0 l rfl (by omega) (st.ext CdK_0)
/-- what weighing leaves -/
def Wg (o p q : Nat) (C : CdT) (s : Int) (l0 l : (Nat → Nat → Int64)) : Prop := Fr [o] l0 l ∧ (∀ j, j ≠ p → j ≠ q → l o j = l0 o j) ∧ ∃ x y, AbF C s x y ∧ l o p = zL x ∧ l o q = zL y
theorem sp_weigh {h : MH} {f : (Nat → Nat → Int32)} {l0 : (Nat → Nat → Int64)} {PH : List Ph} {k : Nat} (ok : okPh PH) (ph : PhA f l0 51 52 53 50 3 PH) (hk : k < PH.length) :
    SpV k_Phases_weigh [.ref 50, .int (nI k)] (sil h f l0) (fun g => ∃ l', g = sil h f l' ∧ Wg 50 4 5 (Cd PH k PH.length) (phS PH k) l0 l') := by
  have hl := ok.1
  have me : 50 ∈ [50] := List.mem_cons_self
  have bS := phS_ab ok hk
  refine v_Phases_weigh _ _ _ _ ⟨K50, ?_⟩
  rintro _ rfl
  rintro _ rfl
  rw [wl_sil, wl_sil]
  have go : ∀ d i (l : (Nat → Nat → Int64)), PH.length - i = d → i ≤ PH.length → St5 50 4 5 (Cd PH k i) l0 l →
      WM k_Phases_weigh p_Phases_weigh_1 [.ref 50, .int (nI k), .int (nI i), Jv, Jv, Jv, Jv, Jv, Jv] [] (sil h f l) 0 0 (fun _ g => ∃ l', g = sil h f l' ∧ Wg 50 4 5 (Cd PH k PH.length) (phS PH k) l0 l') := by
    intro d
    induction d with
    | zero =>
      intro i l hd hi st
      have e : i = PH.length := by omega
      subst e
      have pl : PhA f l 51 52 53 50 3 PH := ph.fr st.1 n53
      obtain ⟨s1, s2, U, L, s3, s4, s5⟩ := st
      obtain ⟨bL, bU⟩ := Cd.b ok hk (Nat.le_refl _) U L s5.2.1
      have u0 := s5.nn (Or.inl ⟨rfl, rfl⟩)
      have u1 := bU.hi
      refine v_Phases_weigh_1 _ _ _ _ _ ⟨K50, ?_⟩
      rw [mi_sil, ph.1]
      refine ⟨fun q => absurd q (by omega), fun _ => ?_⟩
      rw [R50_0, R50_1, ix_nI (by omega), (ph.2 k hk).1, (ph.2 k hk).2.1, ml_sil, s4, zI_add, show phP PH k + phQ PH k = phS PH k from rfl, i2l_zI (by omega) (by omega), zL_mul, L51, L52]
      refine ⟨K51, InB_nI (by omega) (by omega), K52, InB_nI (by omega) (by omega), ?_⟩
      rintro _ rfl
      obtain ⟨U', rfl⟩ := Int.eq_ofNat_of_zero_le u0
      obtain ⟨L', rfl⟩ := Int.eq_ofNat_of_zero_le (show 0 ≤ L by omega)
      obtain ⟨S, eS⟩ := Int.eq_ofNat_of_zero_le (show 0 ≤ phS PH k by omega)
      have eS' : (S : Int) = phS PH k := eS.symm
      have eLS : (L' : Int) * phS PH k = ((L' * S : Nat) : Int) := by rw [eS]; rfl
      have hLS : L' * S ≤ 9801 * 198 := Nat.mul_le_mul (by omega) (by omega)
      have hLS0 : 0 < L' * S := Nat.mul_pos (by omega) (by omega)
      rw [wl_sil, ml_sil, up2_ni (by decide), s3, up2_s, eLS]
      refine SpL.mono (c_commonB (by omega) hLS0 (by omega)) ?_
      rintro _ g ⟨eg, rfl⟩
      subst g
      have gp : 0 < Nat.gcd U' (L' * S) := Nat.gcd_pos_of_pos_right _ hLS0
      have gl : Nat.gcd U' (L' * S) ≤ L' * S := Nat.le_of_dvd hLS0 (Nat.gcd_dvd_right _ _)
      refine ⟨K50, fun q => ?_, ?_⟩
      · rw [zB_ne (by omega)] at q
        omega
      rintro _ rfl
      rintro _ rfl
      rw [ml_sil, up2_ni (by decide), s3, wl_sil, ml_sil, up2_ni (by decide), up2_s, wl_sil, div_zB (by omega) gp (by omega), div_zB (by omega) gp (by omega)]
      refine ⟨_, rfl, ((s1.up me).up me).up me, fun j j1 j2 => by rw [up2_ni j2, up2_ni j1, up2_ni j2]; exact s2 j j1 j2, _, _, ⟨U', L', S, s5, eS', rfl, rfl⟩, ?_, ?_⟩
      · rw [up2_ni (by decide), up2_s]
      · rw [up2_s]
    | succ d ih =>
      intro i l hd hi st
      have hi' : i < PH.length := by omega
      have pl : PhA f l 51 52 53 50 3 PH := ph.fr st.1 n53
      have next : ∀ l', St5 50 4 5 (Cd PH k (i + 1)) l0 l' → WM k_Phases_weigh p_Phases_weigh_2 [.ref 50, .int (nI k), .int (nI i), Jv, Jv, Jv, Jv, Jv, Jv] [] (sil h f l') 0 0 (fun _ g => ∃ l', g = sil h f l' ∧ Wg 50 4 5 (Cd PH k PH.length) (phS PH k) l0 l') := fun l' st' => by
        refine v_Phases_weigh_2 _ _ _ _ _ ?_
        rw [nI_1]
        exact ih (i + 1) l' (by omega) (by omega) st'
      refine v_Phases_weigh_1 _ _ _ _ _ ⟨K50, ?_⟩
      rw [mi_sil, ph.1, nI_toI (by omega), nI_toI (by omega)]
      refine ⟨fun _ => SpL.mono (sp_Phases_cross ok pl hi' hk) ?_, fun q => absurd (by omega) q⟩
      rintro _ g ⟨eg, rfl⟩
      subst g
      have b1 := crs_ab ok hi' hk
      rw [lc_gt, zL_toI (by omega) (by omega), show (0 : Int64).toInt = 0 from rfl]
      refine ⟨fun c => ?_, fun c => ⟨fun c2 => ⟨K50, SpV.mono (sp_weighMix ok ph hk hi' c2 st) ?_⟩, fun c2 => next l (st.ext (Cd_n ?_))⟩⟩
      · have c' : crs PH i k = 0 := by
          have := (lc_eq _ _).mp c
          rw [show (0 : Int64) = zL 0 from rfl, zL_inj (by omega) (by omega) (by omega) (by omega)] at this
          exact this
        have bI := phS_ab ok hi'
        rw [R50_0, R50_1, R50_2, mi_sil, ml_sil, ix_nI (a := k) (by omega), ix_nI (a := i) (by omega), (ph.2 k hk).1, (ph.2 k hk).2.1, (ph.2 i hi').1, (ph.2 i hi').2.1, (pl.2 k hk).2.2, (pl.2 i hi').2.2, zI_add, zI_add, show phP PH k + phQ PH k = phS PH k from rfl, show phP PH i + phQ PH i = phS PH i from rfl, i2l_zI (by omega) (by omega), i2l_zI (by omega) (by omega), zL_mul, zL_mul, zL_sub, L51, L52, L53]
        refine ⟨K50, K51, InB_nI (by omega) (by omega), K52, InB_nI (by omega) (by omega), InB_nI (by omega) (by omega), InB_nI (by omega) (by omega), K53, InB_nI (by omega) (by omega), InB_nI (by omega) (by omega), SpV.mono (sp_Phases_offer (u := sU PH k i) (Cd.b ok hk (by omega)) st (sU_ab ok hk hi') ⟨by omega, by omega⟩) ?_⟩
        rintro _ ⟨l', rfl, st'⟩
        exact next l' (st'.ext (Cd_s c'))
      · rintro _ ⟨l', rfl, st'⟩
        exact next l' st'
      · have : ¬ crs PH i k = 0 := fun e => c (by rw [e]; exact (lc_eq _ _).mpr rfl)
        omega
  refine go _ 0 _ rfl (by omega) ⟨(Fr.refl.up me).up me, fun j j1 j2 => by rw [up2_ni j2, up2_ni j1], 0, 1, by rw [up2_ni (by decide), up2_s]; rfl, by rw [up2_s]; rfl, by decide, Or.inl ⟨rfl, rfl⟩, fun u v q => ?_⟩
  rcases q with ⟨rfl, rfl⟩ | ⟨i, hi, _⟩
  · decide
  · exact absurd hi (Nat.not_lt_zero i)
