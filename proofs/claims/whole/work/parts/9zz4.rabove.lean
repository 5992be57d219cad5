/-! above of the reference: the whole -/
theorem sp_aboveOf {h : MH} {f : (Nat → Nat → Int32)} {l0 : (Nat → Nat → Int64)} {PH : List Ph} {k : Nat} (ok : okPh PH) (ph : PhA f l0 92 93 94 54 56 PH) (hk : k < PH.length) :
    SpV k_Ref_aboveOf [.ref 54, .int (nI k)] (sil h f l0) (fun g => ∃ l', g = sil h f l' ∧ Wg 54 57 58 (Cr PH k PH.length) (phS PH k) l0 l') := by
  have hl := ok.1
  have me : 54 ∈ [54] := List.mem_cons_self
  have bS := phS_ab ok hk
  refine v_Ref_aboveOf _ _ _ _ ⟨K54, SpV.mono (sp_hullOf ok ph hk) ?_⟩
  rintro _ ⟨l, rfl, st⟩
  have pl : PhA f l 92 93 94 54 56 PH := ph.fr st.1 n94
  obtain ⟨s1, s2, U, L, s3, s4, s5⟩ := st
  obtain ⟨bL, bU⟩ := Cr.b ok hk (Nat.le_refl _) U L s5.2.1
  have u0 := s5.nn (Or.inl ⟨rfl, rfl⟩)
  have u1 := bU.hi
  have eU : phE PH k * L - (phE PH k * L - U) = U := by omega
  rw [R54_53, R54_54, R54_55, mi_sil, ml_sil, ix_nI (by omega), (pl.2 k hk).1, (pl.2 k hk).2.1, (pl.2 k hk).2.2, s3, s4, zI_add, show phP PH k + phQ PH k = phS PH k from rfl, i2l_zI (by omega) (by omega), zL_mul, zL_mul, zL_sub, eU, L92, L93, L94]
  refine ⟨K54, K94, InB_nI (by omega) (by omega), K92, InB_nI (by omega) (by omega), K93, InB_nI (by omega) (by omega), ?_⟩
  obtain ⟨U', rfl⟩ := Int.eq_ofNat_of_zero_le u0
  obtain ⟨L', rfl⟩ := Int.eq_ofNat_of_zero_le (show 0 ≤ L by omega)
  obtain ⟨S, eS⟩ := Int.eq_ofNat_of_zero_le (show 0 ≤ phS PH k by omega)
  have eS' : (S : Int) = phS PH k := eS.symm
  have eLS : (L' : Int) * phS PH k = ((L' * S : Nat) : Int) := by rw [eS]; rfl
  have hLS : L' * S ≤ 9801 * 198 := Nat.mul_le_mul (by omega) (by omega)
  have hLS0 : 0 < L' * S := Nat.mul_pos (by omega) (by omega)
  rw [eLS]
  have main : ∀ (d a b : Nat), b ≤ d → 0 < a → a < 4611686018427387904 → b < 4611686018427387904 → Nat.gcd a b = Nat.gcd U' (L' * S) →
      WM k_Ref_aboveOf p_Ref_aboveOf_1 [.ref 54, Jv, .long (zL (U' : Int)), Jv, .long (zL ((L' * S : Nat) : Int)), Jv, .long (zL (a : Int)), Jv, .long (zL (b : Int)), Jv, Jv, Jv] [] (sil h f l) 0 0 (fun _ g => ∃ l', g = sil h f l' ∧ Wg 54 57 58 (Cr PH k PH.length) (phS PH k) l0 l') := by
    intro d
    induction d with
    | zero =>
      intro a b hb h0 ha h1 eg
      have : b = 0 := by omega
      subst this
      rw [Nat.gcd_zero_right] at eg
      refine v_Ref_aboveOf_1 _ _ _ _ _ _ _ ⟨fun _ => ⟨fun q => ?_, K54, ?_⟩, fun w => absurd ((lc_eq _ _).mpr rfl) w⟩
      · rw [zB_ne ha] at q; omega
      rintro _ rfl
      rintro _ rfl
      rw [wl_sil, wl_sil, div_zB (by omega) h0 ha, div_zB (by omega) h0 ha, eg]
      exact ⟨_, rfl, (s1.up me).up me, fun j j1 j2 => by rw [up2_ni j2, up2_ni j1]; exact s2 j j1 j2, _, _, ⟨U', L', S, s5, eS', rfl, rfl⟩, by rw [up2_ni (by decide), up2_s], by rw [up2_s]⟩
    | succ d ih =>
      intro a b hb h0 ha h1 eg
      refine v_Ref_aboveOf_1 _ _ _ _ _ _ _ ⟨fun w => ⟨fun q => ?_, K54, ?_⟩, fun w => ⟨fun q => w ((lc_eq _ _).mpr q), ?_⟩⟩
      · rw [zB_ne ha] at q; omega
      · have e := (lc_eq _ _).mp w
        rw [zB_ne h1] at e
        subst e
        rw [Nat.gcd_zero_right] at eg
        rintro _ rfl
        rintro _ rfl
        rw [wl_sil, wl_sil, div_zB (by omega) h0 ha, div_zB (by omega) h0 ha, eg]
        exact ⟨_, rfl, (s1.up me).up me, fun j j1 j2 => by rw [up2_ni j2, up2_ni j1]; exact s2 j j1 j2, _, _, ⟨U', L', S, s5, eS', rfl, rfl⟩, by rw [up2_ni (by decide), up2_s], by rw [up2_s]⟩
      · have nb : b ≠ 0 := fun q => w ((lc_eq _ _).mpr (by rw [q]; rfl))
        have hlt := Nat.mod_lt a (show 0 < b by omega)
        rw [lrm_zB ha (by omega) h1]
        refine ih b (a % b) (by omega) (by omega) h1 (by omega) ?_
        rw [← eg, Nat.gcd_comm a b, Nat.gcd_rec b a, Nat.gcd_comm]
  exact main U' (L' * S) U' (Nat.le_refl _) hLS0 (by omega) (by omega) (Nat.gcd_comm _ _)
theorem sp_Ref_above {h : MH} {f : (Nat → Nat → Int32)} {l : (Nat → Nat → Int64)} {PH : List Ph} (ok : okPh PH) (ph : PhA f l 92 93 94 54 56 PH) (x y : Int32) :
    SpL k_Ref_above [.ref 54, .int x, .int y] (sil h f l) (fun r g => AbvA (fun k => Cr PH k PH.length) PH x y r ∧ ∃ l', g = sil h f l' ∧ Fr [54] l l' ∧ ∀ j, j ≠ 57 → j ≠ 58 → l' 54 j = l 54 j) := by
  have hl := ok.1
  have hs := stN_le (PH := PH) PH.length
  have rf : ∃ l', sil h f l = sil h f l' ∧ Fr [54] l l' ∧ ∀ j, j ≠ 57 → j ≠ 58 → l' 54 j = l 54 j := ⟨l, rfl, Fr.refl, fun _ _ _ => rfl⟩
  refine v_Ref_above _ _ _ _ _ ?_
  refine ⟨fun c => ?_, fun c0 => ⟨fun c => ⟨_, rfl, Or.inr ⟨c0, Or.inr ⟨ab_no1 hl (fun q => by omega), rfl⟩⟩, rf⟩, fun c1 => ⟨K54, ?_⟩⟩⟩
  · have go : ∀ d k (l' : (Nat → Nat → Int64)), PH.length - k = d → k ≤ PH.length → Fr [54] l l' → (∀ j, j ≠ 57 → j ≠ 58 → l' 54 j = l 54 j) →
        WM k_Ref_above p_Ref_above_1 [.ref 54, Jv, Jv, .long (zL (stN PH k : Nat)), Jv, .int (nI k)] [] (sil h f l') 0 0 (fun v g => ∃ r, v = .long r ∧ AbvA (fun k => Cr PH k PH.length) PH x y r ∧ ∃ l', g = sil h f l' ∧ Fr [54] l l' ∧ ∀ j, j ≠ 57 → j ≠ 58 → l' 54 j = l 54 j) := by
      intro d
      induction d with
      | zero =>
        intro k l' hd hk fr fj
        have e : k = PH.length := by omega
        subst e
        refine v_Ref_above_1 _ _ _ _ _ ⟨K54, ?_⟩
        rw [mi_sil, ph.1]
        exact ⟨fun q => absurd q (by omega), fun _ => ⟨_, rfl, Or.inl ⟨c, rfl⟩, l', rfl, fr, fj⟩⟩
      | succ d ih =>
        intro k l' hd hk fr fj
        have hk' : k < PH.length := by omega
        have pl : PhA f l' 92 93 94 54 56 PH := ph.fr fr n94
        refine v_Ref_above_1 _ _ _ _ _ ⟨K54, ?_⟩
        rw [mi_sil, ph.1, nI_toI (by omega), nI_toI (by omega)]
        refine ⟨fun _ => SpV.mono (sp_aboveOf ok pl hk') ?_, fun q => absurd (by omega) q⟩
        rintro _ ⟨l2, rfl, fr', fj', x', y', ab, ex, ey⟩
        have z := (ab.zero (Cr.b ok hk' (Nat.le_refl _)) (Or.inl ⟨rfl, rfl⟩) (phS_ab ok hk').1).trans (stab_r ok hk')
        have bx : 0 ≤ x' ∧ x' ≤ 4000000000000 := by
          obtain ⟨U, L, S, m1, m2, rfl, rfl⟩ := ab
          have := (Cr.b ok hk' (Nat.le_refl _) _ _ m1.2.1).2.hi
          have hq := Nat.div_le_self U (Nat.gcd U (L * S))
          generalize U / Nat.gcd U (L * S) = q at hq ⊢
          omega
        have e0 : zL (stN PH k : Nat) + (0 : Int64) = zL (stN PH k : Nat) := by rw [show (0 : Int64) = zL 0 from rfl, zL_add, Int.add_zero]
        have e1 : zL (stN PH k : Nat) + (1 : Int64) = zL ((stN PH k + 1 : Nat) : Int) := by rw [show (1 : Int64) = zL 1 from rfl, zL_add]; rfl
        rw [ml_sil, ex, lc_eq, e0, e1, show (0 : Int64) = zL 0 from rfl, zL_inj (by omega) (by omega) (by omega) (by omega), z, nI_1]
        have fj2 : ∀ j, j ≠ 57 → j ≠ 58 → l2 54 j = l 54 j := fun j h1 h2 => (fj' j h1 h2).trans (fj j h1 h2)
        refine ⟨K54, fun c => ?_, fun c => ?_⟩
        · have := ih (k + 1) l2 (by omega) (by omega) (fr.trans fr') fj2
          rw [stN_y c] at this
          exact this
        · have := ih (k + 1) l2 (by omega) (by omega) (fr.trans fr') fj2
          rw [stN_n c] at this
          exact this
    exact go _ 0 l rfl (by omega) Fr.refl (fun _ _ _ => rfl)
  rw [mi_sil, ph.1, nI_toI (by omega)]
  have go2 : ∀ k, k < PH.length → x = nI k → (y = 0 ∨ y = 1) → WM k_Ref_above p_Ref_above_2 [.ref 54, .int x, .int y, Jv, Jv, Jv] [] (sil h f l) 0 0 (fun v g => ∃ r, v = .long r ∧ AbvA (fun k => Cr PH k PH.length) PH x y r ∧ ∃ l', g = sil h f l' ∧ Fr [54] l l' ∧ ∀ j, j ≠ 57 → j ≠ 58 → l' 54 j = l 54 j) := by
    rintro k hk rfl hy
    refine v_Ref_above_2 _ _ _ _ _ ⟨K54, SpV.mono (sp_aboveOf ok ph hk) ?_⟩
    rintro _ ⟨l', rfl, fr', fj', u, v, ab, ex, ey'⟩
    rw [ml_sil, ex, ey']
    exact ⟨fun e => ⟨K54, _, rfl, Or.inr ⟨c0, Or.inl ⟨k, u, v, ⟨hk, rfl, hy⟩, ab, by rw [if_pos e]⟩⟩, l', rfl, fr', fj'⟩, fun e => ⟨K54, _, rfl, Or.inr ⟨c0, Or.inl ⟨k, u, v, ⟨hk, rfl, hy⟩, ab, by rw [if_neg e]⟩⟩, l', rfl, fr', fj'⟩⟩
  refine ⟨fun c2 => ?_, fun c => ⟨_, rfl, Or.inr ⟨c0, Or.inr ⟨ab_no1 hl (fun q => by omega), rfl⟩⟩, rf⟩⟩
  obtain ⟨k, ek, hk⟩ := op_x (n := PH.length) c1 c2 (by omega)
  exact ⟨fun e => go2 k hk ek (Or.inl e), fun e0 => ⟨fun e => go2 k hk ek (Or.inr e), fun e => ⟨_, rfl, Or.inr ⟨c0, Or.inr ⟨ab_no2 (fun q => q.elim e0 e), rfl⟩⟩, rf⟩⟩⟩
