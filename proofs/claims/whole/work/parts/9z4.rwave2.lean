/-! the reference's wave of a model, amplitude -/
theorem zI_tn {x : Int} (h : 0 ≤ x) : zI x = nI x.toNat := by
  rw [nI_zI]
  congr 1
  omega
theorem tn_fm {p : Nat} {v : V3} (hv : wB v 60) (hp : p < 13824) : irm ((irm (((zI v.1 * nI (p / 576)) + (zI v.2.1 * nI (p / 24 % 24))) + (zI v.2.2 * nI (p % 24))) (24 : Int32)) + (24 : Int32)) (24 : Int32) = nI (tn p v).toNat := by
  have ab := tn_sum hv hp
  have l := ab.lo; have u := ab.hi
  rw [show (24 : Int32) = nI 24 from rfl, zI_mulN, zI_mulN, zI_mulN, zI_add, zI_add, irm_fm (by omega) (by omega) (by decide) (by decide)]
  unfold tn
  rw [zI_tn (by omega)]; rfl
theorem sp_Ref_waveOf {h : MH} {f : (Nat → Nat → Int32)} {l : (Nat → Nat → Int64)} {ng nc m : Nat} {MS : List Mdl} {v : V3} (hm : RMdl f MS) (ok : okMS ng nc MS) (hi : m < MS.length) (hv : wB v 60) :
    SpV k_Ref_waveOf [.ref 54, .int (nI m), .int (zI v.1), .int (zI v.2.1), .int (zI v.2.2)] (sil h f l) (fun g => ∃ l', g = sil h f l' ∧ Fr [88] l l' ∧ Wv12 l' (wv12 (MS.getD m zM).2.2.2 v)) := by
  have hl := hm.1
  have pL := ok.len hi
  obtain ⟨_, _, _, o4⟩ := ok m hi
  have okp := o4.2.1
  have m3 := (hm.2.2.2 m hi).2.2
  have e84 : f 84 m = nI (MS.getD m zM).2.2.2.length := (hm.2.2.1 m (by omega)).2
  generalize (MS.getD m zM).2.2.2 = P at *
  have mm : 88 ∈ [88] := List.mem_cons_self
  have a3 : ∀ q : Nat, ((300 : Int32) * nI m) + nI q = nI (300 * m + q) := fun q => by rw [show (300 : Int32) = nI 300 from rfl, nI_mul, nI_add]
  have d5 : ∀ q : Nat, q < 13824 → nI q / (576 : Int32) = nI (q / 576) := fun q hq => div_nI (d := 576) (by omega) (by decide) (by decide)
  have d2 : ∀ q : Nat, q < 13824 → irm (nI q / (24 : Int32)) (24 : Int32) = nI (q / 24 % 24) := fun q hq => by
    rw [show (24 : Int32) = nI 24 from rfl, div_nI (d := 24) (by omega) (by decide) (by decide), irm_nI (by omega) (by decide) (by decide)]
  have d1 : ∀ q : Nat, q < 13824 → irm (nI q) (24 : Int32) = nI (q % 24) := fun q hq => irm_nI (d := 24) (by omega) (by decide) (by decide)
  -- the sum
  have two : ∀ d i (l1 : (Nat → Nat → Int64)), P.length - i = d → i ≤ P.length → Fr [88] l l1 → Wv12 l1 (wvN P v i) →
      WM k_Ref_waveOf p_Ref_waveOf_2 [.ref 54, .int (nI m), .int (zI v.1), .int (zI v.2.1), .int (zI v.2.2), .int (nI i), Jv, Jv] [] (sil h f l1) 0 0 (fun _ g => ∃ l', g = sil h f l' ∧ Fr [88] l l' ∧ Wv12 l' (wv12 P v)) := by
    intro d
    induction d with
    | zero =>
      intro i l1 hd hi' fr wa
      have : i = P.length := by omega
      subst this
      refine v_Ref_waveOf_2 _ _ _ _ _ _ _ _ ⟨K54, ?_⟩
      rw [R54_41, mi_sil, ix_nI (by omega), e84]
      refine ⟨K84, by rw [L84]; exact InB_nI (by omega) (by omega), fun q => absurd q (by omega), fun _ => SpV.mono (sp_Ref_addSquare (a := 0) wa (Or.inl rfl)) ?_⟩
      rintro _ ⟨l2, rfl, fr2, wa2⟩
      refine ⟨K54, SpV.mono (sp_Ref_addSquare (a := 4) wa2 (Or.inr rfl)) ?_⟩
      rintro _ ⟨l3, rfl, fr3, wa3⟩
      exact ⟨l3, rfl, (fr.trans fr2).trans fr3, wa3.ext wvN_fin⟩
    | succ d ih =>
      intro i l1 hd hi' fr wa
      have il : i < P.length := by omega
      have e1 := (m3 i il).1
      have w1 := (m3 i il).2.1
      have hpi := (okp _ (pD_mem il)).1
      have wi := (okp _ (pD_mem il)).2
      have tl := tn_lt (P.getD i zp).1 v
      refine v_Ref_waveOf_2 _ _ _ _ _ _ _ _ ⟨K54, ?_⟩
      rw [R54_41, R54_42, R54_43, mi_sil, ix_nI (a := m) (by omega), e84, nI_toI (by omega), nI_toI (by omega), a3, ix_nI (a := 300 * m + i) (by omega), e1, w1, d5 _ hpi, d2 _ hpi, d1 _ hpi, tn_fm hv hpi, i2l_zI (by omega) (by omega)]
      refine ⟨K84, by rw [L84]; exact InB_nI (by omega) (by omega), fun _ => ⟨K85, by rw [L85]; exact InB_nI (by omega) (by omega), K86, by rw [L86]; exact InB_nI (by omega) (by omega), SpV.mono (sp_Ref_addCosine (a := 0) wa (Or.inl rfl) tl) ?_⟩, fun q => absurd (by omega) q⟩
      rintro _ ⟨l2, rfl, fr2, wa2⟩
      rw [R54_43, mi_sil, w1, i2l_zI (by omega) (by omega), show (18 : Int32) = nI 18 from rfl, nI_add, show (24 : Int32) = nI 24 from rfl, irm_nI (by omega) (by decide) (by decide)]
      refine ⟨K54, K86, by rw [L86]; exact InB_nI (by omega) (by omega), SpV.mono (sp_Ref_addCosine (a := 4) wa2 (Or.inr rfl) (show ((tn (P.getD i zp).1 v).toNat + 18) % 24 < 24 by omega)) ?_⟩
      rintro _ ⟨l3, rfl, fr3, wa3⟩
      refine v_Ref_waveOf_3 _ _ _ _ _ _ _ _ ?_
      rw [nI_1]
      exact ih (i + 1) l3 (by omega) (by omega) ((fr.trans fr2).trans fr3) (wa3.ext wvN_st)
  -- the clearing
  have t12 : (12 : Int32).toInt = 12 := rfl
  have one : ∀ d i (l1 : (Nat → Nat → Int64)), 12 - i = d → i ≤ 12 → Fr [88] l l1 → (∀ j, j < i → l1 88 j = zL 0) →
      WM k_Ref_waveOf p_Ref_waveOf_1 [.ref 54, .int (nI m), .int (zI v.1), .int (zI v.2.1), .int (zI v.2.2), .int (nI i), Jv, Jv] [] (sil h f l1) 0 0 (fun _ g => ∃ l', g = sil h f l' ∧ Fr [88] l l' ∧ Wv12 l' (wv12 P v)) := by
    intro d
    induction d with
    | zero =>
      intro i l1 hd hi' fr z
      have : i = 12 := by omega
      subst this
      refine v_Ref_waveOf_1 _ _ _ _ _ _ _ _ ⟨fun q => absurd q (by decide), fun _ => two _ 0 l1 rfl (Nat.zero_le _) fr (fun j hj => ?_)⟩
      rw [z j hj]
      congr 1
      unfold wvN
      by_cases a : j < 4
      · rw [if_pos a]; rfl
      · by_cases b : j < 8
        · rw [if_neg a, if_pos b]; rfl
        · rw [if_neg a, if_neg b]
    | succ d ih =>
      intro i l1 hd hi' fr z
      refine v_Ref_waveOf_1 _ _ _ _ _ _ _ _ ⟨fun _ => ⟨K54, ?_⟩, fun q => absurd (by rw [nI_toI (by omega), t12]; omega) q⟩
      rw [R54_46, ix_nI (by omega), nI_1]
      refine ⟨K88, by rw [L88]; exact InB_nI (by omega) (by omega), ?_⟩
      rintro _ rfl
      rw [wl_sil]
      refine ih (i + 1) _ (by omega) (by omega) (fr.up mm) (fun j hj => ?_)
      by_cases e : j = i
      · subst e; rw [up2_s]; rfl
      · rw [up2_ni e]; exact z j (by omega)
  exact v_Ref_waveOf _ _ _ _ _ _ _ (one _ 0 l rfl (Nat.zero_le _) Fr.refl (fun j hj => absurd hj (Nat.not_lt_zero j)))
def AmG (MS : List Mdl) (x a b c w : Int32) (m j : Nat) : Prop := m < MS.length ∧ x = nI m ∧ j < 12 ∧ w = nI j ∧ wB (a.toInt, b.toInt, c.toInt) 60
def AmA (MS : List Mdl) (x a b c w : Int32) (r : Int64) : Prop := (∃ m j, AmG MS x a b c w m j ∧ r = zL (wv12 (MS.getD m zM).2.2.2 (a.toInt, b.toInt, c.toInt) j)) ∨ ((¬ ∃ m j, AmG MS x a b c w m j) ∧ r = 0)
theorem AmA.fn {MS : List Mdl} {x a b c w : Int32} {r r' : Int64} (hl : MS.length ≤ 20) (h : AmA MS x a b c w r) (h' : AmA MS x a b c w r') : r = r' := by
  rcases h with ⟨m, j, g, e⟩ | ⟨n, e⟩ <;> rcases h' with ⟨m', j', g', e'⟩ | ⟨n', e'⟩
  · obtain ⟨a1, a2, a3, a4, _⟩ := g
    obtain ⟨b1, b2, b3, b4, _⟩ := g'
    have e1 : m = m' := (nI_inj (by omega) (by omega)).mp (a2.symm.trans b2)
    have e2 : j = j' := (nI_inj (by omega) (by omega)).mp (a4.symm.trans b4)
    subst e1 e2
    rw [e, e']
  · exact absurd ⟨m, j, g⟩ n'
  · exact absurd ⟨m', j', g'⟩ n
  · rw [e, e']
theorem am_no1 {MS : List Mdl} {x a b c w : Int32} (hl : MS.length ≤ 20) (q : ¬ (0 ≤ x.toInt ∧ x.toInt < MS.length)) : ¬ ∃ m j, AmG MS x a b c w m j := fun ⟨m, p, a1, a2, _⟩ => q (by rw [a2, nI_toI (by omega)]; omega)
theorem am_no2 {MS : List Mdl} {x a b c w : Int32} (q : ¬ (0 ≤ w.toInt ∧ w.toInt ≤ 11)) : ¬ ∃ m j, AmG MS x a b c w m j := fun ⟨m, p, _, _, a3, a4, _⟩ => q (by rw [a4, nI_toI (by omega)]; omega)
theorem sp_Ref_amplitude {h : MH} {f : (Nat → Nat → Int32)} {l : (Nat → Nat → Int64)} {ng nc : Nat} {MS : List Mdl} (hm : RMdl f MS) (ok : okMS ng nc MS) (x a b c w : Int32) :
    SpL k_Ref_amplitude [.ref 54, .int x, .int a, .int b, .int c, .int w] (sil h f l) (fun r g => AmA MS x a b c w r ∧ ∃ l', g = sil h f l' ∧ Fr [88] l l') := by
  have hl := hm.1
  have t11 : (11 : Int32).toInt = 11 := rfl
  refine v_Ref_amplitude _ _ _ _ _ _ _ _ ⟨K54, SpI.mono (sp_Ref_isModel hm x) ?_⟩
  rintro r1 _ ⟨rfl, ⟨m, hi, rfl, rfl⟩ | ⟨no, rfl⟩⟩
  rotate_left
  · exact ⟨fun _ => ⟨_, rfl, Or.inr ⟨am_no1 hl no, rfl⟩, l, rfl, Fr.refl⟩, fun q => absurd rfl q⟩
  refine ⟨fun q => absurd q (by decide), fun _ => SpI.mono (sp_Ref_isWave a b c) ?_⟩
  rintro r2 _ ⟨rfl, ⟨rfl, hv⟩ | ⟨rfl, hv⟩⟩
  rotate_left
  · exact ⟨fun _ => ⟨_, rfl, Or.inr ⟨fun ⟨m, j, _, _, _, _, q⟩ => hv q, rfl⟩, l, rfl, Fr.refl⟩, fun q => absurd rfl q⟩
  rw [t11]
  refine ⟨fun q => absurd q (by decide), fun _ => ⟨fun q => ⟨_, rfl, Or.inr ⟨am_no2 (fun q => by omega), rfl⟩, l, rfl, Fr.refl⟩, fun c1 => ⟨fun q => ⟨_, rfl, Or.inr ⟨am_no2 (fun q => by omega), rfl⟩, l, rfl, Fr.refl⟩, fun c2 => ⟨K54, ?_⟩⟩⟩⟩
  obtain ⟨j, rfl, hj⟩ := op_x (n := 12) c1 (by omega) (by omega)
  have wv := sp_Ref_waveOf (h := h) (l := l) hm ok hi hv
  simp only [zI_self] at wv
  refine SpV.mono wv ?_
  rintro _ ⟨l2, rfl, fr2, wa2⟩
  rw [R54_46, ix_nI (by omega), ml_sil, wa2 j hj]
  exact ⟨K54, K88, by rw [L88]; exact InB_nI (by omega) (by omega), _, rfl, Or.inl ⟨m, j, ⟨hi, rfl, hj, rfl, hv⟩, rfl⟩, l2, rfl, fr2⟩
