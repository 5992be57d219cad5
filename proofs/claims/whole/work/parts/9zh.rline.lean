/-! lines, line: answers; the reference -/
def LsG (MS : List Mdl) (x y : Int32) (m w : Nat) : Prop := m < MS.length ∧ x = nI m ∧ (1 ≤ w ∧ w ≤ 6) ∧ y = nI w
def LsL (CS : List S6) (MS : List Mdl) (m w : Nat) (L : List Int) : Prop := LinL (CS.getD (MS.getD m zM).2.1 z6) (MS.getD m zM).2.2.2 w 0 (bN w) L
def LnsA (CS : List S6) (MS : List Mdl) (x y r : Int32) : Prop := (∃ m w L, LsG MS x y m w ∧ LsL CS MS m w L ∧ r = nI L.length) ∨ ((¬ ∃ m w, LsG MS x y m w) ∧ r = -1)
def LneG (CS : List S6) (MS : List Mdl) (x y k i : Int32) (m w : Nat) (L : List Int) (k' i' : Nat) : Prop := LsG MS x y m w ∧ LsL CS MS m w L ∧ (k' < L.length ∧ k' < 1000000 ∧ k = nI k') ∧ i' < 6 ∧ i = nI i'
def LneA (CS : List S6) (MS : List Mdl) (x y k i : Int32) (r : Int64) : Prop := (∃ m w L k' i', LneG CS MS x y k i m w L k' i' ∧ r = zL (lnV (CS.getD (MS.getD m zM).2.1 z6) (MS.getD m zM).2.2.2 w 0 (bN w) (L.getD k' 0) i')) ∨ ((¬ ∃ m w L k' i', LneG CS MS x y k i m w L k' i') ∧ r = 0)
theorem LsG.fn {MS : List Mdl} {x y : Int32} {m w m' w' : Nat} (hl : MS.length ≤ 20) (h : LsG MS x y m w) (h' : LsG MS x y m' w') : m = m' ∧ w = w' := by
  obtain ⟨a1, a2, a3, a4⟩ := h
  obtain ⟨b1, b2, b3, b4⟩ := h'
  exact ⟨(nI_inj (by omega) (by omega)).mp (a2.symm.trans b2), (nI_inj (by omega) (by omega)).mp (a4.symm.trans b4)⟩
theorem LnsA.fn {CS : List S6} {MS : List Mdl} {x y r r' : Int32} (hl : MS.length ≤ 20) (h : LnsA CS MS x y r) (h' : LnsA CS MS x y r') : r = r' := by
  rcases h with ⟨m, w, L, g, a, e⟩ | ⟨n, e⟩ <;> rcases h' with ⟨m', w', L', g', a', e'⟩ | ⟨n', e'⟩
  · obtain ⟨rfl, rfl⟩ := g.fn hl g'
    rw [e, e', LinL.fn a a']
  · exact absurd ⟨m, w, g⟩ n'
  · exact absurd ⟨m', w', g'⟩ n
  · rw [e, e']
theorem LneA.fn {CS : List S6} {MS : List Mdl} {x y k i : Int32} {r r' : Int64} (hl : MS.length ≤ 20) (h : LneA CS MS x y k i r) (h' : LneA CS MS x y k i r') : r = r' := by
  rcases h with ⟨m, w, L, k1, i1, g, e⟩ | ⟨n, e⟩ <;> rcases h' with ⟨m', w', L', k2, i2, g', e'⟩ | ⟨n', e'⟩
  · obtain ⟨a1, a2, a3, a4, a5⟩ := g
    obtain ⟨b1, b2, b3, b4, b5⟩ := g'
    obtain ⟨rfl, rfl⟩ := a1.fn hl b1
    have eL := LinL.fn a2 b2
    subst eL
    have ek : k1 = k2 := (nI_inj (by omega) (by omega)).mp (a3.2.2.symm.trans b3.2.2)
    have ei : i1 = i2 := (nI_inj (by omega) (by omega)).mp (a5.symm.trans b5)
    subst ek ei
    rw [e, e']
  · exact absurd ⟨_, _, _, _, _, g⟩ n'
  · exact absurd ⟨_, _, _, _, _, g'⟩ n
  · rw [e, e']
theorem ls_no1 {MS : List Mdl} {x y : Int32} (hl : MS.length ≤ 20) (q : ¬ (0 ≤ x.toInt ∧ x.toInt < MS.length)) : ¬ ∃ m w, LsG MS x y m w := fun ⟨m, w, a1, a2, _⟩ => q (by rw [a2, nI_toI (by omega)]; omega)
theorem ls_no2 {MS : List Mdl} {x y : Int32} (q : ¬ (1 ≤ y.toInt ∧ y.toInt ≤ 6)) : ¬ ∃ m w, LsG MS x y m w := fun ⟨m, w, a1, a2, a3, a4⟩ => q (by rw [a4, nI_toI (by omega)]; omega)
theorem le_no {CS : List S6} {MS : List Mdl} {x y k i : Int32} (q : ¬ ∃ m w, LsG MS x y m w) : ¬ ∃ m w L k' i', LneG CS MS x y k i m w L k' i' := fun ⟨m, w, _, _, _, g, _⟩ => q ⟨m, w, g⟩
theorem le_noi {CS : List S6} {MS : List Mdl} {x y k i : Int32} (q : ¬ (0 ≤ i.toInt ∧ i.toInt ≤ 5)) : ¬ ∃ m w L k' i', LneG CS MS x y k i m w L k' i' := fun ⟨m, w, _, _, i', _, _, _, a, b⟩ => q (by rw [b, nI_toI (by omega)]; omega)
theorem le_nok {CS : List S6} {MS : List Mdl} {x y k i : Int32} (q : k.toInt < 0) : ¬ ∃ m w L k' i', LneG CS MS x y k i m w L k' i' := fun ⟨m, w, _, k', i', _, _, a, _⟩ => by
  rw [a.2.2, nI_toI (by omega)] at q; omega
theorem lnV_1b {s : S6} {P : List Pl} {m a n : Nat} {q : Int} : 0 ≤ lnV s P m a n q 1 ∧ lnV s P m a n q 1 ≤ n := by
  induction n with
  | zero => exact ⟨Int.le_refl _, Int.le_refl _⟩
  | succ n ih =>
    rw [lnV_s (by decide)]
    by_cases c : a ≤ n ∧ lnC P m n ∧ lnQ s m n = q
    · rw [if_pos c, if_pos rfl]; omega
    · rw [if_neg c]; omega
theorem sp_Ref_lines {h : MH} {f : (Nat → Nat → Int32)} {l : (Nat → Nat → Int64)} {ng : Nat} {CS : List S6} {MS : List Mdl} (hm : RMdl f MS) (hc : RCel f l CS) (okc : ∀ j, j < CS.length → okC (CS.getD j z6)) (ok : okMS ng CS.length MS) (rl : RLin f l CS MS) (x y : Int32) :
    SpI k_Ref_lines [.ref 54, .int x, .int y] (sil h f l) (fun r g => LnsA CS MS x y r ∧ ((∃ m w, (m < MS.length ∧ 1 ≤ w ∧ w ≤ 6) ∧ GlP h f l CS MS m w g) ∨ g = sil h f l)) := by
  have hl := hm.1
  have t1 : (1 : Int32).toInt = 1 := rfl
  have t6 : (6 : Int32).toInt = 6 := rfl
  refine v_Ref_lines _ _ _ _ _ ⟨K54, SpI.mono (sp_Ref_isModel hm x) ?_⟩
  rintro r1 _ ⟨rfl, ⟨m, hi, rfl, rfl⟩ | ⟨no, rfl⟩⟩
  rotate_left
  · exact ⟨fun _ => ⟨_, rfl, Or.inr ⟨ls_no1 hl no, rfl⟩, Or.inr rfl⟩, fun q => absurd rfl q⟩
  rw [t1, t6]
  refine ⟨fun q => absurd q (by decide), fun _ => ⟨fun c => ⟨_, rfl, Or.inr ⟨ls_no2 (fun q => by omega), rfl⟩, Or.inr rfl⟩, fun c1 => ⟨fun c => ⟨_, rfl, Or.inr ⟨ls_no2 (fun q => by omega), rfl⟩, Or.inr rfl⟩, fun c2 => ⟨K54, ?_⟩⟩⟩⟩
  obtain ⟨w, rfl, hw⟩ := op_x (n := 7) (show ¬ y.toInt < 0 by omega) (by omega) (by omega)
  rw [nI_toI (by omega)] at c1 c2
  refine SpV.mono (sp_Ref_gatherLines hm hc okc ok rl hi (by omega) (by omega)) ?_
  rintro g G
  have G' := G
  obtain ⟨f', l', rfl, _, _, _, _, _, L, ll, lb, e50, _⟩ := G
  rw [mi_sil, e50]
  exact ⟨K54, _, rfl, Or.inl ⟨m, w, L, ⟨hi, rfl, ⟨by omega, by omega⟩, rfl⟩, ll, rfl⟩, Or.inl ⟨m, w, ⟨hi, by omega, by omega⟩, G'⟩⟩
theorem sp_Ref_line {h : MH} {f : (Nat → Nat → Int32)} {l : (Nat → Nat → Int64)} {ng : Nat} {CS : List S6} {MS : List Mdl} (hm : RMdl f MS) (hc : RCel f l CS) (okc : ∀ j, j < CS.length → okC (CS.getD j z6)) (ok : okMS ng CS.length MS) (rl : RLin f l CS MS) (x y k i : Int32) :
    SpL k_Ref_line [.ref 54, .int x, .int y, .int k, .int i] (sil h f l) (fun r g => LneA CS MS x y k i r ∧ ((∃ m w, (m < MS.length ∧ 1 ≤ w ∧ w ≤ 6) ∧ GlP h f l CS MS m w g) ∨ g = sil h f l)) := by
  have hl := hm.1
  have t1 : (1 : Int32).toInt = 1 := rfl
  have t5 : (5 : Int32).toInt = 5 := rfl
  have t6 : (6 : Int32).toInt = 6 := rfl
  refine v_Ref_line _ _ _ _ _ _ _ ⟨K54, SpI.mono (sp_Ref_isModel hm x) ?_⟩
  rintro r1 _ ⟨rfl, ⟨m, hi, rfl, rfl⟩ | ⟨no, rfl⟩⟩
  rotate_left
  · exact ⟨fun _ => ⟨_, rfl, Or.inr ⟨le_no (ls_no1 hl no), rfl⟩, Or.inr rfl⟩, fun q => absurd rfl q⟩
  rw [t1, t5, t6]
  refine ⟨fun q => absurd q (by decide), fun _ => ⟨fun c => ⟨_, rfl, Or.inr ⟨le_no (ls_no2 (fun q => by omega)), rfl⟩, Or.inr rfl⟩, fun c1 => ⟨fun c => ⟨_, rfl, Or.inr ⟨le_no (ls_no2 (fun q => by omega)), rfl⟩, Or.inr rfl⟩, fun c2 => ⟨fun c => ⟨_, rfl, Or.inr ⟨le_noi (fun q => by omega), rfl⟩, Or.inr rfl⟩, fun c3 => ⟨fun c => ⟨_, rfl, Or.inr ⟨le_noi (fun q => by omega), rfl⟩, Or.inr rfl⟩, fun c4 => ⟨fun c => ⟨_, rfl, Or.inr ⟨le_nok c, rfl⟩, Or.inr rfl⟩, fun c5 => ⟨K54, ?_⟩⟩⟩⟩⟩⟩⟩
  obtain ⟨w, rfl, hw⟩ := op_x (n := 7) (show ¬ y.toInt < 0 by omega) (by omega) (by omega)
  obtain ⟨i', rfl, hi'⟩ := op_x (n := 6) c3 (by omega) (by omega)
  rw [nI_toI (by omega)] at c1 c2
  refine SpV.mono (sp_Ref_gatherLines hm hc okc ok rl hi (by omega) (by omega)) ?_
  rintro g G
  have G' := G
  obtain ⟨f', l', rfl, _, _, _, _, _, L, ll, lb, e50, rln⟩ := G
  have lg : LsG MS (nI m) (nI w) m w := ⟨hi, rfl, ⟨by omega, by omega⟩, rfl⟩
  have gg : (∃ m w, (m < MS.length ∧ 1 ≤ w ∧ w ≤ 6) ∧ GlP h f l CS MS m w (sil h f' l')) ∨ sil h f' l' = sil h f l := Or.inl ⟨m, w, ⟨hi, by omega, by omega⟩, G'⟩
  rw [mi_sil, e50, nI_toI (by omega)]
  refine ⟨K54, fun c6 => ?_, fun c6 => ⟨_, rfl, Or.inr ⟨fun ⟨m', w', L', k', i2, a1, a2, a3, a4, a5⟩ => c6 ?_, rfl⟩, gg⟩⟩
  rotate_left
  · obtain ⟨e1, e2⟩ := lg.fn hl a1
    subst e1 e2
    have eL := LinL.fn ll a2
    subst eL
    rw [a3.2.2, nI_toI (by omega)]
    omega
  obtain ⟨k', rfl, hk⟩ := op_x (n := L.length) c5 (by omega) (by omega)
  obtain ⟨r1, r2, r3⟩ := rln k' hk
  have lv := lnV_1b (s := CS.getD (MS.getD m zM).2.1 z6) (P := (MS.getD m zM).2.2.2) (m := w) (a := 0) (n := bN w) (q := L.getD k' 0)
  have bl := bN_le (w := w) (by omega)
  have wrap : LneG CS MS (nI m) (nI w) (nI k') (nI i') m w L k' i' := ⟨lg, ll, ⟨hk, by omega, rfl⟩, by omega, rfl⟩
  rw [R54_47, R54_48, R54_49, ix_nI (a := k') (by omega), ml_sil, r1, r2, i2l_zI (by omega) (by omega)]
  refine ⟨fun c => ⟨K89, by rw [L89]; exact InB_nI (by omega) (by omega), ?_⟩, fun c => ⟨fun c' => ⟨K90, by rw [L90]; exact InB_nI (by omega) (by omega), ?_⟩, fun c' => ?_⟩⟩
  · have e : i' = 0 := (nI_inj (x := i') (y := 0) (by omega) (by omega)).mp c
    subst e
    exact ⟨_, rfl, Or.inl ⟨m, w, L, k', 0, wrap, by rw [lnV_0]⟩, gg⟩
  · have e : i' = 1 := (nI_inj (x := i') (y := 1) (by omega) (by omega)).mp c'
    subst e
    exact ⟨_, rfl, Or.inl ⟨m, w, L, k', 1, wrap, rfl⟩, gg⟩
  · have e0 : i' ≠ 0 := fun e => c (by rw [e]; rfl)
    have e1 : i' ≠ 1 := fun e => c' (by rw [e]; rfl)
    have ee : ((4 : Int32) * nI k') + nI i' - (2 : Int32) = nI (4 * k' + (i' - 2)) := by
      rw [show (4 : Int32) = nI 4 from rfl, nI_mul, nI_add, show (2 : Int32) = nI 2 from rfl, nI_sub (by omega)]
      congr 1
      omega
    have r3' := r3 (i' - 2) (by omega)
    rw [show 2 + (i' - 2) = i' by omega] at r3'
    rw [ee, ix_nI (by omega), r3']
    exact ⟨K91, by rw [L91]; exact InB_nI (by omega) (by omega), _, rfl, Or.inl ⟨m, w, L, k', i', wrap, rfl⟩, gg⟩
