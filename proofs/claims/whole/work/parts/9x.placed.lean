/-! placed -/
def plG (MS : List Mdl) (x y : Int32) (m i : Nat) : Prop := m < MS.length ∧ i < (MS.getD m zM).2.2.2.length ∧ x = nI m ∧ y = nI i
def plV (P : List Pl) (i : Nat) (w r : Int32) : Prop := (w = 0 ∧ r = nI (P.getD i zp).1) ∨ (w = 1 ∧ r = zI (P.getD i zp).2.1) ∨ (w = 2 ∧ r = nI (P.getD i zp).2.2) ∨ (w ≠ 0 ∧ w ≠ 1 ∧ w ≠ 2 ∧ r = -1)
def PlcA (MS : List Mdl) (x y w r : Int32) : Prop := (∃ m i, plG MS x y m i ∧ plV (MS.getD m zM).2.2.2 i w r) ∨ ((¬ ∃ m i, plG MS x y m i) ∧ r = -1)
def okMS (ng nc : Nat) (MS : List Mdl) : Prop := ∀ j, j < MS.length → okM ng nc (MS.getD j zM)
theorem okMS.len {ng nc m : Nat} {MS : List Mdl} (h : okMS ng nc MS) (hm : m < MS.length) : (MS.getD m zM).2.2.2.length ≤ 300 := (h m hm).2.2.2.1
theorem plG.fn {ng nc : Nat} {MS : List Mdl} {x y : Int32} {m i m' i' : Nat} (hl : MS.length ≤ 20) (ok : okMS ng nc MS) (h : plG MS x y m i) (h' : plG MS x y m' i') : m = m' ∧ i = i' := by
  obtain ⟨a1, a2, a3, a4⟩ := h
  obtain ⟨b1, b2, b3, b4⟩ := h'
  have e1 : m = m' := (nI_inj (by omega) (by omega)).mp (a3.symm.trans b3)
  subst e1
  have := ok.len a1
  exact ⟨rfl, (nI_inj (by omega) (by omega)).mp (a4.symm.trans b4)⟩
theorem plV.fn {P : List Pl} {i : Nat} {w r r' : Int32} (h : plV P i w r) (h' : plV P i w r') : r = r' := by
  rcases h with ⟨a, b⟩ | ⟨a, b⟩ | ⟨a, b⟩ | ⟨a, b, c, d⟩ <;> rcases h' with ⟨a', b'⟩ | ⟨a', b'⟩ | ⟨a', b'⟩ | ⟨a', b', c', d'⟩
  all_goals first
    | (rw [b, b']; done)
    | (rw [d, d']; done)
    | (rw [a] at a'; exact absurd a' (by decide))
    | exact absurd a' a
    | exact absurd a' b
    | exact absurd a' c
    | exact absurd a a'
    | exact absurd a b'
    | exact absurd a c'
theorem PlcA.fn {ng nc : Nat} {MS : List Mdl} {x y w r r' : Int32} (hl : MS.length ≤ 20) (ok : okMS ng nc MS) (h : PlcA MS x y w r) (h' : PlcA MS x y w r') : r = r' := by
  rcases h with ⟨m, i, g, v⟩ | ⟨n, e⟩ <;> rcases h' with ⟨m', i', g', v'⟩ | ⟨n', e'⟩
  · obtain ⟨rfl, rfl⟩ := g.fn hl ok g'
    exact v.fn v'
  · exact absurd ⟨m, i, g⟩ n'
  · exact absurd ⟨m', i', g'⟩ n
  · rw [e, e']
theorem pl_no1 {MS : List Mdl} {x y : Int32} (hl : MS.length ≤ 20) (q : ¬ (0 ≤ x.toInt ∧ x.toInt < MS.length)) : ¬ ∃ m i, plG MS x y m i := fun ⟨m, i, a1, a2, a3, a4⟩ => q (by rw [a3, nI_toI (by omega)]; omega)
theorem pl_no2 {ng nc m : Nat} {MS : List Mdl} {y : Int32} (hl : MS.length ≤ 20) (ok : okMS ng nc MS) (hm : m < MS.length) (q : ¬ (0 ≤ y.toInt ∧ y.toInt < (MS.getD m zM).2.2.2.length)) : ¬ ∃ m' i, plG MS (nI m) y m' i := fun ⟨m', i, a1, a2, a3, a4⟩ => by
  have e1 : m = m' := (nI_inj (by omega) (by omega)).mp a3
  subst e1
  have := ok.len hm
  exact q (by rw [a4, nI_toI (by omega)]; omega)
theorem sp_Model_holds {k : MH} {x a b n : Nat} (mk : MdK k x a b) (c4 : mi k x 4 = nI n) (hl : n ≤ 300) (y : Int32) : SpI k_Model_holds [.ref x, .int y] k (fun r g => g = k ∧ ((∃ i, i < n ∧ y = nI i ∧ r = 1) ∨ (¬ (0 ≤ y.toInt ∧ y.toInt < n) ∧ r = 0))) := by
  refine v_Model_holds _ _ _ _ ?_
  rw [c4, nI_toI (by omega)]
  refine ⟨fun c => ⟨_, rfl, rfl, Or.inr ⟨fun q => by omega, rfl⟩⟩, fun c1 => ⟨mk.1.1, fun c2 => ?_, fun c => ⟨_, rfl, rfl, Or.inr ⟨fun q => by omega, rfl⟩⟩⟩⟩
  obtain ⟨i, rfl, hi⟩ := op_x c1 c2 (by omega)
  exact ⟨_, rfl, rfl, Or.inl ⟨i, hi, rfl, rfl⟩⟩
theorem sp_Model_weightOf {k : MH} {x a b t i : Nat} {P : List Pl} (mk : MdK k x a b) (ma : MdA k x t P) (ok : okP t P) (ht : t ≤ 30) (hi : i < P.length) : SpI k_Model_weightOf [.ref x, .int (nI i)] k (fun r g => g = k ∧ r = zI (P.getD i zp).2.1) := by
  obtain ⟨_, _, _, p4, p5⟩ := ma.2.2.1 i hi
  have hl := ok.1
  have o := (ok.2.1 _ (pD_mem hi)).2.2.2
  refine v_Model_weightOf _ _ _ _ ⟨mk.1.1, ?_⟩
  rw [mk.1.2.2.2.2.1, mk.1.2.2.2.2.2.1, ix_nI (by omega), p4, ix_nI (by omega), p5, mk.2.2.1.2, mk.2.2.2.1.2]
  exact ⟨mk.2.2.1.1, InB_nI (by omega) (by omega), mk.2.2.2.1.1, InB_nI (by omega) (by omega), _, rfl, rfl, rfl⟩
theorem sp_Model_placeOf {k : MH} {x a b t i : Nat} {P : List Pl} (mk : MdK k x a b) (ma : MdA k x t P) (ok : okP t P) (hi : i < P.length) : SpI k_Model_placeOf [.ref x, .int (nI i)] k (fun r g => g = k ∧ r = nI (P.getD i zp).1) := by
  obtain ⟨p1, p2, p3, _, _⟩ := ma.2.2.1 i hi
  have hl := ok.1
  have hp := (ok.2.1 _ (pD_mem hi)).1
  have t3 : (3 : Int32) = nI 3 := rfl
  have t2 : (2 : Int32) = nI 2 := rfl
  have t24 : (24 : Int32) = nI 24 := rfl
  refine v_Model_placeOf _ _ _ _ ⟨mk.1.1, ?_⟩
  rw [mk.1.2.2.2.1, t3, nI_mul, nI_1, t2, nI_add, ix_nI (by omega), ix_nI (by omega), ix_nI (by omega), p1, p2, p3, mk.2.1.2, t24, nI_mul, nI_add, nI_mul, nI_add]
  refine ⟨mk.2.1.1, InB_nI (by omega) (by omega), InB_nI (by omega) (by omega), InB_nI (by omega) (by omega), _, rfl, rfl, ?_⟩
  congr 1
  omega
theorem HMdl.ok {h : MH} {O : Nat → Nat} {ng : Nat} {CS : List S6} {MS : List Mdl} (hm : HMdl h O ng CS MS) : okMS ng CS.length MS := fun j hj => (hm.2.2 j hj).1
theorem sp_Ho_placed {h : MH} {O : Nat → Nat} {ng : Nat} {CS : List S6} {MS : List Mdl} (H : SS h) (hm : HMdl h O ng CS MS) (x y w : Int32) : SpI k_Ho_placed [.ref 5, .int x, .int y, .int w] h (fun r g => g = h ∧ PlcA MS x y w r) := by
  have hl := hm.1
  refine v_Ho_placed _ _ _ _ _ _ ⟨H.k5, SpR.mono (sp_Ho_modelAt H hm x) ?_⟩
  rintro r1 k ⟨rfl, g1⟩
  rcases g1 with ⟨m, hi, rfl, rfl, r0⟩ | ⟨no, rfl⟩
  rotate_left
  · exact ⟨fun _ => ⟨_, rfl, rfl, Or.inr ⟨pl_no1 hl no, rfl⟩⟩, fun q => absurd rfl q⟩
  obtain ⟨om, ⟨⟨b1, b2, b3⟩, mk, ma, mc⟩⟩ := hm.2.2 m hi
  refine ⟨fun q => absurd q r0, fun _ => ⟨mk.1.1, SpI.mono (sp_Model_holds mk ma.1 om.2.2.2.1 y) ?_⟩⟩
  rintro r g ⟨rfl, ⟨i, hi', rfl, rfl⟩ | ⟨no, rfl⟩⟩
  rotate_left
  · exact ⟨fun _ => ⟨_, rfl, rfl, Or.inr ⟨pl_no2 hl hm.ok hi no, rfl⟩⟩, fun q => absurd rfl q⟩
  have G : plG MS (nI m) (nI i) m i := ⟨hi, hi', rfl, rfl⟩
  have pL := om.2.2.2.1
  refine ⟨fun q => absurd q (by decide), fun _ => ⟨fun c => ⟨mk.1.1, SpI.mono (sp_Model_placeOf mk ma om.2.2.2 hi') ?_⟩, fun c0 => ⟨fun c => ⟨mk.1.1, SpI.mono (sp_Model_weightOf mk ma om.2.2.2 om.2.2.1 hi') ?_⟩, fun c1 => ⟨fun c => ?_, fun c2 => ⟨_, rfl, rfl, Or.inl ⟨m, i, G, Or.inr (Or.inr (Or.inr ⟨c0, c1, c2, rfl⟩))⟩⟩⟩⟩⟩⟩
  · rintro r _ ⟨rfl, rfl⟩
    exact ⟨_, rfl, rfl, Or.inl ⟨m, i, G, Or.inl ⟨c, rfl⟩⟩⟩
  · rintro r _ ⟨rfl, rfl⟩
    exact ⟨_, rfl, rfl, Or.inl ⟨m, i, G, Or.inr (Or.inl ⟨c, rfl⟩)⟩⟩
  · rw [mk.1.2.2.2.2.1, ix_nI (by omega), (ma.2.2.1 i hi').2.2.2.1, mk.2.2.1.2]
    exact ⟨mk.1.1, mk.2.2.1.1, InB_nI (by omega) (by omega), _, rfl, rfl, Or.inl ⟨m, i, G, Or.inr (Or.inr (Or.inl ⟨c, rfl⟩))⟩⟩
theorem sp_Ref_isPlaced {h : MH} {f : (Nat → Nat → Int32)} {l : (Nat → Nat → Int64)} {ng nc : Nat} {MS : List Mdl} (hm : RMdl f MS) (ok : okMS ng nc MS) (x y : Int32) : SpI k_Ref_isPlaced [.ref 54, .int x, .int y] (sil h f l) (fun r g => g = sil h f l ∧ ((∃ m i, plG MS x y m i ∧ r = 1) ∨ ((¬ ∃ m i, plG MS x y m i) ∧ r = 0))) := by
  have hl := hm.1
  refine v_Ref_isPlaced _ _ _ _ _ ⟨K54, SpI.mono (sp_Ref_isModel hm x) ?_⟩
  rintro r1 _ ⟨rfl, ⟨m, hi, rfl, rfl⟩ | ⟨no, rfl⟩⟩
  rotate_left
  · exact ⟨fun _ => ⟨_, rfl, rfl, Or.inr ⟨pl_no1 hl no, rfl⟩⟩, fun q => absurd rfl q⟩
  have pL := ok.len hi
  rw [R54_41, mi_sil, ix_nI (by omega), (hm.2.2.1 m (by omega)).2, nI_toI (by omega)]
  refine ⟨fun q => absurd q (by decide), fun _ => ⟨fun c => ⟨_, rfl, rfl, Or.inr ⟨pl_no2 hl ok hi (fun q => by omega), rfl⟩⟩, fun c1 => ⟨K54, K84, by rw [L84]; exact InB_nI (by omega) (by omega), fun c2 => ?_, fun c => ⟨_, rfl, rfl, Or.inr ⟨pl_no2 hl ok hi (fun q => by omega), rfl⟩⟩⟩⟩⟩
  obtain ⟨i, rfl, hi'⟩ := op_x c1 c2 (by omega)
  exact ⟨_, rfl, rfl, Or.inl ⟨m, i, ⟨hi, hi', rfl, rfl⟩, rfl⟩⟩
theorem sp_Ref_placed {h : MH} {f : (Nat → Nat → Int32)} {l : (Nat → Nat → Int64)} {ng nc : Nat} {MS : List Mdl} (hm : RMdl f MS) (ok : okMS ng nc MS) (x y w : Int32) : SpI k_Ref_placed [.ref 54, .int x, .int y, .int w] (sil h f l) (fun r g => g = sil h f l ∧ PlcA MS x y w r) := by
  have hl := hm.1
  have t3 : (300 : Int32) = nI 300 := rfl
  refine v_Ref_placed _ _ _ _ _ _ ⟨K54, SpI.mono (sp_Ref_isPlaced hm ok x y) ?_⟩
  rintro r1 _ ⟨rfl, ⟨m, i, G, rfl⟩ | ⟨no, rfl⟩⟩
  rotate_left
  · exact ⟨fun _ => ⟨_, rfl, rfl, Or.inr ⟨no, rfl⟩⟩, fun q => absurd rfl q⟩
  obtain ⟨hi, hi', rfl, rfl⟩ := id G
  have pL := ok.len hi
  obtain ⟨p1, p2, p3⟩ := (hm.2.2.2 m hi).2.2 i hi'
  rw [R54_42, R54_43, R54_44, mi_sil, t3, nI_mul, nI_add, ix_nI (by omega), p1, p2, p3]
  have I : InB (nI (300 * m + i)) 6000 := InB_nI (by omega) (by omega)
  exact ⟨fun q => absurd q (by decide), fun _ => ⟨fun c => ⟨K54, K85, by rw [L85]; exact I, _, rfl, rfl, Or.inl ⟨m, i, G, Or.inl ⟨c, rfl⟩⟩⟩, fun c0 => ⟨fun c => ⟨K54, K86, by rw [L86]; exact I, _, rfl, rfl, Or.inl ⟨m, i, G, Or.inr (Or.inl ⟨c, rfl⟩)⟩⟩, fun c1 => ⟨fun c => ⟨K54, K87, by rw [L87]; exact I, _, rfl, rfl, Or.inl ⟨m, i, G, Or.inr (Or.inr (Or.inl ⟨c, rfl⟩))⟩⟩, fun c2 => ⟨_, rfl, rfl, Or.inl ⟨m, i, G, Or.inr (Or.inr (Or.inr ⟨c0, c1, c2, rfl⟩))⟩⟩⟩⟩⟩⟩
