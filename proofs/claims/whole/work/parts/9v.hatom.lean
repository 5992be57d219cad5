/-! atom in the class: the whole -/
def adM (M : Mdl) (w : Int) (Z : List Int) : Mdl := (M.1, M.2.1, M.2.2.1 + 1, M.2.2.2 ++ adT M.2.2.1 w Z)
def AtG (GS : List (List Nat)) (MS : List Mdl) (x y z : Int32) (m p : Nat) (Z : List Int) : Prop := (m < MS.length ∧ p < 13824 ∧ x = nI m ∧ z = nI p) ∧ (y ≠ 0 ∧ -99 ≤ y.toInt ∧ y.toInt ≤ 99) ∧ Orb (GS.getD (MS.getD m zM).1 []) p Z ∧ StOk (MS.getD m zM).2.2.1 (MS.getD m zM).2.2.2 Z
theorem AtG.fn {GS : List (List Nat)} {MS : List Mdl} {x y z : Int32} {m p m' p' : Nat} {Z Z' : List Int} (hl : MS.length ≤ 20) (h : AtG GS MS x y z m p Z) (h' : AtG GS MS x y z m' p' Z') : m = m' ∧ p = p' ∧ Z = Z' := by
  obtain ⟨⟨a1, a2, a3, a4⟩, _, a5, _⟩ := h
  obtain ⟨⟨b1, b2, b3, b4⟩, _, b5, _⟩ := h'
  have e1 : m = m' := (nI_inj (by omega) (by omega)).mp (a3.symm.trans b3)
  have e2 : p = p' := (nI_inj (by omega) (by omega)).mp (a4.symm.trans b4)
  subst e1 e2
  exact ⟨rfl, rfl, a5.fn b5⟩
def AtP (h : MH) (O : Nat → Nat) (ng : Nat) (CS : List S6) (MS : List Mdl) (m : Nat) (M : Mdl) (g : MH) : Prop := StpO h g O O [37, 38, 39, 40] (· = 100 + m) ∧ hn g = hn h ∧ HMdl g O ng CS (MS.set m M)
theorem set_len {MS : List Mdl} {m : Nat} {M : Mdl} : (MS.set m M).length = MS.length := List.length_set
theorem set_get {MS : List Mdl} {m j : Nat} {M : Mdl} (hm : m < MS.length) : (MS.set m M).getD j zM = if j = m then M else MS.getD j zM := by
  rw [List.getD_eq_getElem?_getD, List.getD_eq_getElem?_getD, List.getElem?_set]
  by_cases e : j = m
  · subst e; rw [if_pos rfl, if_pos rfl, if_pos hm]; rfl
  · rw [if_neg (fun q => e q.symm), if_neg e]
theorem s4_lt : ∀ y ∈ [37, 38, 39, 40], y < 99 := by decide
def At6 (x : Nat) : List Nat := [x, x + 1, x + 2, x + 3, x + 4, x + 5]
theorem MdC.add {h : MH} {f f' : (Nat → Nat → Int32)} {l : (Nat → Nat → Int64)} {O : Nat → Nat} {t x a b τ : Nat} {s s' : S6} {P P' : List Pl} {A : List Nat} (H : SS h) (mk : MdK h x a b) (m : MdC (sil h f l) O t x τ s P) (fr : Fr A f f') (hA : ∀ y ∈ A, y < 99 ∨ y ∈ At6 x) : MdC (sil h f' l) O t x (τ + 1) s' P' := by
  intro i hi
  have := m i hi
  rw [mr_sil H] at this ⊢
  refine this.imp id ?_
  rintro ⟨q0, τ', q1, ⟨b1, ⟨c1, c2, c3, c4, c5⟩, d1, d2, d3, d4⟩, _⟩
  rw [kd_sil H] at c1 d1 d3
  rw [mi_sil] at c2 c5
  rw [mr_sil H] at c3 c4
  rw [ln_sil H] at d2 d4
  generalize mr h (x + 6) i = y at *
  obtain ⟨⟨k0, _⟩, ⟨k1, _⟩, ⟨k2, _⟩, ⟨k3, _⟩, ⟨k4, _, k5, _⟩, _⟩ := mk
  have ny : y ∉ A := fun q => by
    rcases hA y q with w | w
    · have := b1.1; omega
    · unfold At6 at w
      simp only [List.mem_cons, List.not_mem_nil, or_false] at w
      rcases w with w | w | w | w | w | w
      · rw [w, k0] at c1; omega
      · rw [w, k1] at c1; omega
      · rw [w, k2] at c1; omega
      · rw [w, k3] at c1; omega
      · rw [w, k4] at c1; omega
      · rw [w, k5] at c1; omega
  have e0 := fr y ny
  refine ⟨q0, τ', by omega, ⟨b1, ⟨by rw [kd_sil H]; exact c1, by rw [mi_sil, e0]; exact c2, by rw [mr_sil H]; exact c3, by rw [mr_sil H]; exact c4, by rw [mi_sil, e0]; exact c5⟩, by rw [kd_sil H]; exact d1, by rw [ln_sil H]; exact d2, by rw [kd_sil H]; exact d3, by rw [ln_sil H]; exact d4⟩, fun e => absurd e (by omega)⟩
theorem HMdl.add {h : MH} {f' : (Nat → Nat → Int32)} {O : Nat → Nat} {ng m : Nat} {CS : List S6} {MS : List Mdl} {w : Int} {Z : List Int} (H : SS h) (hm : HMdl h O ng CS MS) (hi : m < MS.length) (fr : Fr ([37, 38, 39, 40] ++ At6 (mr h 44 m)) (mi h) f') (ma : MdA (sil h f' (ml h)) (mr h 44 m) ((MS.getD m zM).2.2.1 + 1) ((MS.getD m zM).2.2.2 ++ adT (MS.getD m zM).2.2.1 w Z)) (st : StOk (MS.getD m zM).2.2.1 (MS.getD m zM).2.2.2 Z) (ok : okP ((MS.getD m zM).2.2.1 + 1) ((MS.getD m zM).2.2.2 ++ adT (MS.getD m zM).2.2.1 w Z)) :
    AtP h O ng CS MS m (adM (MS.getD m zM) w Z) (sil h f' (ml h)) := by
  have h99 := H.1
  have K : Kp ([37, 38, 39, 40] ++ At6 (mr h 44 m)) h (sil h f' (ml h)) := Kp.si3 H fr Fr.refl
  obtain ⟨⟨o1, o2, o3, _⟩, ⟨⟨b1, b2, b3⟩, mk, _, mc⟩⟩ := hm.2.2 m hi
  have own : ∀ a ∈ [37, 38, 39, 40] ++ At6 (mr h 44 m), a ∈ [37, 38, 39, 40] ∨ (99 ≤ a ∧ O a = 100 + m) := fun a ha => by
    rcases List.mem_append.mp ha with q | q
    · exact Or.inl q
    · right
      unfold At6 at q
      simp only [List.mem_cons, List.not_mem_nil, or_false] at q
      rcases q with q | q | q | q | q | q <;> subst q
      · exact ⟨b1, b3 0 (by decide)⟩
      · exact ⟨by omega, b3 1 (by decide)⟩
      · exact ⟨by omega, b3 2 (by decide)⟩
      · exact ⟨by omega, b3 3 (by decide)⟩
      · exact ⟨by omega, b3 4 (by decide)⟩
      · exact ⟨by omega, b3 5 (by decide)⟩
  have n5 : ∀ y, y < 99 → y ∉ [37, 38, 39, 40] → y ∉ [37, 38, 39, 40] ++ At6 (mr h 44 m) := fun y hy n q => by
    rcases own y q with w | w
    · exact n w
    · omega
  refine ⟨⟨_, K, own, fun _ _ => rfl⟩, hn_sil, by rw [set_len]; exact hm.1, ?_, fun j hj => ?_⟩
  · rw [set_len, K.i (by omega) (n5 5 (by decide) (by decide))]; exact hm.2.1
  rw [set_len] at hj
  rw [set_get hi, mr_sil H]
  by_cases e : j = m
  · subst e
    rw [if_pos rfl]
    have mc' : MdC (sil h (mi h) (ml h)) O (100 + j) (mr h 44 j) (MS.getD j zM).2.2.1 (CS.getD (MS.getD j zM).2.1 z6) (MS.getD j zM).2.2.2 := by rw [← H.sil]; exact mc
    exact ⟨⟨o1, o2, by have := st.1; show _ + 1 ≤ 30; omega, ok⟩, ⟨b1, by rw [hn_sil]; exact b2, b3⟩, mk.s H, ma, mc'.add H mk fr (fun y hy => by
      rcases List.mem_append.mp hy with q | q
      · exact Or.inl (s4_lt y q)
      · exact Or.inr q)⟩
  · rw [if_neg e]
    obtain ⟨g1, g2⟩ := hm.2.2 j hj
    refine ⟨g1, g2.kp K (fun a ha => ?_) (fun _ _ => rfl)⟩
    rcases own a ha with q | q
    · exact Or.inl (s4_lt a q)
    · exact Or.inr (by rw [q.2]; omega)
theorem at_no {GS : List (List Nat)} {MS : List Mdl} {x y z : Int32} (hl : MS.length ≤ 20) (q : ¬ (0 ≤ x.toInt ∧ x.toInt < MS.length)) : ¬ ∃ m p Z, AtG GS MS x y z m p Z := fun ⟨m, p, Z, a, _⟩ => q (by rw [a.2.2.1, nI_toI (by omega)]; omega)
theorem sp_Ho_atom {h : MH} {O : Nat → Nat} {GS : List (List Nat)} {CS : List S6} {MS : List Mdl} (H : SS h) (hg : HGrp h O GS) (hm : HMdl h O GS.length CS MS) (x y z : Int32) :
    SpI k_Ho_atom [.ref 5, .int x, .int y, .int z] h (fun r g => (∃ m p Z, AtG GS MS x y z m p Z ∧ r = nI (adM (MS.getD m zM) y.toInt Z).2.2.2.length ∧ AtP h O GS.length CS MS m (adM (MS.getD m zM) y.toInt Z) g) ∨ ((¬ ∃ m p Z, AtG GS MS x y z m p Z) ∧ r = -1 ∧ Kp [37, 38, 39, 40] h g)) := by
  have hl := hm.1
  have h99 := H.1
  have tm : (-99 : Int32).toInt = -99 := rfl
  have tp : (99 : Int32).toInt = 99 := rfl
  have ts : (13824 : Int32).toInt = 13824 := rfl
  refine v_Ho_atom _ _ _ _ _ _ ⟨H.k5, SpR.mono (sp_Ho_modelAt H hm x) ?_⟩
  rintro r1 k ⟨rfl, g1⟩
  rcases g1 with ⟨m, hi, rfl, rfl, r0⟩ | ⟨no, rfl⟩
  rotate_left
  · exact ⟨fun _ => ⟨_, rfl, Or.inr ⟨at_no hl no, rfl, Kp.refl H⟩⟩, fun q => absurd rfl q⟩
  have no : ¬ ((y ≠ 0 ∧ -99 ≤ y.toInt ∧ y.toInt ≤ 99) ∧ 0 ≤ z.toInt ∧ z.toInt < 13824) → ∃ v, Value.int (-1) = .int v ∧ ((∃ m' p Z, AtG GS MS (nI m) y z m' p Z ∧ v = nI (adM (MS.getD m' zM) y.toInt Z).2.2.2.length ∧ AtP k O GS.length CS MS m' (adM (MS.getD m' zM) y.toInt Z) k) ∨ ((¬ ∃ m' p Z, AtG GS MS (nI m) y z m' p Z) ∧ v = -1 ∧ Kp [37, 38, 39, 40] k k)) := fun q =>
    ⟨_, rfl, Or.inr ⟨fun ⟨m', p, Z, a, b, _⟩ => q ⟨b, by rw [a.2.2.2, nI_toI (by have := a.2.1; omega)]; have := a.2.1; omega⟩, rfl, Kp.refl H⟩⟩
  rw [tm, tp, ts]
  refine ⟨fun q => absurd q r0, fun _ => ⟨fun c => no (fun q => q.1.1 c), fun c1 => ⟨fun c => no (fun q => by omega), fun c2 => ⟨fun c => no (fun q => by omega), fun c3 => ⟨fun c => no (fun q => by omega), fun c4 => ⟨fun c5 => ?_, fun c => no (fun q => by omega)⟩⟩⟩⟩⟩⟩
  clear no
  obtain ⟨p, rfl, hp⟩ := op_x (n := 13824) c4 (by omega) (by omega)
  obtain ⟨om, mb⟩ := hm.2.2 m hi
  obtain ⟨⟨b1, b2, b3⟩, mk, ma, mc⟩ := id mb
  obtain ⟨ok, ⟨MK, gb, cl⟩, _⟩ := hg.2.2 _ om.1
  have e0 := H.sil
  have gb0 : GrpB (sil k (mi k) (ml k)) O (MS.getD m zM).1 (mr k 29 (MS.getD m zM).1) (GS.getD (MS.getD m zM).1 []) MK := by rw [← e0]; exact gb
  have go := sp_Ho_gatherOrbit (f := mi k) (l := ml k) H ok gb0 hp
  rw [← e0] at go
  rw [mk.1.2.1]
  refine ⟨mk.1.1, H.k5, SpV.mono go ?_⟩
  clear go gb0
  rintro _ ⟨f1, Z, rfl, fr1, rz, orb, lz⟩
  have K1 : Kp [37, 38, 39, 40] k (sil k f1 (ml k)) := Kp.si3 H fr1 Fr.refl
  have no6 : ∀ j, j < 7 → mr k 44 m + j ∉ [37, 38, 39, 40] := fun j hj q => by
    simp only [List.mem_cons, List.not_mem_nil, or_false] at q
    omega
  have ma1 : MdA (sil k f1 (ml k)) (mr k 44 m) (MS.getD m zM).2.2.1 (MS.getD m zM).2.2.2 := ma.kp mk K1 b2 no6
  have e10 : mr (sil k f1 (ml k)) 5 10 = 39 := K1.1.2.2.2 (5, 10, 39) (by decide)
  rw [e10]
  have ey : y = zI y.toInt := (zI_self y).symm
  have sset := sp_Model_settle (w := y.toInt) H b1 mk ma1 om.2.2.2 om.2.2.1 rz orb.rng lz
  rw [← ey] at sset
  refine ⟨K1.1.k5, (mk.s H).1.1, SpI.mono sset ?_⟩
  rintro r _ (⟨rfl, st, f2, rfl, fr2, ma2⟩ | ⟨rfl, st, rfl⟩)
  · refine ⟨fun q => absurd q (by decide), fun _ => ⟨(mk.s H).1.1, ?_⟩⟩
    rw [ma2.1]
    refine ⟨_, rfl, Or.inl ⟨m, p, Z, ⟨⟨hi, hp, rfl, rfl⟩, ⟨c1, by omega, by omega⟩, orb, st⟩, rfl, ?_⟩⟩
    refine HMdl.add H hm hi ?_ ma2 st (om.2.2.2.add st ⟨by omega, by omega⟩ orb.1 orb.rng)
    exact (fr1.mono (fun a ha => List.mem_append_left _ ha)).trans (fr2.mono (fun a ha => List.mem_append_right _ ha))
  · refine ⟨fun _ => ⟨_, rfl, Or.inr ⟨fun ⟨m', p', Z', a, b, c, d⟩ => st ?_, rfl, K1⟩⟩, fun q => absurd rfl q⟩
    have e1 : m = m' := (nI_inj (by omega) (by have := a.1; omega)).mp a.2.2.1
    subst e1
    have e2 : p = p' := (nI_inj (by omega) (by have := a.2.1; omega)).mp a.2.2.2
    subst e2
    rw [orb.fn c]; exact d
