/-! model, atom, lines, line -/
def SmId3 : List Nat := [2, 3, 4, 6, 7, 8, 12, 13, 14, 29, 43, 50, 51, 52, 53]
theorem ClS.mdl {A : List Nat} {h k : MH} {O O' : Nat → Nat} {X : TxS} {OU TD : List Nat} {CH : Nat → Prop} {GS : List (List Nat)} {CS : List S6} {MS' : List Mdl} {PH : List Ph} (H : SS h) (sm : SmC (mi h) (ml h) X OU TD CH PH) (hg : HGrp h O GS) (hc : HCel h O CS) (K : Kp A h k) (hA : ∀ a ∈ A, ((2 ≤ a ∧ a < 54) ∧ a ∉ SmId3) ∨ (99 ≤ a ∧ 100 ≤ O a)) (e5 : ∀ j ∈ [3, 6, 14], mi k 5 j = mi h 5 j) (hO : ∀ a, a < hn h → O' a = O a) (hm : HMdl k O' GS.length CS MS') : ClS k (X, OU, TD, CH, GS, CS, MS', PH) ∧ CK h k := by
  have h99 := H.1
  have no : ∀ a ∈ SmId3, a ∉ A := fun a ha q => by
    rcases hA a q with w | w
    · exact w.2 ha
    · have : ∀ a ∈ SmId3, a < 99 := by decide
      have := this a ha
      omega
  have lt : ∀ a ∈ SmId3, a < hn h := fun a ha => by
    have : ∀ a ∈ SmId3, a < 99 := by decide
    have := this a ha
    omega
  have i : ∀ a ∈ SmId3, mi k a = mi h a := fun a ha => K.i (lt a ha) (no a ha)
  have ne : ∀ b ∈ SmId3, ∀ a ∈ A, a ≠ b := fun b hb a ha e => no b hb (by rw [← e]; exact ha)
  refine ⟨⟨O', sm.fr (e5 3 (by decide)) (fun a ha => i a ?_) (K.l (lt 53 (by decide)) (no 53 (by decide))), hg.kp H K (fun a ha => ?_) (e5 6 (by decide)) hO, hc.kp H K (fun a ha => ?_) (e5 14 (by decide)) hO, hm⟩, CK.kp H K (fun a ha => ?_)⟩
  · have : ∀ a ∈ [2, 3, 4, 6, 7, 8, 12, 13, 14, 50, 51, 52], a ∈ SmId3 := by decide
    exact this a ha
  · rcases hA a ha with w | w
    · exact Or.inl ⟨by omega, ne 29 (by decide) a ha⟩
    · exact Or.inr ⟨w.1, by omega⟩
  · rcases hA a ha with w | w
    · exact Or.inl ⟨by omega, ne 43 (by decide) a ha⟩
    · exact Or.inr ⟨w.1, Or.inr w.2⟩
  · rcases hA a ha with w | w
    · exact Or.inl w.1
    · exact Or.inr w.1
theorem mdl_st {h g : MH} {O O' : Nat → Nat} {X : TxS} {OU TD T : List Nat} {CH : Nat → Prop} {GS : List (List Nat)} {CS : List S6} {MS' : List Mdl} {PH : List Ph} (H : SS h) (sm : SmC (mi h) (ml h) X OU TD CH PH) (hg : HGrp h O GS) (hc : HCel h O CS) (st : StpO h g O O' T (fun t => 100 ≤ t)) (hT : ∀ a ∈ 5 :: SmId3, a ∉ T) (hT2 : ∀ a ∈ T, 2 ≤ a ∧ a < 54) (hm : HMdl g O' GS.length CS MS') : ClS g (X, OU, TD, CH, GS, CS, MS', PH) ∧ CK h g := by
  obtain ⟨A, K, hA, hO⟩ := st
  have h99 := H.1
  refine ClS.mdl H sm hg hc K (fun a ha => (hA a ha).imp (fun w => ⟨hT2 a w, fun q => hT a (List.mem_cons_of_mem _ q) w⟩) id) (fun j _ => ?_) hO hm
  rw [K.i (x := 5) (by omega) (fun q => (hA 5 q).elim (fun w => hT 5 List.mem_cons_self w) (fun w => by omega))]
theorem mSl {MS : List Mdl} {M : Mdl} : (MS ++ [M]).length = MS.length + 1 := by rw [List.length_append]; rfl
theorem mSg {MS : List Mdl} {M : Mdl} {i : Nat} (hi : i < MS.length) : (MS ++ [M]).getD i zM = MS.getD i zM := by
  rw [List.getD_eq_getElem?_getD, List.getD_eq_getElem?_getD, List.getElem?_append_left hi]
theorem RLin.addM {f : (Nat → Nat → Int32)} {l : (Nat → Nat → Int64)} {CS : List S6} {MS : List Mdl} {M : Mdl} (h : RLin f l CS MS) : RLin f l CS (MS ++ [M]) := by
  refine h.imp id ?_
  rintro ⟨m, w, hm, r⟩
  refine ⟨m, w, ⟨by rw [mSl]; omega, hm.2⟩, ?_⟩
  unfold RLAt at *
  rw [mSg hm.1]
  exact r
theorem RLin.set {f : (Nat → Nat → Int32)} {l : (Nat → Nat → Int64)} {CS : List S6} {MS : List Mdl} {M : Mdl} {k : Nat} (hk : k < MS.length) (h : RLin f l CS MS) (ne : f 54 51 ≠ nI k) : RLin f l CS (MS.set k M) := by
  refine h.imp id ?_
  rintro ⟨m, w, hm, r⟩
  have n : m ≠ k := fun e => ne (by rw [← e]; exact r.1)
  refine ⟨m, w, ⟨by rw [set_len]; exact hm.1, hm.2⟩, ?_⟩
  unfold RLAt at *
  rw [set_get hk, if_neg n]
  exact r
/-- the reference: a change of models alone -/
theorem RfS.md {f f' : (Nat → Nat → Int32)} {l l' : (Nat → Nat → Int64)} {X : TxS} {OU TD : List Nat} {CH : Nat → Prop} {GS : List (List Nat)} {CS : List S6} {MS MS' : List Mdl} {PH : List Ph} (r : RfS f l (X, OU, TD, CH, GS, CS, MS, PH)) (e : ∀ j ∈ [1, 9, 10, 11, 14, 17, 32, 35, 36, 37, 56], f' 54 j = f 54 j) (i : ∀ a ∈ [55, 56, 61, 62, 63, 64, 65, 67, 68, 69, 78, 92, 93], f' a = f a) (j : ∀ a ∈ [70, 76, 77, 80, 94], l' a = l a) (m : RMdl f' MS') (n : RLin f' l' CS MS') : RfS f' l' (X, OU, TD, CH, GS, CS, MS', PH) := by
  obtain ⟨⟨r1, r2, r3, r4, r5⟩, ⟨r6, r7⟩, ⟨r8, r9⟩, r10, r11⟩ := r
  exact ⟨⟨r1.fr (i 61 (by decide)) (e 9 (by decide)) (i 62 (by decide)) (e 10 (by decide)) (e 11 (by decide)), r2.fr (e 14 (by decide)) (i 63 (by decide)), r3.fr (e 1 (by decide)) (i 55 (by decide)), r4.fr (i 56 (by decide)), r5.fr2 (e 56 (by decide)) (i 92 (by decide)) (i 93 (by decide)) (j 94 (by decide))⟩, ⟨r6.fr (e 17 (by decide)) (i 64 (by decide)) (i 65 (by decide)), r7.fr (i 67 (by decide)) (i 68 (by decide)) (i 69 (by decide)) (j 70 (by decide))⟩, ⟨r8.fr (e 32 (by decide)) (j 76 (by decide)) (j 77 (by decide)) (i 78 (by decide)), r9.fr (e 35 (by decide)) (e 36 (by decide)) (e 37 (by decide)) (j 80 (by decide))⟩, m, n⟩
def MoQ (s : Sta) (x y r : Int32) (s' : Sta) : Prop := (∃ i j, MoG s.2.2.2.2.1 s.2.2.2.2.2.1 s.2.2.2.2.2.2.1 x y i j ∧ r = nI s.2.2.2.2.2.2.1.length ∧ s' = (s.1, s.2.1, s.2.2.1, s.2.2.2.1, s.2.2.2.2.1, s.2.2.2.2.2.1, s.2.2.2.2.2.2.1 ++ [(i, j, 0, [])], s.2.2.2.2.2.2.2)) ∨ ((¬ ∃ i j, MoG s.2.2.2.2.1 s.2.2.2.2.2.1 s.2.2.2.2.2.2.1 x y i j) ∧ r = -1 ∧ s' = s)
theorem MoQ.fn {s s1 s2 : Sta} {x y r r' : Int32} (hl : s.2.2.2.2.1.length ≤ 60) (hl' : s.2.2.2.2.2.1.length ≤ 40) (h : MoQ s x y r s1) (h' : MoQ s x y r' s2) : r = r' ∧ s1 = s2 := by
  rcases h with ⟨i, j, a, b, c⟩ | ⟨a, b, c⟩ <;> rcases h' with ⟨i', j', a', b', c'⟩ | ⟨a', b', c'⟩
  · obtain ⟨rfl, rfl⟩ := a.fn hl hl' a'
    exact ⟨b.trans b'.symm, c.trans c'.symm⟩
  · exact absurd ⟨i, j, a⟩ a'
  · exact absurd ⟨i', j', a'⟩ a
  · exact ⟨b.trans b'.symm, c.trans c'.symm⟩
theorem q_model : C_model IvW IvW := by
  rintro h a b H ⟨⟨X, OU, TD, CH, GS, CS, MS, PH⟩, pu, cl, rf⟩
  obtain ⟨O, sm, hg, hc, hm⟩ := id cl
  refine pI (Q := fun r s' => MoQ (X, OU, TD, CH, GS, CS, MS, PH) a b r s') (Q' := fun r s' => MoQ (X, OU, TD, CH, GS, CS, MS, PH) a b r s') H rf (SpI.mono (sp_Ho_model H hg hc hm a b) ?_) (fun g hS r => SpI.mono (sp_Ref_model r.2.1.1 hg.ok r.2.2.1.1 hc.ok r.2.2.2.1 a b) ?_) (fun s1 s2 r r' q q' => MoQ.fn hg.1 hc.1 q q') ?_
  · rintro r g (⟨i, j, mg, rfl, O', K, ⟨e5, _⟩, hO, hm'⟩ | ⟨no, rfl, K⟩)
    · refine ⟨(X, OU, TD, CH, GS, CS, MS ++ [(i, j, 0, [])], PH), Or.inl ⟨i, j, mg, rfl, rfl⟩, ClS.mdl H sm hg hc K (fun x hx => Or.inl ?_) (fun x hx => e5 x ?_) hO hm'⟩
      · have : ∀ a ∈ [5, 44, 37, 38], (2 ≤ a ∧ a < 54) ∧ a ∉ SmId3 := by decide
        exact this x hx
      · have : ∀ j ∈ [3, 6, 14], j ≠ 16 := by decide
        exact this x hx
    · exact ⟨(X, OU, TD, CH, GS, CS, MS, PH), Or.inr ⟨no, rfl, rfl⟩, Cl0.kp (T := [37, 38]) H cl K (by decide)⟩
  · rintro r' g' (⟨i, j, mg, rfl, f', rfl, fr, f5, hm'⟩ | ⟨no, rfl, f', rfl, fr⟩)
    · refine ⟨(X, OU, TD, CH, GS, CS, MS ++ [(i, j, 0, [])], PH), f', ml g, Or.inl ⟨i, j, mg, rfl, rfl⟩, rfl, r.md (fun x hx => f5 x ?_) (fun x hx => fr x ?_) (fun _ _ => rfl) hm' (r.2.2.2.2.addM.fr (f5 50 (by decide)) (f5 51 (by decide)) (f5 52 (by decide)) (fr 90 (by decide)) rfl rfl), fr.mono (by decide), Fr.refl⟩
      · have : ∀ j ∈ [1, 9, 10, 11, 14, 17, 32, 35, 36, 37, 56], j ≠ 45 := by decide
        exact this x hx
      · have : ∀ a ∈ [55, 56, 61, 62, 63, 64, 65, 67, 68, 69, 78, 92, 93], a ∉ [54, 57, 58, 81, 82] := by decide
        exact this x hx
    · exact ⟨(X, OU, TD, CH, GS, CS, MS, PH), f', ml g, Or.inr ⟨no, rfl, rfl⟩, rfl, r.scF fr (by decide), fr.mono (by decide), Fr.refl⟩
  · rintro s1 r (⟨_, _, _, _, rfl⟩ | ⟨_, _, rfl⟩)
    · exact pu
    · exact pu
def AtQ (s : Sta) (x y z r : Int32) (s' : Sta) : Prop := (∃ m p Z, AtG s.2.2.2.2.1 s.2.2.2.2.2.2.1 x y z m p Z ∧ r = nI (adM (s.2.2.2.2.2.2.1.getD m zM) y.toInt Z).2.2.2.length ∧ s' = (s.1, s.2.1, s.2.2.1, s.2.2.2.1, s.2.2.2.2.1, s.2.2.2.2.2.1, s.2.2.2.2.2.2.1.set m (adM (s.2.2.2.2.2.2.1.getD m zM) y.toInt Z), s.2.2.2.2.2.2.2)) ∨ ((¬ ∃ m p Z, AtG s.2.2.2.2.1 s.2.2.2.2.2.2.1 x y z m p Z) ∧ r = -1 ∧ s' = s)
theorem AtQ.fn {s s1 s2 : Sta} {x y z r r' : Int32} (hl : s.2.2.2.2.2.2.1.length ≤ 20) (h : AtQ s x y z r s1) (h' : AtQ s x y z r' s2) : r = r' ∧ s1 = s2 := by
  rcases h with ⟨m, p, Z, a, b, c⟩ | ⟨a, b, c⟩ <;> rcases h' with ⟨m', p', Z', a', b', c'⟩ | ⟨a', b', c'⟩
  · obtain ⟨rfl, rfl, rfl⟩ := a.fn hl a'
    exact ⟨b.trans b'.symm, c.trans c'.symm⟩
  · exact absurd ⟨m, p, Z, a⟩ a'
  · exact absurd ⟨m', p', Z', a'⟩ a
  · exact ⟨b.trans b'.symm, c.trans c'.symm⟩
theorem q_atom : C_atom IvW IvW := by
  rintro h a b c H ⟨⟨X, OU, TD, CH, GS, CS, MS, PH⟩, pu, cl, rf⟩
  obtain ⟨O, sm, hg, hc, hm⟩ := id cl
  refine pI (Q := fun r s' => AtQ (X, OU, TD, CH, GS, CS, MS, PH) a b c r s') (Q' := fun r s' => AtQ (X, OU, TD, CH, GS, CS, MS, PH) a b c r s') H rf (SpI.mono (sp_Ho_atom H hg hm a b c) ?_) (fun g hS r => SpI.mono (sp_Ref_atom r.2.1.1 r.2.2.2.1 hm.ok a b c) ?_) (fun s1 s2 r r' q q' => AtQ.fn hm.1 q q') ?_
  · rintro r g (⟨m, p, Z, ag, rfl, st, _, hm'⟩ | ⟨no, rfl, K⟩)
    · exact ⟨(X, OU, TD, CH, GS, CS, MS.set m (adM (MS.getD m zM) b.toInt Z), PH), Or.inl ⟨m, p, Z, ag, rfl, rfl⟩, mdl_st H sm hg hc (st.mono (fun _ q => q) (fun t e => by omega)) (by decide) (by decide) hm'⟩
    · exact ⟨(X, OU, TD, CH, GS, CS, MS, PH), Or.inr ⟨no, rfl, rfl⟩, Cl0.kp (T := [37, 38, 39, 40]) H cl K (by decide)⟩
  · rintro r' g' (⟨m, p, Z, ag, rfl, f', rfl, fr, f5, l51, hm'⟩ | ⟨no, rfl, f', rfl, fr⟩)
    · refine ⟨(X, OU, TD, CH, GS, CS, MS.set m (adM (MS.getD m zM) b.toInt Z), PH), f', ml g, Or.inl ⟨m, p, Z, ag, rfl, rfl⟩, rfl, r.md (fun x hx => f5 x ?_) (fun x hx => fr x ?_) (fun _ _ => rfl) hm' ?_, fr.mono (by decide), Fr.refl⟩
      · have : ∀ j ∈ [1, 9, 10, 11, 14, 17, 32, 35, 36, 37, 56], j ≠ 51 := by decide
        exact this x hx
      · have : ∀ a ∈ [55, 56, 61, 62, 63, 64, 65, 67, 68, 69, 78, 92, 93], a ∉ RtAIds := by decide
        exact this x hx
      · rcases l51 with ⟨_, q⟩ | ⟨n, q⟩
        · exact Or.inl q
        · exact (r.2.2.2.2.set ag.1.1 n).fr (f5 50 (by decide)) q (f5 52 (by decide)) (fr 90 (by decide)) rfl rfl
    · exact ⟨(X, OU, TD, CH, GS, CS, MS, PH), f', ml g, Or.inr ⟨no, rfl, rfl⟩, rfl, r.scF fr (by decide), fr.mono (by decide), Fr.refl⟩
  · rintro s1 r (⟨_, _, _, _, _, rfl⟩ | ⟨_, _, rfl⟩)
    · exact pu
    · exact pu
theorem ln_rf {g g' : MH} {X : TxS} {OU TD : List Nat} {CH : Nat → Prop} {GS : List (List Nat)} {CS : List S6} {MS : List Mdl} {PH : List Ph} (r : RfS (mi g) (ml g) (X, OU, TD, CH, GS, CS, MS, PH)) (q : (∃ m w, (m < MS.length ∧ 1 ≤ w ∧ w ≤ 6) ∧ GlP g (mi g) (ml g) CS MS m w g') ∨ g' = sil g (mi g) (ml g)) : Rf0 g (X, OU, TD, CH, GS, CS, MS, PH) g' := by
  rcases q with ⟨m, w, hm, f', l', rfl, fr, f5, fl, ra⟩ | rfl
  · have e5 : ∀ j ∈ [1, 9, 10, 11, 14, 17, 32, 35, 36, 37, 56, 45], f' 54 j = mi g 54 j := fun j hj => by
      have : ∀ j ∈ [1, 9, 10, 11, 14, 17, 32, 35, 36, 37, 56, 45], j ≠ 50 ∧ j ≠ 51 ∧ j ≠ 52 := by decide
      obtain ⟨a1, a2, a3⟩ := this j hj
      exact f5 j a1 a2 a3
    refine ⟨f', l', rfl, r.md (fun x hx => e5 x ?_) (fun x hx => fr x ?_) (fun x hx => fl x ?_) (r.2.2.2.1.fr (e5 45 (by decide)) (fun x hx => fr x ?_)) (Or.inr ⟨m, w, hm, ra⟩), fr.mono (by decide), fl.mono (by decide)⟩
    · have : ∀ j ∈ [1, 9, 10, 11, 14, 17, 32, 35, 36, 37, 56], j ∈ [1, 9, 10, 11, 14, 17, 32, 35, 36, 37, 56, 45] := by decide
      exact this x hx
    · have : ∀ a ∈ [55, 56, 61, 62, 63, 64, 65, 67, 68, 69, 78, 92, 93], a ∉ [54, 90] := by decide
      exact this x hx
    · have : ∀ a ∈ [70, 76, 77, 80, 94], a ∉ [88, 89, 91] := by decide
      exact this x hx
    · have : ∀ a ∈ MdIds, a ∉ [54, 90] := by decide
      exact this x hx
  · exact Rf0.same r
theorem q_lines : C_lines IvW IvW := by
  rintro h a b H ⟨⟨X, OU, TD, CH, GS, CS, MS, PH⟩, pu, cl, rf⟩
  obtain ⟨O, sm, hg, hc, hm⟩ := id cl
  refine pI (Q := fun r s' => s' = (X, OU, TD, CH, GS, CS, MS, PH) ∧ LnsA CS MS a b r) (Q' := fun r s' => s' = (X, OU, TD, CH, GS, CS, MS, PH) ∧ LnsA CS MS a b r) H rf (SpI.mono (sp_Ho_lines H hc hm sm.2.2.2.2.2.2.1 a b) ?_) (fun g hS r => SpI.mono (sp_Ref_lines r.2.2.2.1 r.2.2.1.1 hc.ok hm.ok r.2.2.2.2 a b) ?_) ?_ ?_
  · rintro r g ⟨p, O', st, hm'⟩
    exact ⟨_, ⟨rfl, p⟩, mdl_st H sm hg hc st (by decide) (by decide) hm'⟩
  · rintro r' g' ⟨p, q⟩
    obtain ⟨f', l', w⟩ := ln_rf r q
    exact ⟨_, f', l', ⟨rfl, p⟩, w⟩
  · rintro s1 s2 r r' ⟨rfl, p⟩ ⟨rfl, p'⟩
    exact ⟨p.fn hm.1 p', rfl⟩
  · rintro s1 r ⟨rfl, _⟩
    exact pu
theorem q_line : C_line IvW IvW := by
  rintro h a b c d H ⟨⟨X, OU, TD, CH, GS, CS, MS, PH⟩, pu, cl, rf⟩
  obtain ⟨O, sm, hg, hc, hm⟩ := id cl
  refine pL (Q := fun r s' => s' = (X, OU, TD, CH, GS, CS, MS, PH) ∧ LneA CS MS a b c d r) (Q' := fun r s' => s' = (X, OU, TD, CH, GS, CS, MS, PH) ∧ LneA CS MS a b c d r) H rf (SpL.mono (sp_Ho_line H hc hm sm.2.2.2.2.2.2.1 a b c d) ?_) (fun g hS r => SpL.mono (sp_Ref_line r.2.2.2.1 r.2.2.1.1 hc.ok hm.ok r.2.2.2.2 a b c d) ?_) ?_ ?_
  · rintro r g ⟨p, O', st, hm'⟩
    exact ⟨_, ⟨rfl, p⟩, mdl_st H sm hg hc st (by decide) (by decide) hm'⟩
  · rintro r' g' ⟨p, q⟩
    obtain ⟨f', l', w⟩ := ln_rf r q
    exact ⟨_, f', l', ⟨rfl, p⟩, w⟩
  · rintro s1 s2 r r' ⟨rfl, p⟩ ⟨rfl, p'⟩
    exact ⟨p.fn hm.1 p', rfl⟩
  · rintro s1 r ⟨rfl, _⟩
    exact pu
/-- all calls -/
theorem q_all (R : RND0) (RR : RND) (cls : ∀ S, GOk S → ∃ i, CtOK (brK S S.length) i) (site : ∀ S, GOk S → ∀ p, p < 13824 → ∃ i, CtOK (keepL S p) i) : Calls IvW IvW :=
  ⟨q_feed, q_end, q_read, q_fault, q_operation, q_tell, q_tellOf, q_letter, q_choose, q_group, q_about cls, q_of, q_product, q_half, q_within, q_orbit site, q_wave, q_cell R, q_reduced, q_fits, q_multiples RR, q_multiple RR, q_model, q_atom, q_placed, q_amplitude, q_distance, q_near, q_lines, q_line, q_map, q_phase, q_above⟩
