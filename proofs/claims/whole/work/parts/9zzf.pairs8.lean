/-! cell, reduced, multiples, multiple -/
def SmId2 : List Nat := [2, 3, 4, 6, 7, 8, 12, 13, 14, 29, 44, 50, 51, 52, 53]
theorem ClS.cel {A : List Nat} {h k : MH} {O O' : Nat → Nat} {X : TxS} {OU TD : List Nat} {CH : Nat → Prop} {GS : List (List Nat)} {CS CS' : List S6} {MS : List Mdl} {PH : List Ph} (H : SS h) (sm : SmC (mi h) (ml h) X OU TD CH PH) (hg : HGrp h O GS) (hm : HMdl h O GS.length CS MS) (K : Kp A h k) (hA : ∀ a ∈ A, ((2 ≤ a ∧ a < 54) ∧ a ∉ SmId2) ∨ (99 ≤ a ∧ 60 ≤ O a ∧ O a < 100)) (e5 : ∀ j ∈ [3, 6, 16], mi k 5 j = mi h 5 j) (e43 : ∀ i, i < CS.length → mr k 43 i = mr h 43 i) (hO : ∀ a, a < hn h → O' a = O a) (hc : HCel k O' CS') (le : CS.length ≤ CS'.length) (ec : ∀ i, i < CS.length → CS'.getD i z6 = CS.getD i z6) : ClS k (X, OU, TD, CH, GS, CS', MS, PH) ∧ CK h k := by
  have h99 := H.1
  have no : ∀ a ∈ SmId2, a ∉ A := fun a ha q => by
    rcases hA a q with w | w
    · exact w.2 ha
    · have : ∀ a ∈ SmId2, a < 99 := by decide
      have := this a ha
      omega
  have lt : ∀ a ∈ SmId2, a < hn h := fun a ha => by
    have : ∀ a ∈ SmId2, a < 99 := by decide
    have := this a ha
    omega
  have i : ∀ a ∈ SmId2, mi k a = mi h a := fun a ha => K.i (lt a ha) (no a ha)
  have ne : ∀ b ∈ SmId2, ∀ a ∈ A, a ≠ b := fun b hb a ha e => no b hb (by rw [← e]; exact ha)
  refine ⟨⟨O', sm.fr (e5 3 (by decide)) (fun a ha => i a ?_) (K.l (lt 53 (by decide)) (no 53 (by decide))), hg.kp H K (fun a ha => ?_) (e5 6 (by decide)) hO, hc, hm.kp H K (fun a ha => ?_) (e5 16 (by decide)) hO (fun j _ => by rw [K.r (lt 29 (by decide)) (no 29 (by decide))]) e43 (Nat.le_refl _) le ec⟩, CK.kp H K (fun a ha => ?_)⟩
  · have : ∀ a ∈ [2, 3, 4, 6, 7, 8, 12, 13, 14, 50, 51, 52], a ∈ SmId2 := by decide
    exact this a ha
  · rcases hA a ha with w | w
    · exact Or.inl ⟨by omega, ne 29 (by decide) a ha⟩
    · exact Or.inr ⟨w.1, w.2.1⟩
  · rcases hA a ha with w | w
    · exact Or.inl ⟨by omega, ne 44 (by decide) a ha⟩
    · exact Or.inr ⟨w.1, w.2.2⟩
  · rcases hA a ha with w | w
    · exact Or.inl w.1
    · exact Or.inr w.1
theorem cel_st {h g : MH} {O O' : Nat → Nat} {X : TxS} {OU TD : List Nat} {CH : Nat → Prop} {GS : List (List Nat)} {CS : List S6} {MS : List Mdl} {PH : List Ph} (H : SS h) (cl : SmC (mi h) (ml h) X OU TD CH PH ∧ HGrp h O GS ∧ HCel h O CS ∧ HMdl h O GS.length CS MS) (st : StpO h g O O' [] (fun t => 60 ≤ t ∧ t < 100)) (hc : HCel g O' CS) : ClS g (X, OU, TD, CH, GS, CS, MS, PH) ∧ CK h g := by
  obtain ⟨sm, hg, _, hm⟩ := cl
  obtain ⟨A, K, hA, hO⟩ := st
  have h99 := H.1
  have hA' : ∀ a ∈ A, 99 ≤ a ∧ 60 ≤ O a ∧ O a < 100 := fun a ha => (hA a ha).elim (fun w => absurd w List.not_mem_nil) id
  have nA : ∀ x, x < 99 → x ∉ A := fun x h1 q => by have := hA' x q; omega
  exact ClS.cel H sm hg hm K (fun a ha => Or.inr (hA' a ha)) (fun j _ => by rw [K.i (by omega) (nA 5 (by omega))]) (fun i _ => by rw [K.r (by omega) (nA 43 (by omega))]) hO hc (Nat.le_refl _) (fun _ _ => rfl)
theorem cS_get {CS : List S6} {s : S6} {i : Nat} (hi : i < CS.length) : (CS ++ [s]).getD i z6 = CS.getD i z6 := by
  rw [List.getD_eq_getElem?_getD, List.getD_eq_getElem?_getD, List.getElem?_append_left hi]
theorem RLin.addC {f : (Nat → Nat → Int32)} {l : (Nat → Nat → Int64)} {CS : List S6} {MS : List Mdl} {ng : Nat} {s : S6} (ok : okMS ng CS.length MS) (h : RLin f l CS MS) : RLin f l (CS ++ [s]) MS := by
  refine h.imp id ?_
  rintro ⟨m, w, hm, r⟩
  refine ⟨m, w, hm, ?_⟩
  unfold RLAt at *
  rw [cS_get (ok m hm.1).2.1]
  exact r
def CeQ (s : Sta) (t : S6) (r : Int32) (s' : Sta) : Prop := (cellOk s.2.2.2.2.2.1.length t.1 t.2.1 t.2.2.1 t.2.2.2.1 t.2.2.2.2.1 t.2.2.2.2.2 ∧ r = nI s.2.2.2.2.2.1.length ∧ s' = (s.1, s.2.1, s.2.2.1, s.2.2.2.1, s.2.2.2.2.1, s.2.2.2.2.2.1 ++ [t], s.2.2.2.2.2.2)) ∨ (¬ cellOk s.2.2.2.2.2.1.length t.1 t.2.1 t.2.2.1 t.2.2.2.1 t.2.2.2.2.1 t.2.2.2.2.2 ∧ r = -1 ∧ s' = s)
theorem CeQ.fn {s s1 s2 : Sta} {t : S6} {r r' : Int32} (h : CeQ s t r s1) (h' : CeQ s t r' s2) : r = r' ∧ s1 = s2 := by
  rcases h with ⟨a, b, c⟩ | ⟨a, b, c⟩ <;> rcases h' with ⟨a', b', c'⟩ | ⟨a', b', c'⟩
  · exact ⟨b.trans b'.symm, c.trans c'.symm⟩
  · exact absurd a a'
  · exact absurd a' a
  · exact ⟨b.trans b'.symm, c.trans c'.symm⟩
theorem q_cell (R : RND0) : C_cell IvW IvW := by
  rintro h a b c d e f H ⟨⟨X, OU, TD, CH, GS, CS, MS, PH⟩, pu, cl, rf⟩
  obtain ⟨O, sm, hg, hc, hm⟩ := id cl
  refine pI (Q := fun r s' => CeQ (X, OU, TD, CH, GS, CS, MS, PH) (a.toInt, b.toInt, c.toInt, d.toInt, e.toInt, f.toInt) r s') (Q' := fun r s' => CeQ (X, OU, TD, CH, GS, CS, MS, PH) (a.toInt, b.toInt, c.toInt, d.toInt, e.toInt, f.toInt) r s') H rf (SpI.mono (sp_Ho_cellV R H hc a b c d e f) ?_) (fun g hS r => SpI.mono (sp_Ref_cellV r.2.2.1.1 a b c d e f) ?_) (fun s1 s2 r r' q q' => CeQ.fn q q') ?_
  · rintro r g (⟨ok, rfl, O', K, ⟨e5, _, _, _, _, e43⟩, hO, hc'⟩ | ⟨no, rfl, rfl⟩)
    · refine ⟨(X, OU, TD, CH, GS, CS ++ [(a.toInt, b.toInt, c.toInt, d.toInt, e.toInt, f.toInt)], MS, PH), Or.inl ⟨ok, rfl, rfl⟩, ClS.cel H sm hg hm K (fun a ha => Or.inl ?_) (fun j hj => e5 j ?_) e43 hO hc' (by rw [cS_len]; omega) (fun i hi => cS_get hi)⟩
      · have : ∀ a ∈ [5, 43], (2 ≤ a ∧ a < 54) ∧ a ∉ SmId2 := by decide
        exact this a ha
      · have : ∀ j ∈ [3, 6, 16], j ≠ 14 := by decide
        exact this j hj
    · exact ⟨(X, OU, TD, CH, GS, CS, MS, PH), Or.inr ⟨no, rfl, rfl⟩, cl, CK.refl H⟩
  · rintro r' g' (⟨ok, rfl, f', l', rfl, fr, f5, fl, hc'⟩ | ⟨no, rfl, l', rfl, fl, hc'⟩)
    · obtain ⟨⟨r1, r2, r3, r4, r5⟩, ⟨r6, r7⟩, ⟨r8, r9⟩, r10, r11⟩ := r
      have e5 : ∀ j ∈ StF, j ≠ 32 → f' 54 j = mi g 54 j := fun j hj h17 => f5 j h17
      refine ⟨(X, OU, TD, CH, GS, CS ++ [(a.toInt, b.toInt, c.toInt, d.toInt, e.toInt, f.toInt)], MS, PH), f', l', Or.inl ⟨ok, rfl, rfl⟩, rfl, ⟨⟨r1.fr (fr 61 (by decide)) (e5 9 (by decide) (by decide)) (fr 62 (by decide)) (e5 10 (by decide) (by decide)) (e5 11 (by decide) (by decide)), r2.fr (e5 14 (by decide) (by decide)) (fr 63 (by decide)), r3.fr (e5 1 (by decide) (by decide)) (fr 55 (by decide)), r4.fr (fr 56 (by decide)), r5.fr2 (e5 56 (by decide) (by decide)) (fr 92 (by decide)) (fr 93 (by decide)) (fl 94 (by decide))⟩, ⟨r6.fr (e5 17 (by decide) (by decide)) (fr 64 (by decide)) (fr 65 (by decide)), r7.fr (fr 67 (by decide)) (fr 68 (by decide)) (fr 69 (by decide)) (fl 70 (by decide))⟩, ⟨hc', r9.add.fr (e5 35 (by decide) (by decide)) (e5 36 (by decide) (by decide)) (e5 37 (by decide) (by decide)) (fl 80 (by decide))⟩, r10.fr (e5 45 (by decide) (by decide)) (fun a ha => fr a ?_), (r11.addC hm.ok).fr (e5 50 (by decide) (by decide)) (e5 51 (by decide) (by decide)) (e5 52 (by decide) (by decide)) (fr 90 (by decide)) (fl 89 (by decide)) (fl 91 (by decide))⟩, fr.mono (by decide), fl.mono (by decide)⟩
      have : ∀ a ∈ MdIds, a ∉ [54, 57, 58, 78] := by decide
      exact this a ha
    · obtain ⟨⟨r1, r2, r3, r4, r5⟩, ⟨r6, r7⟩, ⟨r8, r9⟩, r10, r11⟩ := r
      exact ⟨(X, OU, TD, CH, GS, CS, MS, PH), mi g, l', Or.inr ⟨no, rfl, rfl⟩, rfl, ⟨⟨r1, r2, r3, r4, r5.fr2 rfl rfl rfl (fl 94 (by decide))⟩, ⟨r6, r7.fr rfl rfl rfl (fl 70 (by decide))⟩, ⟨hc', r9.fr rfl rfl rfl (fl 80 (by decide))⟩, r10, r11.fr rfl rfl rfl rfl (fl 89 (by decide)) (fl 91 (by decide))⟩, Fr.refl, fl.mono (by decide)⟩
  · rintro s1 r (⟨_, _, rfl⟩ | ⟨_, _, rfl⟩)
    · exact pu
    · exact pu
theorem q_reduced : C_reduced IvW IvW := by
  rintro h a b H ⟨⟨X, OU, TD, CH, GS, CS, MS, PH⟩, pu, cl, rf⟩
  obtain ⟨O, cl'⟩ := id cl
  have hc := cl'.2.2.1
  refine pL (Q := fun r s' => s' = (X, OU, TD, CH, GS, CS, MS, PH) ∧ RdA CS a b r) (Q' := fun r s' => s' = (X, OU, TD, CH, GS, CS, MS, PH) ∧ RdA CS a b r) H rf (SpL.mono (sp_Ho_reduced H hc a b) ?_) (fun g hS r => SpL.mono (sp_Ref_reduced r.2.2.1.1 hc.ok a b) ?_) ?_ ?_
  · rintro r g ⟨p, st, hc'⟩
    exact ⟨_, ⟨rfl, p⟩, cel_st H cl' st hc'⟩
  · rintro r' g' ⟨p, rfl⟩
    exact ⟨_, mi g, ml g, ⟨rfl, p⟩, rfl, r, Fr.refl, Fr.refl⟩
  · rintro s1 s2 r r' ⟨rfl, p⟩ ⟨rfl, p'⟩
    exact ⟨p.fn hc.1 p', rfl⟩
  · rintro s1 r ⟨rfl, _⟩
    exact pu
theorem mul_rf {g : MH} {f' : (Nat → Nat → Int32)} {l' : (Nat → Nat → Int64)} {X : TxS} {OU TD : List Nat} {CH : Nat → Prop} {GS : List (List Nat)} {CS : List S6} {MS : List Mdl} {PH : List Ph} (r : RfS (mi g) (ml g) (X, OU, TD, CH, GS, CS, MS, PH)) (mf : MuF (mi g) f') (fl : Fr [79, 80] (ml g) l') (mu : RMu f' l' CS) : RfS f' l' (X, OU, TD, CH, GS, CS, MS, PH) ∧ Fr RF (mi g) f' ∧ Fr RF (ml g) l' := by
  obtain ⟨fr, f5⟩ := mf
  obtain ⟨⟨r1, r2, r3, r4, r5⟩, ⟨r6, r7⟩, ⟨r8, r9⟩, r10, r11⟩ := r
  have e5 : ∀ j ∈ StF, j ≠ 35 → j ≠ 36 → j ≠ 37 → f' 54 j = mi g 54 j := fun j _ h1 h2 h3 => f5 j h1 h2 h3
  refine ⟨⟨⟨r1.fr (fr 61 (by decide)) (e5 9 (by decide) (by decide) (by decide) (by decide)) (fr 62 (by decide)) (e5 10 (by decide) (by decide) (by decide) (by decide)) (e5 11 (by decide) (by decide) (by decide) (by decide)), r2.fr (e5 14 (by decide) (by decide) (by decide) (by decide)) (fr 63 (by decide)), r3.fr (e5 1 (by decide) (by decide) (by decide) (by decide)) (fr 55 (by decide)), r4.fr (fr 56 (by decide)), r5.fr2 (e5 56 (by decide) (by decide) (by decide) (by decide)) (fr 92 (by decide)) (fr 93 (by decide)) (fl 94 (by decide))⟩, ⟨r6.fr (e5 17 (by decide) (by decide) (by decide) (by decide)) (fr 64 (by decide)) (fr 65 (by decide)), r7.fr (fr 67 (by decide)) (fr 68 (by decide)) (fr 69 (by decide)) (fl 70 (by decide))⟩, ⟨r8.fr (e5 32 (by decide) (by decide) (by decide) (by decide)) (fl 76 (by decide)) (fl 77 (by decide)) (fr 78 (by decide)), mu⟩, r10.fr (e5 45 (by decide) (by decide) (by decide) (by decide)) (fun a ha => fr a ?_), r11.fr (e5 50 (by decide) (by decide) (by decide) (by decide)) (e5 51 (by decide) (by decide) (by decide) (by decide)) (e5 52 (by decide) (by decide) (by decide) (by decide)) (fr 90 (by decide)) (fl 89 (by decide)) (fl 91 (by decide))⟩, fr.mono (by decide), fl.mono (by decide)⟩
  have : ∀ a ∈ MdIds, a ∉ [54] := by decide
  exact this a ha
theorem q_multiples (RR : RND) : C_multiples IvW IvW := by
  rintro h a b H ⟨⟨X, OU, TD, CH, GS, CS, MS, PH⟩, pu, cl, rf⟩
  obtain ⟨O, cl'⟩ := id cl
  have hc := cl'.2.2.1
  have la := cl'.1.2.2.2.2.2.2.2
  refine pI (Q := fun r s' => s' = (X, OU, TD, CH, GS, CS, MS, PH) ∧ MsA CS a b r) (Q' := fun r s' => s' = (X, OU, TD, CH, GS, CS, MS, PH) ∧ MsA CS a b r) H rf (SpI.mono (sp_Ho_multiples RR H la hc a b) ?_) (fun g hS r => SpI.mono (sp_Ref_multiples r.2.2.1.1 hc.ok r.2.2.1.2 a b) ?_) ?_ ?_
  · rintro r g ⟨p, O', st, hc'⟩
    exact ⟨_, ⟨rfl, p⟩, cel_st H cl' st hc'⟩
  · rintro r' g' ⟨p, f', l', rfl, mf, fl, mu⟩
    obtain ⟨w1, w2, w3⟩ := mul_rf r mf fl mu
    exact ⟨_, f', l', ⟨rfl, p⟩, rfl, w1, w2, w3⟩
  · rintro s1 s2 r r' ⟨rfl, p⟩ ⟨rfl, p'⟩
    exact ⟨p.fn hc.1 p', rfl⟩
  · rintro s1 r ⟨rfl, _⟩
    exact pu
theorem q_multiple (RR : RND) : C_multiple IvW IvW := by
  rintro h a b c d H ⟨⟨X, OU, TD, CH, GS, CS, MS, PH⟩, pu, cl, rf⟩
  obtain ⟨O, cl'⟩ := id cl
  have hc := cl'.2.2.1
  have la := cl'.1.2.2.2.2.2.2.2
  refine pL (Q := fun r s' => s' = (X, OU, TD, CH, GS, CS, MS, PH) ∧ MlA CS a b c d r) (Q' := fun r s' => s' = (X, OU, TD, CH, GS, CS, MS, PH) ∧ MlA CS a b c d r) H rf (SpL.mono (sp_Ho_multiple RR H la hc a b c d) ?_) (fun g hS r => SpL.mono (sp_Ref_multiple r.2.2.1.1 hc.ok r.2.2.1.2 a b c d) ?_) ?_ ?_
  · rintro r g ⟨p, O', st, hc'⟩
    exact ⟨_, ⟨rfl, p⟩, cel_st H cl' st hc'⟩
  · rintro r' g' ⟨p, f', l', rfl, mf, fl, mu⟩
    obtain ⟨w1, w2, w3⟩ := mul_rf r mf fl mu
    exact ⟨_, f', l', ⟨rfl, p⟩, rfl, w1, w2, w3⟩
  · rintro s1 s2 r r' ⟨rfl, p⟩ ⟨rfl, p'⟩
    exact ⟨p.fn hc.1 p', rfl⟩
  · rintro s1 r ⟨rfl, _⟩
    exact pu
