/-! operation, read, choose, phase, above -/
theorem getD_snoc {TD : List Nat} {c i : Nat} : (TD ++ [c]).getD i 0 = if i = TD.length then c else TD.getD i 0 := by
  by_cases e : i = TD.length
  · rw [if_pos e, e, getD_end]
  · rw [if_neg e]
    by_cases q : i < TD.length
    · exact getD_app q
    · rw [List.getD_eq_getElem?_getD, List.getD_eq_getElem?_getD, List.getElem?_eq_none (by rw [List.length_append]; simp; omega), List.getElem?_eq_none (by omega)]
theorem told_mem {TD : List Nat} {c : Nat} (h : ∀ x ∈ TD, isOp x) (hc : isOp c) : ∀ x ∈ TD ++ [c], isOp x := fun x hx => by
  rcases List.mem_append.mp hx with q | q
  · exact h x q
  · rw [List.mem_singleton.mp q]; exact hc
theorem snoc_len {TD : List Nat} {c : Nat} : (TD ++ [c]).length = TD.length + 1 := by rw [List.length_append]; rfl
theorem HTold.add {f : (Nat → Nat → Int32)} {TD : List Nat} {c : Nat} (h : HTold f TD) (hc : isOp c) (l : TD.length < 40) : HTold (keepF f TD.length c) (TD ++ [c]) := by
  obtain ⟨h1, h2, h3, h4⟩ := h
  refine ⟨by rw [snoc_len]; omega, told_mem h2 hc, ?_, fun i hi => ?_⟩
  · unfold keepF
    rw [up2_s, snoc_len]
  · rw [snoc_len] at hi
    unfold keepF
    rw [up2_ne (by decide), up2_ne (by decide), getD_snoc]
    by_cases e : i = TD.length
    · rw [if_pos e, e, up2_s]
    · rw [if_neg e, up2_ni e]; exact h4 i (by omega)
theorem RTold.add {f : (Nat → Nat → Int32)} {TD : List Nat} {c : Nat} (h : RTold f TD) (hc : isOp c) (l : TD.length < 40) : RTold (tellF f TD.length c) (TD ++ [c]) := by
  obtain ⟨h1, h2, h3, h4⟩ := h
  refine ⟨by rw [snoc_len]; omega, told_mem h2 hc, ?_, fun i hi => ?_⟩
  · unfold tellF
    rw [up2_s, snoc_len]
  · rw [snoc_len] at hi
    unfold tellF
    rw [up2_ne (by decide), getD_snoc]
    by_cases e : i = TD.length
    · rw [if_pos e, e, up2_s]
    · rw [if_neg e, up2_ni e]; exact h4 i (by omega)
theorem keepF_fr {f : (Nat → Nat → Int32)} {T c : Nat} : Fr [5, 13, 14] f (keepF f T c) := fun y hy => by
  simp only [List.mem_cons, List.not_mem_nil, or_false, not_or] at hy
  unfold keepF
  rw [up2_row hy.1, up2_row hy.2.2, up2_row hy.2.1]
theorem keepF_5 {f : (Nat → Nat → Int32)} {T c j : Nat} (hj : j ≠ 3) : keepF f T c 5 j = f 5 j := by
  unfold keepF
  rw [up2_ni hj, up2_ne (by decide), up2_ne (by decide)]
theorem tellF_fr {f : (Nat → Nat → Int32)} {T c : Nat} : Fr [54, 55] f (tellF f T c) := fun y hy => by
  simp only [List.mem_cons, List.not_mem_nil, or_false, not_or] at hy
  unfold tellF
  rw [up2_row hy.1, up2_row hy.2]
theorem tellF_54 {f : (Nat → Nat → Int32)} {T c j : Nat} (hj : j ≠ 1) : tellF f T c 54 j = f 54 j := by
  unfold tellF
  rw [up2_ni hj, up2_ne (by decide)]
theorem keepF_ch {f : (Nat → Nat → Int32)} {TD : List Nat} {CH : Nat → Prop} {c : Nat} (h : Chs f 14 CH) (hC : ∀ i, CH i → i < TD.length) : Chs (keepF f TD.length c) 14 CH := fun i hi => by
  unfold keepF
  rw [up2_ne (by decide)]
  by_cases e : i = TD.length
  · rw [e, up2_s]
    exact Or.inl ⟨rfl, fun q => by have := hC _ q; omega⟩
  · rw [up2_ni e, up2_ne (by decide)]; exact h i hi
/-- the class, with one operation more -/
theorem keep_cl {h : MH} {f1 : (Nat → Nat → Int32)} {X X' : TxS} {OU TD : List Nat} {CH : Nat → Prop} {GS : List (List Nat)} {CS : List S6} {MS : List Mdl} {PH : List Ph} {A : List Nat} {c : Nat} (H : SS h) (cl : ClS h (X, OU, TD, CH, GS, CS, MS, PH)) (fr : Fr A (mi h) f1) (hA : ∀ a ∈ A, (2 ≤ a ∧ a < 54) ∧ a ∉ [29, 43, 44]) (nA : ∀ a ∈ [2, 3, 4, 5, 12, 13, 14, 50, 51, 52], a ∉ A) (e8 : f1 6 8 = mi h 6 8) (tx : TxA f1 7 6 2 8 4 5 X') (hc : isOp c) (l40 : TD.length < 40) (hC : ∀ i, CH i → i < TD.length) :
    ClS (sil h (keepF f1 TD.length c) (ml h)) (X', OU, TD ++ [c], CH, GS, CS, MS, PH) ∧ CK h (sil h (keepF f1 TD.length c) (ml h)) := by
  obtain ⟨O, sm, _⟩ := id cl
  have kf := keepF_fr (f := f1) (T := TD.length) (c := c)
  have e5 : f1 5 = mi h 5 := fr 5 (nA 5 (by decide))
  have t0 : HTold f1 TD := sm.2.2.1.fr (by rw [e5]) (fr 13 (nA 13 (by decide)))
  have c0 : Chs f1 14 CH := sm.2.2.2.1.fr (fr 14 (nA 14 (by decide)))
  have i6 := kf 6 (by decide)
  refine cl.sm H (A := [5, 13, 14] ++ A) (l' := ml h) (fun x hx => ?_) Fr.refl (fun a ha => ?_) (fun j hj => ?_) (sm.ch (fun x hx => ?_) rfl ⟨tx.fr (kf 7 (by decide)) (by rw [i6]) (kf 8 (by decide)) (by rw [i6]) (by rw [i6]), sm.2.1.fr (by rw [i6]; exact e8) (by rw [kf 12 (by decide)]; exact fr 12 (nA 12 (by decide))), t0.add hc l40, keepF_ch c0 hC⟩)
  · rw [kf x (fun q => hx (List.mem_append_left _ q)), fr x (fun q => hx (List.mem_append_right _ q))]
  · rcases List.mem_append.mp ha with q | q
    · have : ∀ a ∈ [5, 13, 14], (2 ≤ a ∧ a < 54) ∧ a ∉ [29, 43, 44] := by decide
      exact this a q
    · exact hA a q
  · rw [keepF_5 (by have : ∀ j ∈ [6, 14, 16], j ≠ 3 := by decide
                    exact this j hj), e5]
  · have : ∀ x ∈ [2, 3, 4, 50, 51, 52], x ∉ [5, 13, 14] ∧ x ∈ [2, 3, 4, 5, 12, 13, 14, 50, 51, 52] := by decide
    rw [kf x (this x hx).1, fr x (nA x (this x hx).2)]
theorem keep_rf {g : MH} {f1 : (Nat → Nat → Int32)} {X X' : TxS} {OU TD : List Nat} {CH : Nat → Prop} {GS : List (List Nat)} {CS : List S6} {MS : List Mdl} {PH : List Ph} {A : List Nat} {c : Nat} (r : RfS (mi g) (ml g) (X, OU, TD, CH, GS, CS, MS, PH)) (fr : Fr A (mi g) f1) (hA : ∀ a ∈ A, a ∈ RF) (nA : ∀ a ∈ [55, 56, 63, 64, 65, 67, 68, 69, 78, 81, 82, 83, 84, 85, 86, 87, 90, 92, 93], a ∉ A) (f5 : ∀ j ∈ [1, 14, 17, 32, 35, 36, 37, 45, 50, 51, 52, 56], f1 54 j = mi g 54 j) (tx : TxA f1 61 54 9 62 10 11 X') (hc : isOp c) (l40 : TD.length < 40) :
    RfS (tellF f1 TD.length c) (ml g) (X', OU, TD ++ [c], CH, GS, CS, MS, PH) ∧ Fr RF (mi g) (tellF f1 TD.length c) := by
  obtain ⟨r1, r2, r3, r4, r5⟩ := r.1
  have kf := tellF_fr (f := f1) (T := TD.length) (c := c)
  have t0 : RTold f1 TD := r3.fr (f5 1 (by decide)) (fr 55 (nA 55 (by decide)))
  refine ⟨r.ch (fun j hj => ?_) (fun x hx => ?_) (fun _ _ => rfl) ⟨tx.fr (kf 61 (by decide)) (tellF_54 (by decide)) (kf 62 (by decide)) (tellF_54 (by decide)) (tellF_54 (by decide)), r2.fr (by rw [tellF_54 (by decide)]; exact f5 14 (by decide)) (by rw [kf 63 (by decide)]; exact fr 63 (nA 63 (by decide))), t0.add hc l40, r4.fr (by rw [kf 56 (by decide)]; exact fr 56 (nA 56 (by decide))), r5.fr2 (by rw [tellF_54 (by decide)]; exact f5 56 (by decide)) (by rw [kf 92 (by decide)]; exact fr 92 (nA 92 (by decide))) (by rw [kf 93 (by decide)]; exact fr 93 (nA 93 (by decide))) rfl⟩, fun x hx => ?_⟩
  · have : ∀ j ∈ [17, 32, 35, 36, 37, 45, 50, 51, 52], j ≠ 1 ∧ j ∈ [1, 14, 17, 32, 35, 36, 37, 45, 50, 51, 52, 56] := by decide
    rw [tellF_54 (this j hj).1]
    exact f5 j (this j hj).2
  · have : ∀ x ∈ [64, 65, 67, 68, 69, 78, 81, 82, 83, 84, 85, 86, 87, 90], x ∉ [54, 55] ∧ x ∈ [55, 56, 63, 64, 65, 67, 68, 69, 78, 81, 82, 83, 84, 85, 86, 87, 90, 92, 93] := by decide
    rw [kf x (this x hx).1, fr x (nA x (this x hx).2)]
  · have : ∀ x ∈ [54, 55], x ∈ RF := by decide
    rw [kf x (fun q => hx (this x q)), fr x (fun q => hx (hA x q))]
def OpQ (s : Sta) (x y r : Int32) (s' : Sta) : Prop := (opOk s.2.2.1.length x y ∧ r = nI s.2.2.1.length ∧ s' = (s.1, s.2.1, s.2.2.1 ++ [13824 * ix x + ix y], s.2.2.2)) ∨ (¬ opOk s.2.2.1.length x y ∧ r = -1 ∧ s' = s)
theorem OpQ.fn {s s1 s2 : Sta} {x y r r' : Int32} (h : OpQ s x y r s1) (h' : OpQ s x y r' s2) : r = r' ∧ s1 = s2 := by
  rcases h with ⟨a, b, c⟩ | ⟨a, b, c⟩ <;> rcases h' with ⟨a', b', c'⟩ | ⟨a', b', c'⟩
  · exact ⟨by rw [b, b'], by rw [c, c']⟩
  · exact absurd a a'
  · exact absurd a' a
  · exact ⟨by rw [b, b'], by rw [c, c']⟩
theorem opOk.op {T : Nat} {x y : Int32} (h : opOk T x y) : isOp (13824 * ix x + ix y) := by
  obtain ⟨h1, h2, h3, h4, h5, h6⟩ := h
  have a := hb_ix (i := x) (by omega)
  have b := hb_ix (i := y) (by omega)
  refine ⟨?_, h6⟩
  unfold cOK
  omega
theorem q_operation : C_operation IvW IvW := by
  rintro h a b H ⟨s, pu, cl, rf⟩
  obtain ⟨X, OU, TD, CH, GS, CS, MS, PH⟩ := s
  obtain ⟨O, sm, _⟩ := id cl
  have l40 := sm.2.2.1.1
  have A := sp_Ho_operation (h := h) (f := mi h) (l := ml h) sm.2.2.1.2.2.1 l40 a b
  rw [← H.sil] at A
  refine pI (Q := fun r s' => OpQ (X, OU, TD, CH, GS, CS, MS, PH) a b r s') (Q' := fun r s' => OpQ (X, OU, TD, CH, GS, CS, MS, PH) a b r s') H rf (SpI.mono A ?_) (fun g hS r => SpI.mono (sp_Ref_operation r.1.2.2.1.2.2.1 l40 a b) ?_) (fun s1 s2 r r' q q' => OpQ.fn q q') ?_
  · rintro r g (⟨ok, rfl, f1, fr, rfl⟩ | ⟨ok, rfl, f1, fr, rfl⟩)
    · exact ⟨_, Or.inl ⟨ok, rfl, rfl⟩, keep_cl H cl fr (by decide) (by decide) (by rw [fr 6 (by decide)]) (sm.1.fr (fr 7 (by decide)) (by rw [fr 6 (by decide)]) (fr 8 (by decide)) (by rw [fr 6 (by decide)]) (by rw [fr 6 (by decide)])) ok.op ok.2.2.2.2.1 pu.2.1⟩
    · exact ⟨_, Or.inr ⟨ok, rfl, rfl⟩, Cl0.kp (T := [37, 38]) H cl (Kp.si3 H fr Fr.refl) (by decide)⟩
  · rintro r' g' (⟨ok, rfl, f1, fr, rfl⟩ | ⟨ok, rfl, f1, fr, rfl⟩)
    · obtain ⟨w1, w2⟩ := keep_rf (A := [57, 58]) r fr (by decide) (by decide) (fun j _ => by rw [fr 54 (by decide)]) (r.1.1.fr (fr 61 (by decide)) (by rw [fr 54 (by decide)]) (fr 62 (by decide)) (by rw [fr 54 (by decide)]) (by rw [fr 54 (by decide)])) ok.op ok.2.2.2.2.1
      exact ⟨_, _, ml g, Or.inl ⟨ok, rfl, rfl⟩, rfl, w1, w2, Fr.refl⟩
    · exact ⟨_, f1, ml g, Or.inr ⟨ok, rfl, rfl⟩, rfl, r.scF fr (by decide), fr.mono (by decide), Fr.refl⟩
  · rintro s1 r (⟨_, _, rfl⟩ | ⟨_, _, rfl⟩)
    · exact ⟨pu.1, fun i q => by have := pu.2.1 i q; show i < (TD ++ [_]).length; rw [snoc_len]; omega, pu.2.2⟩
    · exact pu
