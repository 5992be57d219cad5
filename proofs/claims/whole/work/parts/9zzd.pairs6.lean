/-! phase, above -/
theorem ph_len {PH : List Ph} {c : Ph} : (PH ++ [c]).length = PH.length + 1 := by rw [List.length_append]; rfl
theorem ph_get {PH : List Ph} {c : Ph} {i : Nat} (hi : i < PH.length + 1) : (PH ++ [c]).getD i zh = if i = PH.length then c else PH.getD i zh := by
  rw [List.getD_eq_getElem?_getD, List.getD_eq_getElem?_getD]
  by_cases e : i = PH.length
  · rw [if_pos e, e, List.getElem?_append_right (Nat.le_refl _), Nat.sub_self]; rfl
  · rw [if_neg e, List.getElem?_append_left (by omega)]
theorem PhA.add {f : (Nat → Nat → Int32)} {l : (Nat → Nat → Int64)} {a b c o v : Nat} {PH : List Ph} {p q : Int32} {e : Int64} (h : PhA f l a b c o v PH) (h1 : o ≠ a) (h2 : o ≠ b) (h3 : a ≠ b) : PhA (phF f a b o v PH.length p q) (up2 l c PH.length e) a b c o v (PH ++ [(p.toInt, q.toInt, e.toInt)]) := by
  refine ⟨?_, fun i hi => ?_⟩
  · unfold phF
    rw [up2_s, ph_len]
  · rw [ph_len] at hi
    unfold phP phQ phE phF
    rw [ph_get hi, up2_ne h1.symm, up2_ne h2.symm, up2_ne h3]
    by_cases ei : i = PH.length
    · rw [if_pos ei, ei, up2_s, up2_s, up2_s]
      exact ⟨(zI_self p).symm, (zI_self q).symm, (zL_self e).symm⟩
    · rw [if_neg ei, up2_ni ei, up2_ni ei, up2_ni ei, up2_ne h3.symm]
      exact h.2 i (by omega)
theorem okPh.add {PH : List Ph} {p q : Int32} {e : Int64} (h : okPh PH) (ok : phOk PH.length p q e) : okPh (PH ++ [(p.toInt, q.toInt, e.toInt)]) := by
  obtain ⟨o1, o2, o3, o4, o5⟩ := ok
  refine ⟨by rw [ph_len]; omega, fun i hi => ?_⟩
  rw [ph_len] at hi
  by_cases ei : i = PH.length
  · unfold phS phP phQ phE
    rw [ph_get hi, if_pos ei]
    dsimp only
    omega
  · have := h.2 i (by omega)
    unfold phS phP phQ phE at *
    rw [ph_get hi, if_neg ei]
    exact this
theorem phF_fr {f : (Nat → Nat → Int32)} {a b o v n : Nat} {p q : Int32} : Fr [a, b, o] f (phF f a b o v n p q) := fun y hy => by
  simp only [List.mem_cons, List.not_mem_nil, or_false, not_or] at hy
  unfold phF
  rw [up2_row hy.2.2, up2_row hy.2.1, up2_row hy.1]
theorem phF_o {f : (Nat → Nat → Int32)} {a b o v n j : Nat} {p q : Int32} (h1 : o ≠ a) (h2 : o ≠ b) (hj : j ≠ v) : phF f a b o v n p q o j = f o j := by
  unfold phF
  rw [up2_ni hj, up2_ne h2, up2_ne h1]
def PhQ (s : Sta) (x y : Int32) (e : Int64) (r : Int32) (s' : Sta) : Prop := (phOk s.2.2.2.2.2.2.2.length x y e ∧ r = nI s.2.2.2.2.2.2.2.length ∧ s' = (s.1, s.2.1, s.2.2.1, s.2.2.2.1, s.2.2.2.2.1, s.2.2.2.2.2.1, s.2.2.2.2.2.2.1, s.2.2.2.2.2.2.2 ++ [(x.toInt, y.toInt, e.toInt)])) ∨ (¬ phOk s.2.2.2.2.2.2.2.length x y e ∧ r = -1 ∧ s' = s)
theorem PhQ.fn {s s1 s2 : Sta} {x y r r' : Int32} {e : Int64} (h : PhQ s x y e r s1) (h' : PhQ s x y e r' s2) : r = r' ∧ s1 = s2 := by
  rcases h with ⟨a, b, c⟩ | ⟨a, b, c⟩ <;> rcases h' with ⟨a', b', c'⟩ | ⟨a', b', c'⟩
  · exact ⟨by rw [b, b'], by rw [c, c']⟩
  · exact absurd a a'
  · exact absurd a' a
  · exact ⟨by rw [b, b'], by rw [c, c']⟩
theorem q_phase : C_phase IvW IvW := by
  rintro h a b c H ⟨s, pu, cl, rf⟩
  obtain ⟨X, OU, TD, CH, GS, CS, MS, PH⟩ := s
  obtain ⟨O, ⟨s1, s2, s3, s4, s5, s6, s7, s8⟩, _⟩ := id cl
  have l40 := pu.2.2.1
  have A := sp_Ho_phase (h := h) (f := mi h) (l := ml h) s5.1 l40 a b c
  rw [← H.sil] at A
  refine pI (Q := fun r s' => PhQ (X, OU, TD, CH, GS, CS, MS, PH) a b c r s') (Q' := fun r s' => PhQ (X, OU, TD, CH, GS, CS, MS, PH) a b c r s') H rf (SpI.mono A ?_) (fun g hS r => SpI.mono (sp_Ref_phase r.1.2.2.2.2.1 l40 a b c) ?_) (fun s1 s2 r r' q q' => PhQ.fn q q') ?_
  · rintro r g (⟨ok, rfl, rfl⟩ | ⟨no, rfl, rfl⟩)
    · have fr := phF_fr (f := mi h) (a := 51) (b := 52) (o := 50) (v := 3) (n := PH.length) (p := a) (q := b)
      have ph := s5.add (p := a) (q := b) (e := c) (by decide) (by decide) (by decide)
      have fl : Fr [53] (ml h) (up2 (ml h) 53 PH.length c) := Fr.refl.up List.mem_cons_self
      generalize phF (mi h) 51 52 50 3 PH.length a b = f1 at *
      generalize up2 (ml h) 53 PH.length c = l1 at *
      refine ⟨(X, OU, TD, CH, GS, CS, MS, PH ++ [(a.toInt, b.toInt, c.toInt)]), Or.inl ⟨ok, rfl, rfl⟩, cl.sm H (A := [50, 51, 52, 53]) (f' := f1) (l' := l1) (fr.mono (by decide)) (fl.mono (by decide)) (by decide) (fun j _ => by rw [fr 5 (by decide)]) ?_⟩
      exact ⟨s1.fr (fr 7 (by decide)) (by rw [fr 6 (by decide)]) (fr 8 (by decide)) (by rw [fr 6 (by decide)]) (by rw [fr 6 (by decide)]), s2.fr (by rw [fr 6 (by decide)]) (fr 12 (by decide)), s3.fr (by rw [fr 5 (by decide)]) (fr 13 (by decide)), s4.fr (fr 14 (by decide)), ph, fun j hj => by rw [fr 2 (by decide)]; exact s6 j hj, fun j hj => by rw [fr 3 (by decide)]; exact s7 j hj, fun j hj => by rw [fr 4 (by decide)]; exact s8 j hj⟩
    · exact ⟨_, Or.inr ⟨no, rfl, rfl⟩, cl, CK.refl H⟩
  · rintro r' g' (⟨ok, rfl, rfl⟩ | ⟨no, rfl, rfl⟩)
    · obtain ⟨r1, r2, r3, r4, r5⟩ := r.1
      have fr := phF_fr (f := mi g) (a := 92) (b := 93) (o := 54) (v := 56) (n := PH.length) (p := a) (q := b)
      have f5 : ∀ j, j ≠ 56 → phF (mi g) 92 93 54 56 PH.length a b 54 j = mi g 54 j := fun j hj => phF_o (by decide) (by decide) hj
      have ph := r5.add (p := a) (q := b) (e := c) (by decide) (by decide) (by decide)
      have fl : Fr [94] (ml g) (up2 (ml g) 94 PH.length c) := Fr.refl.up List.mem_cons_self
      generalize phF (mi g) 92 93 54 56 PH.length a b = f1 at *
      generalize up2 (ml g) 94 PH.length c = l1 at *
      refine ⟨(X, OU, TD, CH, GS, CS, MS, PH ++ [(a.toInt, b.toInt, c.toInt)]), f1, l1, Or.inl ⟨ok, rfl, rfl⟩, rfl, r.ch (fun j hj => f5 j ?_) (fun x hx => fr x ?_) (fun x hx => fl x ?_) ⟨r1.fr (fr 61 (by decide)) (f5 9 (by decide)) (fr 62 (by decide)) (f5 10 (by decide)) (f5 11 (by decide)), r2.fr (f5 14 (by decide)) (fr 63 (by decide)), r3.fr (f5 1 (by decide)) (fr 55 (by decide)), r4.fr (fr 56 (by decide)), ph⟩, fr.mono (by decide), fl.mono (by decide)⟩
      · have : ∀ j ∈ [17, 32, 35, 36, 37, 45, 50, 51, 52], j ≠ 56 := by decide
        exact this j hj
      · have : ∀ x ∈ [64, 65, 67, 68, 69, 78, 81, 82, 83, 84, 85, 86, 87, 90], x ∉ [92, 93, 54] := by decide
        exact this x hx
      · have : ∀ x ∈ [70, 76, 77, 80, 89, 91], x ∉ [94] := by decide
        exact this x hx
    · exact ⟨_, mi g, ml g, Or.inr ⟨no, rfl, rfl⟩, rfl, r, Fr.refl, Fr.refl⟩
  · rintro s1 r (⟨ok, _, rfl⟩ | ⟨_, _, rfl⟩)
    · exact ⟨pu.1, pu.2.1, pu.2.2.add ok⟩
    · exact pu
theorem q_above : C_above IvW IvW := by
  rintro h a b H ⟨⟨X, OU, TD, CH, GS, CS, MS, PH⟩, pu, cl, rf⟩
  obtain ⟨O, sm, _⟩ := id cl
  obtain ⟨s1, s2, s3, s4, s5, s6, s7, s8⟩ := id sm
  have A := sp_Ho_above (h := h) (f := mi h) (l := ml h) pu.2.2 s5 a b
  rw [← H.sil] at A
  refine pL (Q := fun r s' => s' = (X, OU, TD, CH, GS, CS, MS, PH) ∧ AbvA (fun k => Cd PH k PH.length) PH a b r) (Q' := fun r s' => s' = (X, OU, TD, CH, GS, CS, MS, PH) ∧ AbvA (fun k => Cr PH k PH.length) PH a b r) H rf (SpL.mono A ?_) (fun g hS r => SpL.mono (sp_Ref_above pu.2.2 r.1.2.2.2.2 a b) ?_) ?_ ?_
  · rintro r g ⟨p, l', rfl, fl⟩
    exact ⟨_, ⟨rfl, p⟩, cl.sm H (A := [50]) (f' := mi h) (l' := l') Fr.refl fl (by decide) (fun _ _ => rfl) (sm.ch (fun _ _ => rfl) (fl 53 (by decide)) ⟨s1, s2, s3, s4⟩)⟩
  · rintro r' g' ⟨p, l', rfl, fl, _⟩
    exact ⟨_, mi g, l', ⟨rfl, p⟩, rfl, r.scL fl (by decide), Fr.refl, fl.mono (by decide)⟩
  · rintro s1 s2 r r' ⟨rfl, p⟩ ⟨rfl, p'⟩
    exact ⟨p.fn pu.2.2 p', rfl⟩
  · rintro s1 r ⟨rfl, _⟩
    exact pu
