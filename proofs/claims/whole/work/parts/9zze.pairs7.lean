/-! group, about, half -/
def SmIds : List Nat := [2, 3, 4, 6, 7, 8, 12, 13, 43, 44, 50, 51, 52, 53]
theorem ClS.grp {A : List Nat} {h k : MH} {O O' : Nat → Nat} {X : TxS} {OU TD : List Nat} {CH CH' : Nat → Prop} {GS GS' : List (List Nat)} {CS : List S6} {MS : List Mdl} {PH : List Ph} (H : SS h) (sm : SmC (mi h) (ml h) X OU TD CH PH) (hc : HCel h O CS) (hm : HMdl h O GS.length CS MS) (K : Kp A h k) (hA : ∀ a ∈ A, ((2 ≤ a ∧ a < 54) ∧ a ∉ SmIds) ∨ (99 ≤ a ∧ O a < 60)) (e5 : ∀ j ∈ [3, 14, 16], mi k 5 j = mi h 5 j) (e29 : ∀ i, i < GS.length → mr k 29 i = mr h 29 i) (hO : ∀ a, a < hn h → O' a = O a) (hg : HGrp k O' GS') (le : GS.length ≤ GS'.length) (ch : Chs (mi k) 14 CH') : ClS k (X, OU, TD, CH', GS', CS, MS, PH) ∧ CK h k := by
  have h99 := H.1
  have no : ∀ a ∈ SmIds, a ∉ A := fun a ha q => by
    rcases hA a q with w | w
    · exact w.2 ha
    · have : ∀ a ∈ SmIds, a < 99 := by decide
      have := this a ha
      omega
  have lt : ∀ a ∈ SmIds, a < hn h := fun a ha => by
    have : ∀ a ∈ SmIds, a < 99 := by decide
    have := this a ha
    omega
  have i : ∀ a ∈ SmIds, mi k a = mi h a := fun a ha => K.i (lt a ha) (no a ha)
  have ne : ∀ b ∈ SmIds, ∀ a ∈ A, a ≠ b := fun b hb a ha e => no b hb (by rw [← e]; exact ha)
  have i6 := i 6 (by decide)
  refine ⟨⟨O', sm.ch (fun a ha => i a ?_) (K.l (lt 53 (by decide)) (no 53 (by decide))) ⟨sm.1.fr (i 7 (by decide)) (by rw [i6]) (i 8 (by decide)) (by rw [i6]) (by rw [i6]), sm.2.1.fr (by rw [i6]) (i 12 (by decide)), sm.2.2.1.fr (e5 3 (by decide)) (i 13 (by decide)), ch⟩, hg, hc.kp H K (fun a ha => ?_) (e5 14 (by decide)) hO, hm.kp H K (fun a ha => ?_) (e5 16 (by decide)) hO e29 (fun j _ => by rw [K.r (lt 43 (by decide)) (no 43 (by decide))]) le (Nat.le_refl _) (fun _ _ => rfl)⟩, CK.kp H K (fun a ha => ?_)⟩
  · have : ∀ a ∈ [2, 3, 4, 50, 51, 52], a ∈ SmIds := by decide
    exact this a ha
  · rcases hA a ha with w | w
    · exact Or.inl ⟨by omega, ne 43 (by decide) a ha⟩
    · exact Or.inr ⟨w.1, Or.inl w.2⟩
  · rcases hA a ha with w | w
    · exact Or.inl ⟨by omega, ne 44 (by decide) a ha⟩
    · exact Or.inr ⟨w.1, by omega⟩
  · rcases hA a ha with w | w
    · exact Or.inl w.1
    · exact Or.inr w.1
theorem Reg.le {GS GS' : List (List Nat)} {S : List Nat} {r : Int32} (h : Reg GS S r GS') : GS.length ≤ GS'.length := by
  rcases h with ⟨_, _, _, _, _, e⟩ | ⟨_, ⟨_, _, e⟩ | ⟨lt, _, e⟩⟩
  · rw [e]; exact Nat.le_refl _
  · rw [e]; exact Nat.le_refl _
  · rw [e, List.length_append]; exact Nat.le_add_right _ _
def GrQ (G : Nat → Prop) (GS : List (List Nat)) (r : Int32) (GS' : List (List Nat)) : Prop := (¬ Good G ∧ r = -1 ∧ GS' = GS) ∨ (Good G ∧ ∃ S, S.Pairwise (· < ·) ∧ (∀ x, x ∈ S ↔ reach G x) ∧ Reg GS S r GS')
theorem GrQ.fn {G : Nat → Prop} {GS G1 G2 : List (List Nat)} {r r' : Int32} (h : GrQ G GS r G1) (h' : GrQ G GS r' G2) : r = r' ∧ G1 = G2 := by
  rcases h with ⟨a, b, c⟩ | ⟨a, S, b, c, d⟩ <;> rcases h' with ⟨a', b', c'⟩ | ⟨a', S', b', c', d'⟩
  · exact ⟨b.trans b'.symm, c.trans c'.symm⟩
  · exact absurd a' a
  · exact absurd a a'
  · have e : S = S' := srt_eq b b' (fun x => (c x).trans (c' x).symm)
    subst e
    exact d.fn d'
theorem GrQ.le {G : Nat → Prop} {GS G1 : List (List Nat)} {r : Int32} (h : GrQ G GS r G1) : GS.length ≤ G1.length := by
  rcases h with ⟨_, _, c⟩ | ⟨_, S, _, _, d⟩
  · rw [c]; exact Nat.le_refl _
  · exact d.le
theorem GrQ.kn {G : Nat → Prop} {GS G1 : List (List Nat)} {r : Int32} {f : (Nat → Nat → Int32)} {l : (Nat → Nat → Int64)} (h : GrQ G GS r G1) (k : RKn f l GS) : RKn f l G1 := by
  rcases h with ⟨_, _, c⟩ | ⟨_, S, _, _, d⟩
  · rw [c]; exact k
  · exact k.reg d
theorem q_group : C_group IvW IvW := by
  rintro h H ⟨⟨X, OU, TD, CH, GS, CS, MS, PH⟩, pu, cl, rf⟩
  obtain ⟨O, sm, hg, hc, hm⟩ := id cl
  refine pI (Q := fun r s' => ∃ GS', GrQ (GOf TD CH) GS r GS' ∧ s' = (X, OU, TD, (fun _ => False), GS', CS, MS, PH)) (Q' := fun r s' => ∃ GS', GrQ (GOf TD CH) GS r GS' ∧ s' = (X, OU, TD, (fun _ => False), GS', CS, MS, PH)) H rf (SpI.mono (sp_Ho_group H sm.2.2.1 sm.2.2.2.1 pu.2.1 hg) ?_) (fun g hS r => SpI.mono (sp_Ref_group r.1.2.2.1 r.1.2.2.2.1 pu.2.1 r.2.1.1) ?_) ?_ ?_
  · rintro r g ⟨O', GS', K, hf, hO, ch, hg', res⟩
    have q : GrQ (GOf TD CH) GS r GS' := res
    refine ⟨(X, OU, TD, (fun _ => False), GS', CS, MS, PH), ⟨GS', q, rfl⟩, ClS.grp H sm hc hm K (fun a ha => Or.inl ?_) (fun j hj => hf.1 j ?_) hf.2.2.2.2.2 hO hg' q.le ch⟩
    · have : ∀ a ∈ HgIds, (2 ≤ a ∧ a < 54) ∧ a ∉ SmIds := by decide
      exact this a ha
    · have : ∀ j ∈ [3, 14, 16], j ≠ 6 := by decide
      exact this j hj
  · rintro r' g' ⟨f', GS', rfl, fr, f5, ch, hg', res⟩
    have q : GrQ (GOf TD CH) GS r' GS' := res
    obtain ⟨⟨r1, r2, r3, r4, r5⟩, ⟨r6, r7⟩, ⟨r8, r9⟩, r10, r11⟩ := r
    have e5 : ∀ j ∈ StF, j ≠ 17 → f' 54 j = mi g 54 j := fun j hj h17 => by
      have : ∀ j ∈ StF, j ≠ 19 := by decide
      exact f5 j h17 (this j hj)
    refine ⟨(X, OU, TD, (fun _ => False), GS', CS, MS, PH), f', ml g, ⟨GS', q, rfl⟩, rfl, ⟨⟨r1.fr (fr 61 (by decide)) (e5 9 (by decide) (by decide)) (fr 62 (by decide)) (e5 10 (by decide) (by decide)) (e5 11 (by decide) (by decide)), r2.fr (e5 14 (by decide) (by decide)) (fr 63 (by decide)), r3.fr (e5 1 (by decide) (by decide)) (fr 55 (by decide)), ch, r5.fr2 (e5 56 (by decide) (by decide)) (fr 92 (by decide)) (fr 93 (by decide)) rfl⟩, ⟨hg', (q.kn r7).fr (fr 67 (by decide)) (fr 68 (by decide)) (fr 69 (by decide)) rfl⟩, ⟨r8.fr (e5 32 (by decide) (by decide)) rfl rfl (fr 78 (by decide)), r9.fr (e5 35 (by decide) (by decide)) (e5 36 (by decide) (by decide)) (e5 37 (by decide) (by decide)) rfl⟩, r10.fr (e5 45 (by decide) (by decide)) (fun a ha => fr a ?_), r11.fr (e5 50 (by decide) (by decide)) (e5 51 (by decide) (by decide)) (e5 52 (by decide) (by decide)) (fr 90 (by decide)) rfl rfl⟩, fr.mono (by decide), Fr.refl⟩
    have : ∀ a ∈ MdIds, a ∉ (56 :: 64 :: 65 :: RgIds) := by decide
    exact this a ha
  · rintro s1 s2 r r' ⟨G1, q1, rfl⟩ ⟨G2, q2, rfl⟩
    obtain ⟨e1, e2⟩ := q1.fn q2
    exact ⟨e1, by rw [e2]⟩
  · rintro s1 r ⟨G1, q1, rfl⟩
    exact ⟨pu.1, fun i q => q.elim, pu.2.2⟩
theorem q_about (cls : ∀ S, GOk S → ∃ i, CtOK (brK S S.length) i) : C_about IvW IvW := by
  rintro h a b H ⟨⟨X, OU, TD, CH, GS, CS, MS, PH⟩, pu, cl, rf⟩
  obtain ⟨O, sm, hg, hc, hm⟩ := id cl
  refine pI (Q := fun r s' => s' = (X, OU, TD, CH, GS, CS, MS, PH) ∧ AboA GS a b r) (Q' := fun r s' => s' = (X, OU, TD, CH, GS, CS, MS, PH) ∧ AboA GS a b r) H rf (SpI.mono (sp_Ho_about H hg sm.2.2.2.2.2.1 (fun S hS => cls S (hg.ok S hS)) a b) ?_) (fun g hS r => SpI.mono (sp_Ref_about r.2.1.1 hg.ok r.2.1.2 (fun S hS => cls S (hg.ok S hS)) a b) ?_) ?_ ?_
  · rintro r g ⟨p, O', ⟨A, K, hA, hO⟩, hg'⟩
    have h99 := H.1
    have nA : ∀ x, x < 99 → x ∉ AbIds → x ∉ A := fun x h1 h2 q => (hA x q).elim h2 (fun w => by omega)
    have e5 := K.i (x := 5) (by omega) (nA 5 (by omega) (by decide))
    refine ⟨(X, OU, TD, CH, GS, CS, MS, PH), ⟨rfl, p⟩, ClS.grp H sm hc hm K (fun x hx => (hA x hx).imp (fun w => ?_) id) (fun j _ => by rw [e5]) (fun i _ => by rw [K.r (by omega) (nA 29 (by omega) (by decide))]) hO hg' (Nat.le_refl _) (sm.2.2.2.1.fr (K.i (by omega) (nA 14 (by omega) (by decide))))⟩
    have : ∀ a ∈ AbIds, (2 ≤ a ∧ a < 54) ∧ a ∉ SmIds := by decide
    exact this x w
  · rintro r' g' ⟨p, f', l', rfl, fr, fl, kn⟩
    obtain ⟨⟨r1, r2, r3, r4, r5⟩, ⟨r6, r7⟩, ⟨r8, r9⟩, r10, r11⟩ := r
    have i54 := fr 54 (by decide)
    refine ⟨(X, OU, TD, CH, GS, CS, MS, PH), f', l', ⟨rfl, p⟩, rfl, ⟨⟨r1.fr (fr 61 (by decide)) (by rw [i54]) (fr 62 (by decide)) (by rw [i54]) (by rw [i54]), r2.fr (by rw [i54]) (fr 63 (by decide)), r3.fr (by rw [i54]) (fr 55 (by decide)), r4.fr (fr 56 (by decide)), r5.fr2 (by rw [i54]) (fr 92 (by decide)) (fr 93 (by decide)) (fl 94 (by decide))⟩, ⟨r6.fr (by rw [i54]) (fr 64 (by decide)) (fr 65 (by decide)), kn⟩, ⟨r8.fr (by rw [i54]) (fl 76 (by decide)) (fl 77 (by decide)) (fr 78 (by decide)), r9.fr (by rw [i54]) (by rw [i54]) (by rw [i54]) (fl 80 (by decide))⟩, r10.fr (by rw [i54]) (fun a ha => fr a ?_), r11.fr (by rw [i54]) (by rw [i54]) (by rw [i54]) (fr 90 (by decide)) (fl 89 (by decide)) (fl 91 (by decide))⟩, fr.mono (by decide), fl.mono (by decide)⟩
    have : ∀ a ∈ MdIds, a ∉ RaIds := by decide
    exact this a ha
  · rintro s1 s2 r r' ⟨rfl, p⟩ ⟨rfl, p'⟩
    exact ⟨p.fn hg.1 p', rfl⟩
  · rintro s1 r ⟨rfl, _⟩
    exact pu
theorem HalfA.le {GS GS' : List (List Nat)} {x w r : Int32} (h : HalfA GS x w r GS') : GS.length ≤ GS'.length := by
  rcases h with ⟨i, hi, _, ⟨_, _, e⟩ | ⟨_, L, _, _, ⟨k, T, _, _, _, d⟩ | ⟨_, _, e⟩⟩⟩ | ⟨_, _, e⟩
  · rw [e]; exact Nat.le_refl _
  · exact d.le
  · rw [e]; exact Nat.le_refl _
  · rw [e]; exact Nat.le_refl _
theorem q_half : C_half IvW IvW := by
  rintro h a b H ⟨⟨X, OU, TD, CH, GS, CS, MS, PH⟩, pu, cl, rf⟩
  obtain ⟨O, sm, hg, hc, hm⟩ := id cl
  refine pI (Q := fun r s' => ∃ GS', HalfA GS a b r GS' ∧ s' = (X, OU, TD, CH, GS', CS, MS, PH)) (Q' := fun r s' => ∃ GS', HalfA GS a b r GS' ∧ s' = (X, OU, TD, CH, GS', CS, MS, PH)) H rf (SpI.mono (sp_Ho_half H hg a b) ?_) (fun g hS r => SpI.mono (sp_Ref_half r.2.1.1 hg.ok r.2.1.2 a b) ?_) ?_ ?_
  · rintro r g ⟨O', GS', q, ⟨A, K, hA, hO⟩, hf, hg'⟩
    have h99 := H.1
    have nA : ∀ x, x < 99 → x ∉ HfIds → x ∉ A := fun x h1 h2 q => (hA x q).elim h2 (fun w => by omega)
    refine ⟨(X, OU, TD, CH, GS', CS, MS, PH), ⟨GS', q, rfl⟩, ClS.grp H sm hc hm K (fun x hx => (hA x hx).imp (fun w => ?_) id) (fun j hj => hf.1 j ?_) hf.2.2.2.2.2 hO hg' q.le (sm.2.2.2.1.fr (K.i (by omega) (nA 14 (by omega) (by decide))))⟩
    · have : ∀ a ∈ HfIds, (2 ≤ a ∧ a < 54) ∧ a ∉ SmIds := by decide
      exact this x w
    · have : ∀ j ∈ [3, 14, 16], j ≠ 6 := by decide
      exact this j hj
  · rintro r' g' ⟨f', l', GS', rfl, q, fr, f5, fl, hg', kn⟩
    obtain ⟨⟨r1, r2, r3, r4, r5⟩, ⟨r6, r7⟩, ⟨r8, r9⟩, r10, r11⟩ := r
    have e5 : ∀ j ∈ StF, j ≠ 17 → f' 54 j = mi g 54 j := fun j hj h17 => by
      have : ∀ j ∈ StF, j ≠ 19 := by decide
      exact f5 j h17 (this j hj)
    refine ⟨(X, OU, TD, CH, GS', CS, MS, PH), f', l', ⟨GS', q, rfl⟩, rfl, ⟨⟨r1.fr (fr 61 (by decide)) (e5 9 (by decide) (by decide)) (fr 62 (by decide)) (e5 10 (by decide) (by decide)) (e5 11 (by decide) (by decide)), r2.fr (e5 14 (by decide) (by decide)) (fr 63 (by decide)), r3.fr (e5 1 (by decide) (by decide)) (fr 55 (by decide)), r4.fr (fr 56 (by decide)), r5.fr2 (e5 56 (by decide) (by decide)) (fr 92 (by decide)) (fr 93 (by decide)) (fl 94 (by decide))⟩, ⟨hg', kn⟩, ⟨r8.fr (e5 32 (by decide) (by decide)) (fl 76 (by decide)) (fl 77 (by decide)) (fr 78 (by decide)), r9.fr (e5 35 (by decide) (by decide)) (e5 36 (by decide) (by decide)) (e5 37 (by decide) (by decide)) (fl 80 (by decide))⟩, r10.fr (e5 45 (by decide) (by decide)) (fun a ha => fr a ?_), r11.fr (e5 50 (by decide) (by decide)) (e5 51 (by decide) (by decide)) (e5 52 (by decide) (by decide)) (fr 90 (by decide)) (fl 89 (by decide)) (fl 91 (by decide))⟩, fr.mono (by decide), fl.mono (by decide)⟩
    have : ∀ a ∈ MdIds, a ∉ RhIds := by decide
    exact this a ha
  · rintro s1 s2 r r' ⟨G1, q1, rfl⟩ ⟨G2, q2, rfl⟩
    obtain ⟨e1, e2⟩ := q1.fn hg.1 q2
    exact ⟨e1, by rw [e2]⟩
  · rintro s1 r ⟨G1, q1, rfl⟩
    exact pu
