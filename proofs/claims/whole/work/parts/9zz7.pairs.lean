/-! pairs of calls that only ask -/
def StF : List Nat := [1, 9, 10, 11, 14, 17, 32, 35, 36, 37, 45, 50, 51, 52, 56]
def StI : List Nat := [55, 56, 61, 62, 63, 64, 65, 67, 68, 69, 78, 81, 82, 83, 84, 85, 86, 87, 90, 92, 93]
def StL : List Nat := [70, 76, 77, 80, 89, 91, 94]
theorem RfS.sc {f f' : (Nat → Nat → Int32)} {l l' : (Nat → Nat → Int64)} {s : Sta} (r : RfS f l s) (e : ∀ j ∈ StF, f' 54 j = f 54 j) (i : ∀ a ∈ StI, f' a = f a) (j : ∀ a ∈ StL, l' a = l a) : RfS f' l' s := by
  obtain ⟨X, OU, TD, CH, GS, CS, MS, PH⟩ := s
  obtain ⟨⟨r1, r2, r3, r4, r5⟩, ⟨r6, r7⟩, ⟨r8, r9⟩, r10, r11⟩ := r
  refine ⟨⟨r1.fr (i 61 (by decide)) (e 9 (by decide)) (i 62 (by decide)) (e 10 (by decide)) (e 11 (by decide)), r2.fr (e 14 (by decide)) (i 63 (by decide)), r3.fr (e 1 (by decide)) (i 55 (by decide)), r4.fr (i 56 (by decide)), r5.fr2 (e 56 (by decide)) (i 92 (by decide)) (i 93 (by decide)) (j 94 (by decide))⟩, ⟨r6.fr (e 17 (by decide)) (i 64 (by decide)) (i 65 (by decide)), r7.fr (i 67 (by decide)) (i 68 (by decide)) (i 69 (by decide)) (j 70 (by decide))⟩, ⟨r8.fr (e 32 (by decide)) (j 76 (by decide)) (j 77 (by decide)) (i 78 (by decide)), r9.fr (e 35 (by decide)) (e 36 (by decide)) (e 37 (by decide)) (j 80 (by decide))⟩, r10.fr (e 45 (by decide)) (fun a ha => i a ?_), r11.fr (e 50 (by decide)) (e 51 (by decide)) (e 52 (by decide)) (i 90 (by decide)) (j 89 (by decide)) (j 91 (by decide))⟩
  have : ∀ a ∈ MdIds, a ∈ StI := by decide
  exact this a ha
theorem RfS.scF {f f' : (Nat → Nat → Int32)} {l : (Nat → Nat → Int64)} {s : Sta} {A : List Nat} (r : RfS f l s) (fr : Fr A f f') (hA : ∀ a ∈ 54 :: StI, a ∉ A) : RfS f' l s := r.sc (fun j _ => by rw [fr 54 (hA 54 List.mem_cons_self)]) (fun a ha => fr a (hA a (List.mem_cons_of_mem _ ha))) (fun _ _ => rfl)
theorem RfS.scL {f : (Nat → Nat → Int32)} {l l' : (Nat → Nat → Int64)} {s : Sta} {A : List Nat} (r : RfS f l s) (fr : Fr A l l') (hA : ∀ a ∈ StL, a ∉ A) : RfS f l' s := r.sc (fun j _ => rfl) (fun a ha => rfl) (fun a ha => fr a (hA a ha))
abbrev ScT (T : List Nat) : Prop := ∀ a ∈ T, (2 ≤ a ∧ a < 54) ∧ a ∉ KeepIds
def Rf0 (g : MH) (s : Sta) (g' : MH) : Prop := ∃ f' l', g' = sil g f' l' ∧ RfS f' l' s ∧ Fr RF (mi g) f' ∧ Fr RF (ml g) l'
theorem Rf0.same {g : MH} {s : Sta} (r : RfS (mi g) (ml g) s) : Rf0 g s (sil g (mi g) (ml g)) := ⟨_, _, rfl, r, Fr.refl, Fr.refl⟩
theorem Rf0.f {g : MH} {s : Sta} {A : List Nat} {f' : (Nat → Nat → Int32)} (r : RfS (mi g) (ml g) s) (fr : Fr A (mi g) f') (hA : ∀ a ∈ 54 :: StI, a ∉ A) (hR : ∀ a ∈ A, a ∈ RF) : Rf0 g s (sil g f' (ml g)) := ⟨_, _, rfl, r.scF fr hA, fr.mono hR, Fr.refl⟩
theorem Rf0.l {g : MH} {s : Sta} {A : List Nat} {l' : (Nat → Nat → Int64)} (r : RfS (mi g) (ml g) s) (fr : Fr A (ml g) l') (hA : ∀ a ∈ StL, a ∉ A) (hR : ∀ a ∈ A, a ∈ RF) : Rf0 g s (sil g (mi g) l') := ⟨_, _, rfl, r.scL fr hA, Fr.refl, fr.mono hR⟩
theorem Cl0.kp {h g : MH} {s : Sta} {T : List Nat} (H : SS h) (cl : ClS h s) (K : Kp T h g) (hT : ScT T) : ClS g s ∧ CK h g := ⟨cl.kp H K (fun a ha => ⟨by have := (hT a ha).1; omega, (hT a ha).2⟩), CK.kp H K (fun a ha => Or.inl (hT a ha).1)⟩
theorem pI0 {kH kR : Nat} {as : List Value} {h : MH} {s : Sta} {P P' : Int32 → Prop} {T : List Nat} (H : SS h) (pu : PuS s) (cl : ClS h s) (rf : RfS (mi h) (ml h) s) (hT : ScT T)
    (A : SpI kH (.ref 5 :: as) h (fun r g => P r ∧ Kp T h g))
    (B : ∀ g, SS g → RfS (mi g) (ml g) s → SpI kR (.ref 54 :: as) (sil g (mi g) (ml g)) (fun r g' => P' r ∧ Rf0 g s g'))
    (fn : ∀ r r', P r → P' r' → r = r') : PaI kH kR as h IvW := by
  refine pI (Q := fun r s' => s' = s ∧ P r) (Q' := fun r s' => s' = s ∧ P' r) H rf (SpI.mono A ?_) (fun g hg r => SpI.mono (B g hg r) ?_) ?_ ?_
  · rintro r g ⟨p, K⟩
    exact ⟨s, ⟨rfl, p⟩, Cl0.kp H cl K hT⟩
  · rintro r g' ⟨p, f', l', w⟩
    exact ⟨s, f', l', ⟨rfl, p⟩, w⟩
  · rintro s1 s2 r r' ⟨rfl, p⟩ ⟨rfl, p'⟩
    exact ⟨fn r r' p p', rfl⟩
  · rintro s1 r ⟨rfl, _⟩
    exact pu
theorem pL0 {kH kR : Nat} {as : List Value} {h : MH} {s : Sta} {P P' : Int64 → Prop} {T : List Nat} (H : SS h) (pu : PuS s) (cl : ClS h s) (rf : RfS (mi h) (ml h) s) (hT : ScT T)
    (A : SpL kH (.ref 5 :: as) h (fun r g => P r ∧ Kp T h g))
    (B : ∀ g, SS g → RfS (mi g) (ml g) s → SpL kR (.ref 54 :: as) (sil g (mi g) (ml g)) (fun r g' => P' r ∧ Rf0 g s g'))
    (fn : ∀ r r', P r → P' r' → r = r') : PaL kH kR as h IvW := by
  refine pL (Q := fun r s' => s' = s ∧ P r) (Q' := fun r s' => s' = s ∧ P' r) H rf (SpL.mono A ?_) (fun g hg r => SpL.mono (B g hg r) ?_) ?_ ?_
  · rintro r g ⟨p, K⟩
    exact ⟨s, ⟨rfl, p⟩, Cl0.kp H cl K hT⟩
  · rintro r g' ⟨p, f', l', w⟩
    exact ⟨s, f', l', ⟨rfl, p⟩, w⟩
  · rintro s1 s2 r r' ⟨rfl, p⟩ ⟨rfl, p'⟩
    exact ⟨fn r r' p p', rfl⟩
  · rintro s1 r ⟨rfl, _⟩
    exact pu
/-! pure facts -/
theorem HGrp.ok {h : MH} {O : Nat → Nat} {GS : List (List Nat)} (hg : HGrp h O GS) : ∀ S ∈ GS, GOk S := fun S hS => by
  obtain ⟨i, hi, e⟩ := List.getElem_of_mem hS
  have := (hg.2.2 i hi).1
  rw [List.getD_eq_getElem?_getD, List.getElem?_eq_getElem hi] at this
  rw [← e]
  exact this
theorem HCel.ok {h : MH} {O : Nat → Nat} {CS : List S6} (hc : HCel h O CS) : ∀ j, j < CS.length → okC (CS.getD j z6) := fun j hj => (hc.2.2 j hj).1
theorem HMdl.okS {h : MH} {O : Nat → Nat} {ng : Nat} {CS : List S6} {MS : List Mdl} (hm : HMdl h O ng CS MS) : okMS ng CS.length MS := fun j hj => (hm.2.2 j hj).1
theorem q_of : C_of IvW IvW := by
  rintro h a b c H ⟨⟨X, OU, TD, CH, GS, CS, MS, PH⟩, pu, cl, rf⟩
  obtain ⟨O, sm, hg, hc, hm⟩ := id cl
  refine pI0 (P := fun r => MemA (fun x r => OfV x c r) GS a b r) (P' := fun r => MemA (fun x r => OfV x c r) GS a b r) (T := MoIds) H pu cl rf (by decide) (sp_Ho_of H hg a b c) (fun g hS r => SpI.mono (sp_Ref_of r.2.1.1 hg.ok a b c) ?_) (fun r r' p p' => MemA.fn (P := fun x r => OfV x c r) hg.1 hg.ok (fun _ _ _ => OfV.fn) p p')
  rintro r _ ⟨p, f', rfl, fr⟩
  exact ⟨p, Rf0.f ‹_› fr (by decide) (by decide)⟩
theorem q_product : C_product IvW IvW := by
  rintro h a b c H ⟨⟨X, OU, TD, CH, GS, CS, MS, PH⟩, pu, cl, rf⟩
  obtain ⟨O, sm, hg, hc, hm⟩ := id cl
  refine pI0 (P := fun r => ProdA GS a b c r) (P' := fun r => ProdA GS a b c r) (T := MoIds) H pu cl rf (by decide) (sp_Ho_product H hg a b c) (fun g hS r => SpI.mono (sp_Ref_product r.2.1.1 hg.ok a b c) ?_) (fun r r' p p' => p.fn hg.1 hg.ok p')
  rintro r _ ⟨p, f', rfl, fr⟩
  exact ⟨p, Rf0.f ‹_› fr (by decide) (by decide)⟩
theorem q_within : C_within IvW IvW := by
  rintro h a b H ⟨⟨X, OU, TD, CH, GS, CS, MS, PH⟩, pu, cl, rf⟩
  obtain ⟨O, sm, hg, hc, hm⟩ := id cl
  refine pI0 (P := fun r => WithA GS a b r) (P' := fun r => WithA GS a b r) (T := []) H pu cl rf (by decide) (SpI.mono (sp_Ho_within H hg a b) ?_) (fun g hS r => SpI.mono (sp_Ref_within r.2.1.1 hg.ok a b) ?_) (fun r r' p p' => p.fn hg.1 p')
  · rintro r _ ⟨p, rfl⟩
    exact ⟨p, Kp.refl H⟩
  · rintro r _ ⟨p, rfl⟩
    exact ⟨p, Rf0.same ‹_›⟩
theorem q_orbit (site : ∀ S, GOk S → ∀ p, p < 13824 → ∃ i, CtOK (keepL S p) i) : C_orbit IvW IvW := by
  rintro h a b c H ⟨⟨X, OU, TD, CH, GS, CS, MS, PH⟩, pu, cl, rf⟩
  obtain ⟨O, sm, hg, hc, hm⟩ := id cl
  refine pI0 (P := fun r => OrbA GS a b c r) (P' := fun r => OrbA GS a b c r) (T := [37, 38, 39, 40]) H pu cl rf (by decide) (sp_Ho_orbit H hg sm.2.2.2.2.2.1 (fun S hS => site S (hg.ok S hS)) a b c) (fun g hS r => SpI.mono (sp_Ref_orbit r.2.1.1 hg.ok (fun S hS => site S (hg.ok S hS)) a b c) ?_) (fun r r' p p' => p.fn hg.1 hg.ok p')
  rintro r _ ⟨p, f', rfl, fr⟩
  exact ⟨p, Rf0.f ‹_› fr (by decide) (by decide)⟩
theorem q_wave : C_wave IvW IvW := by
  rintro h a b c d e H ⟨⟨X, OU, TD, CH, GS, CS, MS, PH⟩, pu, cl, rf⟩
  obtain ⟨O, sm, hg, hc, hm⟩ := id cl
  refine pI0 (P := fun r => WvA GS a (b.toInt, c.toInt, d.toInt) e r) (P' := fun r => WvA GS a (b.toInt, c.toInt, d.toInt) e r) (T := [37, 38, 39, 40]) H pu cl rf (by decide) (sp_Ho_wave H hg a b c d e) (fun g hS r => SpI.mono (sp_Ref_wave r.2.1.1 hg.ok a b c d e) ?_) (fun r r' p p' => p.fn hg.1 p')
  rintro r _ ⟨p, f', rfl, fr, f5⟩
  refine ⟨p, f', ml g, rfl, RfS.sc ‹_› (fun j hj => ?_) (fun x hx => fr x ?_) (fun _ _ => rfl), fr.mono (by decide), Fr.refl⟩
  · have : ∀ j ∈ StF, j ≠ 62 ∧ j ≠ 63 ∧ j ≠ 64 ∧ j ≠ 65 := by decide
    obtain ⟨a1, a2, a3, a4⟩ := this j hj
    exact f5 j a1 a2 a3 a4
  · have : ∀ a ∈ StI, a ∉ [54, 57, 58, 98] := by decide
    exact this x hx
theorem q_fits : C_fits IvW IvW := by
  rintro h a b H ⟨⟨X, OU, TD, CH, GS, CS, MS, PH⟩, pu, cl, rf⟩
  obtain ⟨O, sm, hg, hc, hm⟩ := id cl
  refine pI0 (P := fun r => FitA GS CS a b r) (P' := fun r => FitA GS CS a b r) (T := [37, 38]) H pu cl rf (by decide) (sp_Ho_fits H hg hc a b) (fun g hS r => SpI.mono (sp_Ref_fits r.2.1.1 hg.ok r.2.2.1.1 hc.ok a b) ?_) (fun r r' p p' => p.fn hg.1 hc.1 p')
  rintro r _ ⟨p, f', rfl, fr⟩
  exact ⟨p, Rf0.f ‹_› fr (by decide) (by decide)⟩
theorem q_placed : C_placed IvW IvW := by
  rintro h a b c H ⟨⟨X, OU, TD, CH, GS, CS, MS, PH⟩, pu, cl, rf⟩
  obtain ⟨O, sm, hg, hc, hm⟩ := id cl
  refine pI0 (P := fun r => PlcA MS a b c r) (P' := fun r => PlcA MS a b c r) (T := []) H pu cl rf (by decide) (SpI.mono (sp_Ho_placed H hm a b c) ?_) (fun g hS r => SpI.mono (sp_Ref_placed r.2.2.2.1 hm.okS a b c) ?_) (fun r r' p p' => p.fn hm.1 hm.okS p')
  · rintro r _ ⟨rfl, p⟩
    exact ⟨p, Kp.refl H⟩
  · rintro r _ ⟨rfl, p⟩
    exact ⟨p, Rf0.same ‹_›⟩
theorem q_amplitude : C_amplitude IvW IvW := by
  rintro h a b c d e H ⟨⟨X, OU, TD, CH, GS, CS, MS, PH⟩, pu, cl, rf⟩
  obtain ⟨O, sm, hg, hc, hm⟩ := id cl
  refine pL0 (P := fun r => AmA MS a b c d e r) (P' := fun r => AmA MS a b c d e r) (T := [46, 47, 48, 49]) H pu cl rf (by decide) (sp_Ho_amplitude H hm sm.2.2.2.2.2.2.1 a b c d e) (fun g hS r => SpL.mono (sp_Ref_amplitude r.2.2.2.1 hm.okS a b c d e) ?_) (fun r r' p p' => p.fn hm.1 p')
  rintro r _ ⟨p, l', rfl, fr⟩
  exact ⟨p, Rf0.l ‹_› fr (by decide) (by decide)⟩
theorem q_distance : C_distance IvW IvW := by
  rintro h a b c H ⟨⟨X, OU, TD, CH, GS, CS, MS, PH⟩, pu, cl, rf⟩
  obtain ⟨O, sm, hg, hc, hm⟩ := id cl
  refine pL0 (P := fun r => DstA MS CS a b c r) (P' := fun r => DstA MS CS a b c r) (T := []) H pu cl rf (by decide) (SpL.mono (sp_Ho_distance H hc hm a b c) ?_) (fun g hS r => SpL.mono (sp_Ref_distance r.2.2.2.1 r.2.2.1.1 hc.ok hm.okS a b c) ?_) (fun r r' p p' => p.fn hm.1 hm.okS p')
  · rintro r _ ⟨rfl, p⟩
    exact ⟨p, Kp.refl H⟩
  · rintro r _ ⟨rfl, p⟩
    exact ⟨p, Rf0.same ‹_›⟩
theorem q_near : C_near IvW IvW := by
  rintro h a b c H ⟨⟨X, OU, TD, CH, GS, CS, MS, PH⟩, pu, cl, rf⟩
  obtain ⟨O, sm, hg, hc, hm⟩ := id cl
  refine pI0 (P := fun r => NrA MS CS a b c r) (P' := fun r => NrA MS CS a b c r) (T := []) H pu cl rf (by decide) (SpI.mono (sp_Ho_near H hc hm a b c) ?_) (fun g hS r => SpI.mono (sp_Ref_near r.2.2.2.1 r.2.2.1.1 hc.ok hm.okS a b c) ?_) (fun r r' p p' => p.fn hm.1 hm.okS p')
  · rintro r _ ⟨rfl, p⟩
    exact ⟨p, Kp.refl H⟩
  · rintro r _ ⟨rfl, p⟩
    exact ⟨p, Rf0.same ‹_›⟩
theorem q_map : C_map IvW IvW := by
  rintro h a b H ⟨⟨X, OU, TD, CH, GS, CS, MS, PH⟩, pu, cl, rf⟩
  obtain ⟨O, sm, hg, hc, hm⟩ := id cl
  refine pL0 (P := fun r => MpA MS a b r) (P' := fun r => MpA MS a b r) (T := []) H pu cl rf (by decide) (SpL.mono (sp_Ho_map H hm a b) ?_) (fun g hS r => SpL.mono (sp_Ref_map r.2.2.2.1 hm.okS a b) ?_) (fun r r' p p' => p.fn hm.1 p')
  · rintro r _ ⟨rfl, p⟩
    exact ⟨p, Kp.refl H⟩
  · rintro r _ ⟨rfl, p⟩
    exact ⟨p, Rf0.same ‹_›⟩
