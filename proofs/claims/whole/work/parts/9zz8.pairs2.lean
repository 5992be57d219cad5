/-! pairs of calls that change what is told -/
theorem ClS.sm {A : List Nat} {h : MH} {f' : (Nat → Nat → Int32)} {l' : (Nat → Nat → Int64)} {X X' : TxS} {OU OU' TD TD' : List Nat} {CH CH' : Nat → Prop} {GS : List (List Nat)} {CS : List S6} {MS : List Mdl} {PH PH' : List Ph} (H : SS h) (cl : ClS h (X, OU, TD, CH, GS, CS, MS, PH)) (fr1 : Fr A (mi h) f') (fr2 : Fr A (ml h) l') (hA : ∀ a ∈ A, (2 ≤ a ∧ a < 54) ∧ a ∉ [29, 43, 44]) (e5 : ∀ j ∈ [6, 14, 16], f' 5 j = mi h 5 j) (sm : SmC f' l' X' OU' TD' CH' PH') : ClS (sil h f' l') (X', OU', TD', CH', GS, CS, MS, PH') ∧ CK h (sil h f' l') := by
  obtain ⟨O, _, hg, hc, hm⟩ := cl
  have K : Kp A h (sil h f' l') := Kp.si3 H fr1 fr2
  have ne : ∀ b ∈ [29, 43, 44], ∀ a ∈ A, a ≠ b := fun b hb a ha e => (hA a ha).2 (by rw [e]; exact hb)
  have lt : ∀ a ∈ A, a < 99 := fun a ha => by have := (hA a ha).1; omega
  refine ⟨⟨O, by rw [mi_sil, ml_sil]; exact sm, hg.kp H K (fun a ha => Or.inl ⟨lt a ha, ne 29 (by decide) a ha⟩) (by rw [mi_sil]; exact e5 6 (by decide)) (fun _ _ => rfl), hc.kp H K (fun a ha => Or.inl ⟨lt a ha, ne 43 (by decide) a ha⟩) (by rw [mi_sil]; exact e5 14 (by decide)) (fun _ _ => rfl), hm.kp H K (fun a ha => Or.inl ⟨lt a ha, ne 44 (by decide) a ha⟩) (by rw [mi_sil]; exact e5 16 (by decide)) (fun _ _ => rfl) (fun j _ => by rw [mr_sil H]) (fun j _ => by rw [mr_sil H]) (Nat.le_refl _) (Nat.le_refl _) (fun _ _ => rfl)⟩, CK.kp H K (fun a ha => Or.inl (hA a ha).1)⟩
def fdW (a b c d e : Int32) (j : Nat) : Int32 := yb (if j < 4 then a else if j < 8 then b else if j < 12 then c else if j < 16 then d else e) (j % 4)
theorem j20 {P : Nat → Prop} (h : P 0 ∧ P 1 ∧ P 2 ∧ P 3 ∧ P 4 ∧ P 5 ∧ P 6 ∧ P 7 ∧ P 8 ∧ P 9 ∧ P 10 ∧ P 11 ∧ P 12 ∧ P 13 ∧ P 14 ∧ P 15 ∧ P 16 ∧ P 17 ∧ P 18 ∧ P 19) : ∀ j, j < 20 → P j := by
  obtain ⟨p0, p1, p2, p3, p4, p5, p6, p7, p8, p9, p10, p11, p12, p13, p14, p15, p16, p17, p18, p19⟩ := h
  intro j hj
  match j, hj with
  | 0, _ => exact p0
  | 1, _ => exact p1
  | 2, _ => exact p2
  | 3, _ => exact p3
  | 4, _ => exact p4
  | 5, _ => exact p5
  | 6, _ => exact p6
  | 7, _ => exact p7
  | 8, _ => exact p8
  | 9, _ => exact p9
  | 10, _ => exact p10
  | 11, _ => exact p11
  | 12, _ => exact p12
  | 13, _ => exact p13
  | 14, _ => exact p14
  | 15, _ => exact p15
  | 16, _ => exact p16
  | 17, _ => exact p17
  | 18, _ => exact p18
  | 19, _ => exact p19
  | n + 20, hj => exact absurd hj (by omega)
theorem lay4_W {f : (Nat → Nat → Int32)} {a b c d e : Int32} : ∀ j, j < 20 → lay4 (lay4 (lay4 (lay4 (lay4 f 7 0 a) 7 4 b) 7 8 c) 7 12 d) 7 16 e 7 j = fdW a b c d e j := by
  apply j20
  unfold lay4
  simp (disch := decide) only [Nat.zero_add, Nat.reduceAdd, up2_s, up2_ni]
  exact ⟨rfl, rfl, rfl, rfl, rfl, rfl, rfl, rfl, rfl, rfl, rfl, rfl, rfl, rfl, rfl, rfl, rfl, rfl, rfl, rfl⟩
theorem lay5_W {f : (Nat → Nat → Int32)} {a b c d e : Int32} : ∀ j, j < 20 → lay5 (lay5 (lay5 (lay5 f 61 0 a b c d e) 61 1 a b c d e) 61 2 a b c d e) 61 3 a b c d e 61 j = fdW a b c d e j := by
  apply j20
  unfold lay5
  simp (disch := decide) only [Nat.add_zero, Nat.reduceAdd, up2_s, up2_ni]
  exact ⟨rfl, rfl, rfl, rfl, rfl, rfl, rfl, rfl, rfl, rfl, rfl, rfl, rfl, rfl, rfl, rfl, rfl, rfl, rfl, rfl⟩
theorem lay4_Fr {f : (Nat → Nat → Int32)} {a b c d e : Int32} : Fr [7] f (lay4 (lay4 (lay4 (lay4 (lay4 f 7 0 a) 7 4 b) 7 8 c) 7 12 d) 7 16 e) := fun y hy => by
  have : y ≠ 7 := fun q => hy (by rw [q]; exact List.mem_cons_self)
  rw [lay4_row this, lay4_row this, lay4_row this, lay4_row this, lay4_row this]
theorem lay5_Fr {f : (Nat → Nat → Int32)} {a b c d e : Int32} : Fr [61] f (lay5 (lay5 (lay5 (lay5 f 61 0 a b c d e) 61 1 a b c d e) 61 2 a b c d e) 61 3 a b c d e) := fun y hy => by
  have : y ≠ 61 := fun q => hy (by rw [q]; exact List.mem_cons_self)
  rw [lay5_row this, lay5_row this, lay5_row this, lay5_row this]
theorem pV {kH kR : Nat} {as : List Value} {h : MH} {s : Sta} {Q Q' : Sta → Prop} (H : SS h) (rf : RfS (mi h) (ml h) s)
    (A : SpV kH (.ref 5 :: as) h (fun g => ClP h Q g))
    (B : ∀ g, SS g → RfS (mi g) (ml g) s → SpV kR (.ref 54 :: as) (sil g (mi g) (ml g)) (fun g' => RfP g Q' g'))
    (fn : ∀ s1 s2, Q s1 → Q' s2 → s1 = s2) (pu : ∀ s1, Q s1 → PuS s1) : PaV kH kR as h IvW := by
  refine SpV.mono A ?_
  rintro g ⟨s1, q, c1, ck⟩
  have B' := B g ck.1.1 (rf.fr ck.2)
  rw [← ck.1.1.sil] at B'
  refine ⟨ck.1, SpV.mono B' ?_⟩
  rintro _ ⟨s2, f', l', q', rfl, r2, fr1, fr2⟩
  have e2 := fn s1 s2 q q'
  subst e2
  exact pair_end H ck c1 r2 (pu s1 q) fr1 fr2
/-- the reference: a small change -/
theorem RfS.ch {f f' : (Nat → Nat → Int32)} {l l' : (Nat → Nat → Int64)} {X X' : TxS} {OU OU' TD TD' : List Nat} {CH CH' : Nat → Prop} {GS : List (List Nat)} {CS : List S6} {MS : List Mdl} {PH PH' : List Ph} (r : RfS f l (X, OU, TD, CH, GS, CS, MS, PH)) (e : ∀ j ∈ [17, 32, 35, 36, 37, 45, 50, 51, 52], f' 54 j = f 54 j) (i : ∀ a ∈ [64, 65, 67, 68, 69, 78, 81, 82, 83, 84, 85, 86, 87, 90], f' a = f a) (j : ∀ a ∈ [70, 76, 77, 80, 89, 91], l' a = l a)
    (n : TxA f' 61 54 9 62 10 11 X' ∧ OutR f' OU' ∧ RTold f' TD' ∧ Chs f' 56 CH' ∧ PhA f' l' 92 93 94 54 56 PH') : RfS f' l' (X', OU', TD', CH', GS, CS, MS, PH') := by
  obtain ⟨_, ⟨r6, r7⟩, ⟨r8, r9⟩, r10, r11⟩ := r
  refine ⟨n, ⟨r6.fr (e 17 (by decide)) (i 64 (by decide)) (i 65 (by decide)), r7.fr (i 67 (by decide)) (i 68 (by decide)) (i 69 (by decide)) (j 70 (by decide))⟩, ⟨r8.fr (e 32 (by decide)) (j 76 (by decide)) (j 77 (by decide)) (i 78 (by decide)), r9.fr (e 35 (by decide)) (e 36 (by decide)) (e 37 (by decide)) (j 80 (by decide))⟩, r10.fr (e 45 (by decide)) (fun a ha => i a ?_), r11.fr (e 50 (by decide)) (e 51 (by decide)) (e 52 (by decide)) (i 90 (by decide)) (j 89 (by decide)) (j 91 (by decide))⟩
  have : ∀ a ∈ MdIds, a ∈ [64, 65, 67, 68, 69, 78, 81, 82, 83, 84, 85, 86, 87, 90] := by decide
  exact this a ha
theorem q_feed : C_feed IvW IvW := by
  rintro h a b c d e H ⟨⟨X, OU, TD, CH, GS, CS, MS, PH⟩, pu, cl, rf⟩
  obtain ⟨O, ⟨s1, s2, s3, s4, s5, s6, s7, s8⟩, hg, hc, hm⟩ := id cl
  have A := sp_Ho_feed (h := h) (f := mi h) (l := ml h) a b c d e
  rw [← H.sil] at A
  refine pV (Q := fun s => s = ((fdW a b c d e, X.2), OU, TD, CH, GS, CS, MS, PH)) (Q' := fun s => s = ((fdW a b c d e, X.2), OU, TD, CH, GS, CS, MS, PH)) H rf (SpV.mono A ?_) (fun g hS r => SpV.mono (sp_Ref_feed a b c d e) ?_) (fun s1 s2 q q' => q.trans q'.symm) (fun s1 q => by rw [q]; exact pu)
  · rintro _ rfl
    have fr := lay4_Fr (f := mi h) (a := a) (b := b) (c := c) (d := d) (e := e)
    have w := lay4_W (f := mi h) (a := a) (b := b) (c := c) (d := d) (e := e)
    generalize lay4 (lay4 (lay4 (lay4 (lay4 (mi h) 7 0 a) 7 4 b) 7 8 c) 7 12 d) 7 16 e = f1 at *
    have ne : ∀ y, y ≠ 7 → f1 y = mi h y := fun y q => fr y (fun m => q (List.mem_singleton.mp m))
    refine ⟨_, rfl, cl.sm H (A := [7]) (l' := ml h) fr Fr.refl (by decide) (fun j _ => by rw [ne 5 (by decide)]) ?_⟩
    exact ⟨⟨w, by rw [ne 6 (by decide)]; exact s1.2.1, by rw [ne 8 (by decide)]; exact s1.2.2.1, by rw [ne 6 (by decide)]; exact s1.2.2.2⟩, s2.fr (by rw [ne 6 (by decide)]) (ne 12 (by decide)), s3.fr (by rw [ne 5 (by decide)]) (ne 13 (by decide)), s4.fr (ne 14 (by decide)), s5.fr2 (by rw [ne 50 (by decide)]) (ne 51 (by decide)) (ne 52 (by decide)) rfl, fun j hj => by rw [ne 2 (by decide)]; exact s6 j hj, fun j hj => by rw [ne 3 (by decide)]; exact s7 j hj, fun j hj => by rw [ne 4 (by decide)]; exact s8 j hj⟩
  · rintro _ rfl
    have fr := lay5_Fr (f := mi g) (a := a) (b := b) (c := c) (d := d) (e := e)
    have w := lay5_W (f := mi g) (a := a) (b := b) (c := c) (d := d) (e := e)
    generalize lay5 (lay5 (lay5 (lay5 (mi g) 61 0 a b c d e) 61 1 a b c d e) 61 2 a b c d e) 61 3 a b c d e = f2 at *
    have ne : ∀ y, y ≠ 61 → f2 y = mi g y := fun y q => fr y (fun m => q (List.mem_singleton.mp m))
    have n' : ∀ y ∈ [64, 65, 67, 68, 69, 78, 81, 82, 83, 84, 85, 86, 87, 90], y ≠ 61 := by decide
    have i54 := ne 54 (by decide)
    obtain ⟨r1, r2, r3, r4, r5⟩ := r.1
    exact ⟨_, f2, ml g, rfl, rfl, RfS.ch r (fun j _ => by rw [i54]) (fun a ha => ne a (n' a ha)) (fun _ _ => rfl) ⟨⟨w, by rw [i54]; exact r1.2.1, by rw [ne 62 (by decide)]; exact r1.2.2.1, by rw [i54]; exact r1.2.2.2⟩, r2.fr (by rw [i54]) (ne 63 (by decide)), r3.fr (by rw [i54]) (ne 55 (by decide)), r4.fr (ne 56 (by decide)), r5.fr2 (by rw [i54]) (ne 92 (by decide)) (ne 93 (by decide)) rfl⟩, fr.mono (by decide), Fr.refl⟩
