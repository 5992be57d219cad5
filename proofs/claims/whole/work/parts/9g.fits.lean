/-! what keeps a cell: the class's forms, fits of both -/
theorem db_hf {u : S6} (ev : Ev u) : db (hf u) = u := by
  obtain ⟨a, b, c, x, y, z⟩ := u
  obtain ⟨e1, e2, e3⟩ := ev
  show (a, b, c, 2 * (x / 2), 2 * (y / 2), 2 * (z / 2)) = (a, b, c, x, y, z)
  rw [show 2 * (x / 2) = x by omega, show 2 * (y / 2) = y by omega, show 2 * (z / 2) = z by omega]
theorem hf_db (s : S6) : hf (db s) = s := by
  obtain ⟨a, b, c, d, e, f⟩ := s
  show (a, b, c, 2 * d / 2, 2 * e / 2, 2 * f / 2) = (a, b, c, d, e, f)
  rw [show 2 * d / 2 = d by omega, show 2 * e / 2 = e by omega, show 2 * f / 2 = f by omega]
theorem fo_square {h : MH} {a : Nat} {s : S6} (hk : kd h a = 3) (ft : FoAt (ml h) a (db s)) (u v w : Int) : SpL k_Form_square [.ref a, .long (zL u), .long (zL v), .long (zL w)] h (fun r g => g = h ∧ r = zL (dotS s u v w u v w)) := by
  obtain ⟨p, q, r, d, e, f⟩ := s
  obtain ⟨s0, s1, s2, s3, s4, s5⟩ := ft
  refine v_Form_square _ _ _ _ _ _ ⟨hk, _, rfl, rfl, ?_⟩
  rw [s0, s1, s2, s3, s4, s5]
  simp only [zL_mul, zL_add]
  congr 1
  unfold dotS
  simp only
  grind
theorem fo_twice {h : MH} {a : Nat} {s : S6} (hk : kd h a = 3) (ft : FoAt (ml h) a (db s)) (u v w x y z : Int) : SpL k_Form_twice [.ref a, .long (zL u), .long (zL v), .long (zL w), .long (zL x), .long (zL y), .long (zL z)] h (fun r g => g = h ∧ r = zL (2 * dotS s u v w x y z)) := by
  obtain ⟨p, q, r, d, e, f⟩ := s
  obtain ⟨s0, s1, s2, s3, s4, s5⟩ := ft
  refine v_Form_twice _ _ _ _ _ _ _ _ _ ⟨hk, _, rfl, rfl, ?_⟩
  rw [s0, s1, s2, s3, s4, s5, j2]
  simp only [zL_mul, zL_add]
  congr 1
  unfold dotS
  simp only
  grind
def KpM (s : S6) (M : Nat → Int) : Prop := kpS s (colV M 0) (colV M 1) (colV M 2)
def S6b (s : S6) : Prop := ∀ i, i < 6 → Ab (nth6 s i) 100000000
theorem sp_Form_keptBy {h : MH} {a : Nat} {s : S6} {M : Nat → Int} (hk : kd h a = 3) (k37 : kd h 37 = 20) (l37 : ln h 37 = 9) (ft : FoAt (ml h) a (db s)) (hs : S6b s) (hM : MatAt (mi h) 37 M) (sm : small M) :
    SpI k_Form_keptBy [.ref a, .ref 37] h (fun r g => g = h ∧ ((r = 1 ∧ KpM s M) ∨ (r = 0 ∧ ¬ KpM s M))) := by
  have i : ∀ j : Nat, j < 9 → InB (nI j) 9 := fun j hj => InB_nI hj (by omega)
  have am : ∀ j, j < 9 → Ab (M j) 1 := fun j hj => by have := sm j hj; exact Ab.of (by omega) (by omega)
  have m0 : (mi h 37 (ix (0 : Int32))).toInt64 = zL (M 0) := i2l_m (hM 0 (by decide))
  have m1 : (mi h 37 (ix (1 : Int32))).toInt64 = zL (M 1) := i2l_m (hM 1 (by decide))
  have m2 : (mi h 37 (ix (2 : Int32))).toInt64 = zL (M 2) := i2l_m (hM 2 (by decide))
  have m3 : (mi h 37 (ix (3 : Int32))).toInt64 = zL (M 3) := i2l_m (hM 3 (by decide))
  have m4 : (mi h 37 (ix (4 : Int32))).toInt64 = zL (M 4) := i2l_m (hM 4 (by decide))
  have m5 : (mi h 37 (ix (5 : Int32))).toInt64 = zL (M 5) := i2l_m (hM 5 (by decide))
  have m6 : (mi h 37 (ix (6 : Int32))).toInt64 = zL (M 6) := i2l_m (hM 6 (by decide))
  have m7 : (mi h 37 (ix (7 : Int32))).toInt64 = zL (M 7) := i2l_m (hM 7 (by decide))
  have m8 : (mi h 37 (ix (8 : Int32))).toInt64 = zL (M 8) := i2l_m (hM 8 (by decide))
  have a0 := am 0 (by decide); have a1 := am 1 (by decide); have a2 := am 2 (by decide); have a3 := am 3 (by decide); have a4 := am 4 (by decide); have a5 := am 5 (by decide); have a6 := am 6 (by decide); have a7 := am 7 (by decide); have a8 := am 8 (by decide)
  have cmp : ∀ (j : Nat) (x1 x2 x3 x4 x5 x6 : Int), j < 6 → Ab x1 1 → Ab x2 1 → Ab x3 1 → Ab x4 1 → Ab x5 1 → Ab x6 1 → (lg_cmp (zL (dotS s x1 x2 x3 x4 x5 x6)) (zL (nth6 s j)) = 0) = (dotS s x1 x2 x3 x4 x5 x6 = nth6 s j) := fun j x1 x2 x3 x4 x5 x6 hj h1 h2 h3 h4 h5 h6 => by
    have d := dot_ab hs h1 h2 h3 h4 h5 h6
    have dl := d.lo
    have dh := d.hi
    have el := (hs j hj).lo
    have eh := (hs j hj).hi
    exact lz_eq (by omega) (by omega) (by omega) (by omega)
  have cmp2 : ∀ (j : Nat) (x1 x2 x3 x4 x5 x6 : Int), j < 6 → Ab x1 1 → Ab x2 1 → Ab x3 1 → Ab x4 1 → Ab x5 1 → Ab x6 1 → (lg_cmp (zL (2 * dotS s x1 x2 x3 x4 x5 x6)) (zL (2 * nth6 s j)) = 0) = (dotS s x1 x2 x3 x4 x5 x6 = nth6 s j) := fun j x1 x2 x3 x4 x5 x6 hj h1 h2 h3 h4 h5 h6 => by
    have d := dot_ab hs h1 h2 h3 h4 h5 h6
    have dl := d.lo
    have dh := d.hi
    have el := (hs j hj).lo
    have eh := (hs j hj).hi
    rw [lz_eq (by omega) (by omega) (by omega) (by omega)]
    exact propext ⟨fun q => by omega, fun q => by omega⟩
  have f0 : ml h a 0 = zL (nth6 s 0) := ft.1
  have f1 : ml h a 1 = zL (nth6 s 1) := ft.2.1
  have f2 : ml h a 2 = zL (nth6 s 2) := ft.2.2.1
  have f3 : ml h a 3 = zL (2 * nth6 s 3) := ft.2.2.2.1
  have f4 : ml h a 4 = zL (2 * nth6 s 4) := ft.2.2.2.2.1
  have f5 : ml h a 5 = zL (2 * nth6 s 5) := ft.2.2.2.2.2
  have no : ¬ KpM s M → ∃ r, Value.int 0 = .int r ∧ h = h ∧ ((r = 1 ∧ KpM s M) ∨ (r = 0 ∧ ¬ KpM s M)) := fun q => ⟨_, rfl, rfl, Or.inr ⟨rfl, q⟩⟩
  have e1 : dotS s (M 0) (M 3) (M 6) (M 0) (M 3) (M 6) = nth6 s 0 → dotS s (M 1) (M 4) (M 7) (M 1) (M 4) (M 7) = nth6 s 1 → dotS s (M 2) (M 5) (M 8) (M 2) (M 5) (M 8) = nth6 s 2 → dotS s (M 1) (M 4) (M 7) (M 2) (M 5) (M 8) = nth6 s 3 → WM k_Form_keptBy p_Form_keptBy_1 [.ref a, .ref 37] [] h 0 0 (fun v g => ∃ r, v = .int r ∧ g = h ∧ ((r = 1 ∧ KpM s M) ∨ (r = 0 ∧ ¬ KpM s M))) := by
    intro c0 c1 c2 c3
    refine v_Form_keptBy_1 _ _ _ _ ⟨k37, ?_⟩
    rw [l37, m0, m3, m6, m2, m5, m8]
    refine ⟨i 0 (by decide), i 3 (by decide), i 6 (by decide), i 2 (by decide), i 5 (by decide), i 8 (by decide), hk, SpL.mono (fo_twice hk ft _ _ _ _ _ _) ?_⟩
    rintro _ _ ⟨rfl, rfl⟩
    rw [f4, cmp2 4 _ _ _ _ _ _ (by decide) a0 a3 a6 a2 a5 a8, l37, m0, m3, m6, m1, m4, m7]
    refine ⟨hk, fun c4 => ⟨k37, i 0 (by decide), i 3 (by decide), i 6 (by decide), i 1 (by decide), i 4 (by decide), i 7 (by decide), SpL.mono (fo_twice hk ft _ _ _ _ _ _) ?_⟩, fun c4 => no (fun q => c4 q.2.2.2.2.1)⟩
    rintro _ _ ⟨rfl, rfl⟩
    rw [f5, cmp2 5 _ _ _ _ _ _ (by decide) a0 a3 a6 a1 a4 a7]
    exact ⟨hk, fun c5 => v_Form_keptBy_2 _ _ ⟨_, rfl, rfl, Or.inl ⟨rfl, c0, c1, c2, c3, c4, c5⟩⟩, fun c5 => no (fun q => c5 q.2.2.2.2.2)⟩
  refine v_Form_keptBy _ _ _ _ ⟨k37, ?_⟩
  rw [l37, m0, m3, m6]
  refine ⟨fun q => absurd q (by decide), fun _ => ⟨i 0 (by decide), i 3 (by decide), i 6 (by decide), hk, SpL.mono (fo_square hk ft _ _ _) ?_⟩⟩
  rintro _ _ ⟨rfl, rfl⟩
  rw [f0, cmp 0 _ _ _ _ _ _ (by decide) a0 a3 a6 a0 a3 a6, l37, m1, m4, m7]
  refine ⟨hk, fun c0 => ⟨k37, i 1 (by decide), i 4 (by decide), i 7 (by decide), SpL.mono (fo_square hk ft _ _ _) ?_⟩, fun c0 => no (fun q => c0 q.1)⟩
  rintro _ _ ⟨rfl, rfl⟩
  rw [f1, cmp 1 _ _ _ _ _ _ (by decide) a1 a4 a7 a1 a4 a7, l37, m2, m5, m8]
  refine ⟨hk, fun c1 => ⟨k37, i 2 (by decide), i 5 (by decide), i 8 (by decide), SpL.mono (fo_square hk ft _ _ _) ?_⟩, fun c1 => no (fun q => c1 q.2.1)⟩
  rintro _ _ ⟨rfl, rfl⟩
  rw [f2, cmp 2 _ _ _ _ _ _ (by decide) a2 a5 a8 a2 a5 a8, l37, m1, m4, m7, m2, m5, m8]
  refine ⟨hk, fun c2 => ⟨k37, i 1 (by decide), i 4 (by decide), i 7 (by decide), i 2 (by decide), i 5 (by decide), i 8 (by decide), SpL.mono (fo_twice hk ft _ _ _ _ _ _) ?_⟩, fun c2 => no (fun q => c2 q.2.2.1)⟩
  rintro _ _ ⟨rfl, rfl⟩
  rw [f3, cmp2 3 _ _ _ _ _ _ (by decide) a1 a4 a7 a2 a5 a8]
  exact ⟨hk, fun c3 => e1 c0 c1 c2 c3, fun c3 => no (fun q => c3 q.2.2.2.1)⟩
/-- keeping is kept by products -/
def KpG (s : S6) (M : Nat → Int) : Prop := ∀ j, j < 9 → mul9 (mul9 (trM M) (Gm s)) M j = Gm s j
theorem KpG.kp {s : S6} {M : Nat → Int} (h : KpG s M) : KpM s M := by
  have h0 := h 0 (by decide)
  have h4 := h 4 (by decide)
  have h8 := h 8 (by decide)
  have h5 := h 5 (by decide)
  have h2 := h 2 (by decide)
  have h1 := h 1 (by decide)
  obtain ⟨a, b, c, d, e, f⟩ := s
  unfold mul9 Gm trM nth6 at h0 h1 h2 h4 h5 h8
  simp only [Nat.reduceMod, Nat.reduceDiv, Nat.reduceMul, Nat.reduceAdd, Nat.mul_zero, Nat.zero_mod, Nat.zero_div, Nat.zero_add, Nat.add_zero, Nat.reduceEqDiff, if_true, if_false] at h0 h1 h2 h4 h5 h8
  unfold KpM kpS dotS colV nth6
  simp only [Nat.reduceEqDiff, if_true, if_false, Nat.reduceAdd]
  refine ⟨?_, ?_, ?_, ?_, ?_, ?_⟩ <;> grind
theorem tr_mul (A B : Nat → Int) : ∀ j, j < 9 → trM (mul9 A B) j = mul9 (trM B) (trM A) j := by
  intro j hj
  unfold trM mul9
  have : j = 0 ∨ j = 1 ∨ j = 2 ∨ j = 3 ∨ j = 4 ∨ j = 5 ∨ j = 6 ∨ j = 7 ∨ j = 8 := by omega
  rcases this with rfl | rfl | rfl | rfl | rfl | rfl | rfl | rfl | rfl <;> simp only [Nat.reduceMod, Nat.reduceDiv, Nat.reduceMul, Nat.reduceAdd, Nat.mul_zero, Nat.zero_mod, Nat.zero_div, Nat.zero_add, Nat.add_zero] <;> grind
theorem tr_ext {A B : Nat → Int} (h : ∀ j, j < 9 → A j = B j) : ∀ j, j < 9 → trM A j = trM B j := fun j hj => h _ (by omega)
theorem KpM.mul {s : S6} {A B C : Nat → Int} (ha : KpM s A) (hb : KpM s B) (hc : ∀ j, j < 9 → C j = mul9 A B j) : KpM s C := by
  have ga : KpG s A := kp_gram ha
  have gb : KpG s B := kp_gram hb
  refine KpG.kp (fun j hj => ?_)
  -- C^T G C = B^T (A^T G A) B
  have e1 : ∀ j, j < 9 → trM C j = mul9 (trM B) (trM A) j := fun j hj => (tr_ext hc j hj).trans (tr_mul A B j hj)
  have e2 : ∀ j, j < 9 → mul9 (trM C) (Gm s) j = mul9 (trM B) (mul9 (trM A) (Gm s)) j := fun j hj => (mul9_ext e1 (fun _ _ => rfl) j hj).trans (mul9_assoc _ _ _ j hj)
  have e3 : ∀ j, j < 9 → mul9 (mul9 (trM C) (Gm s)) C j = mul9 (mul9 (trM B) (mul9 (trM A) (Gm s))) (mul9 A B) j := fun j hj => mul9_ext e2 hc j hj
  have e4 : ∀ j, j < 9 → mul9 (mul9 (trM B) (mul9 (trM A) (Gm s))) (mul9 A B) j = mul9 (mul9 (mul9 (trM B) (mul9 (trM A) (Gm s))) A) B j := fun j hj => (mul9_assoc _ _ _ j hj).symm
  have e5 : ∀ j, j < 9 → mul9 (mul9 (trM B) (mul9 (trM A) (Gm s))) A j = mul9 (trM B) (Gm s) j := fun j hj => (mul9_assoc _ _ _ j hj).trans (mul9_ext (fun _ _ => rfl) ga j hj)
  rw [e3 j hj, e4 j hj, mul9_ext e5 (fun _ _ => rfl) j hj]
  exact gb j hj
theorem KpM.id (s : S6) : KpM s (eM idc) := by
  have e := id_M
  obtain ⟨a, b, c, d, f, g⟩ := s
  unfold KpM kpS colV dotS nth6
  simp only [Nat.reduceEqDiff, if_true, if_false, Nat.reduceAdd]
  rw [e 0 (by decide), e 1 (by decide), e 2 (by decide), e 3 (by decide), e 4 (by decide), e 5 (by decide), e 6 (by decide), e 7 (by decide), e 8 (by decide)]
  simp only [Nat.reduceMod, Nat.reduceEqDiff, if_true, if_false]
  refine ⟨?_, ?_, ?_, ?_, ?_, ?_⟩ <;> omega
theorem kp_all {S MK : List Nat} {s : S6} (cl : Closed S MK) (h : ∀ m ∈ MK, KpM s (eM m)) : ∀ x ∈ S, KpM s (eM x) := fun x hx => by
  refine reach_ind (G := fun g => g ∈ MK) (fun x => KpM s (eM x)) (KpM.id s) ?_ x ((cl.1 x).mp hx)
  intro a g y _ ka hg p
  exact ka.mul (h g hg) p.2.2.2.1
theorem mk_in {S MK : List Nat} (cl : Closed S MK) : ∀ m ∈ MK, m ∈ S := fun m hm => (cl.1 m).mpr (reach_gen cl.2.2.2 hm)
theorem okC.b {s : S6} (h : okC s) : S6b s := by
  obtain ⟨n, h⟩ := h
  obtain ⟨_, q1, q2, q3, q4, q5, q6, _⟩ := h
  intro i hi
  have : i = 0 ∨ i = 1 ∨ i = 2 ∨ i = 3 ∨ i = 4 ∨ i = 5 := by omega
  rcases this with rfl | rfl | rfl | rfl | rfl | rfl
  · exact q1.ab.wk (by omega)
  · exact q2.ab.wk (by omega)
  · exact q3.ab.wk (by omega)
  · exact q4.ab.wk (by omega)
  · exact q5.ab.wk (by omega)
  · exact q6.ab.wk (by omega)
theorem sp_Ho_keptBy {h : MH} {f : (Nat → Nat → Int32)} {l : (Nat → Nat → Int64)} {O : Nat → Nat} {t g t' x : Nat} {S MK : List Nat} {s : S6} (H : SS h) (ok : GOk S) (b : GrpB (sil h f l) O t g S MK) (cl : Closed S MK) (c : CelB (sil h f l) O t' x s) (oks : okC s) :
    SpI k_Ho_keptBy [.ref 5, .ref g, .ref x] (sil h f l) (fun r k => (∃ f', k = sil h f' l ∧ Fr [37, 38] f f') ∧ ((r = 1 ∧ ∀ y ∈ S, KpM s (eM y)) ∨ (r = 0 ∧ ¬ ∀ y ∈ S, KpM s (eM y)))) := by
  have m7 := cl.m7 ok.2.1
  have tm : (Int32.ofNat MK.length).toInt = (MK.length : Int) := nI_toI (by omega)
  have main : ∀ d i (f1 : (Nat → Nat → Int32)), MK.length - i = d → i ≤ MK.length → Fr [37, 38] f f1 → (∀ j, j < i → KpM s (eM (MK.getD j 0))) →
      WM k_Ho_keptBy p_Ho_keptBy_1 [.ref 5, .ref g, .ref x, .int (nI i)] [] (sil h f1 l) 0 0 (fun v k => ∃ r, v = .int r ∧ (∃ f', k = sil h f' l ∧ Fr [37, 38] f f') ∧ ((r = 1 ∧ ∀ y ∈ S, KpM s (eM y)) ∨ (r = 0 ∧ ¬ ∀ y ∈ S, KpM s (eM y)))) := by
    intro d
    induction d with
    | zero =>
      intro i f1 hd hi fr al
      have b1 := b.same (Kp.si2 H fr (Fr.refl (f := l))) (by decide)
      refine v_Ho_keptBy_1 _ _ _ _ _ _ ⟨b1.2.1.1, ?_⟩
      rw [b1.2.1.2.2, b1.2.2.2.2.2.1, tm, nI_toI (by omega)]
      refine ⟨b1.2.2.2.2.1, fun q => absurd q (by omega), fun _ => ⟨_, rfl, ⟨f1, rfl, fr⟩, Or.inl ⟨rfl, kp_all cl (fun m hm => ?_)⟩⟩⟩
      obtain ⟨j, hj, ej⟩ := mem_getD hm
      rw [← ej]; exact al j (by omega)
    | succ d ih =>
      intro i f1 hd hi fr al
      have il : i < MK.length := by omega
      have b1 := b.same (Kp.si2 H fr (Fr.refl (f := l))) (by decide)
      have mS := mk_in cl _ (getD_mem il)
      refine v_Ho_keptBy_1 _ _ _ _ _ _ ⟨b1.2.1.1, ?_⟩
      rw [b1.2.1.2.2, b1.2.2.2.2.2.1, tm, nI_toI (by omega), ix_nI (by omega), b1.2.2.2.2.2.2 i il, R5_9]
      refine ⟨b1.2.2.2.2.1, fun _ => ⟨Kd5, InB_nI il (by omega), K36, SpV.mono (open_done (ok.c _ mS)) ?_⟩, fun q => absurd (by omega) q⟩
      rintro _ ⟨f2, rfl, fr2, ma, _⟩
      have fr' := fr.trans fr2
      have c2 := c.kp (k := sil h f2 l) (O' := O) (Kp.si2 H fr' (Fr.refl (f := l))) (fun a ha => Or.inl (by revert a; decide)) (fun _ _ => rfl)
      rw [R5_9, c2.2.1.2.1, R36_0]
      refine ⟨c2.2.1.1, Kd5, K36, c2.2.2.1.1, SpI.mono (sp_Form_keptBy c2.2.2.1.1 K37 L37 c2.2.2.2.1 oks.b ma (fun j hj => eM_small _ j hj)) ?_⟩
      rintro r _ ⟨rfl, ⟨rfl, kp⟩ | ⟨rfl, kp⟩⟩
      · refine ⟨fun q => absurd q (by decide), fun _ => ?_⟩
        rw [nI_1]
        refine ih (i + 1) f2 (by omega) (by omega) fr' (fun j hj => ?_)
        by_cases e : j = i
        · subst e; exact kp
        · exact al j (by omega)
      · exact ⟨fun _ => ⟨_, rfl, ⟨f2, rfl, fr'⟩, Or.inr ⟨rfl, fun q => kp (q _ mS)⟩⟩, fun q => absurd rfl q⟩
  exact v_Ho_keptBy _ _ _ _ _ (main _ 0 f rfl (Nat.zero_le _) Fr.refl (fun j hj => absurd hj (Nat.not_lt_zero j)))
theorem sp_Ho_cellAt {h : MH} {O : Nat → Nat} {CS : List S6} (H : SS h) (hc : HCel h O CS) (x : Int32) : SpR k_Ho_cellAt [.ref 5, .int x] h (fun r g => g = h ∧ ((∃ i, i < CS.length ∧ x = nI i ∧ r = mr h 43 i ∧ r ≠ 0) ∨ (¬ (0 ≤ x.toInt ∧ x.toInt < CS.length) ∧ r = 0))) := by
  obtain ⟨g1, g2, g3⟩ := hc
  have e43 : mr h 5 13 = 43 := H.2.2.2 (5, 13, 43) (by decide)
  refine v_Ho_cellAt _ _ _ _ ?_
  rw [g2, nI_toI (by omega), e43]
  refine ⟨fun c => ⟨_, rfl, rfl, Or.inr ⟨fun q => by omega, rfl⟩⟩, fun c1 => ⟨H.k5, fun c2 => ?_, fun c => ⟨_, rfl, rfl, Or.inr ⟨fun q => by omega, rfl⟩⟩⟩⟩
  obtain ⟨i, rfl, hi⟩ := op_x c1 c2 (by omega)
  obtain ⟨_, b, _⟩ := g3 i hi
  have := b.1.1
  rw [ix_nI (by omega)]
  exact ⟨H.k43, by rw [H.2.2.1 (43, 40) (by decide)]; exact InB_nI (by omega) (by omega), ⟨_, rfl, rfl, Or.inl ⟨i, hi, rfl, rfl, by omega⟩⟩⟩
theorem sp_Ref_isCell {h : MH} {f : (Nat → Nat → Int32)} {l : (Nat → Nat → Int64)} {CS : List S6} (hc : RCel f l CS) (x : Int32) : SpI k_Ref_isCell [.ref 54, .int x] (sil h f l) (fun r g => g = sil h f l ∧ ((∃ i, i < CS.length ∧ x = nI i ∧ r = 1) ∨ (¬ (0 ≤ x.toInt ∧ x.toInt < CS.length) ∧ r = 0))) := by
  have g1 := hc.1
  refine v_Ref_isCell _ _ _ _ ?_
  rw [mi_sil, hc.2.1, nI_toI (by omega)]
  refine ⟨fun c => ⟨_, rfl, rfl, Or.inr ⟨fun q => by omega, rfl⟩⟩, fun c1 => ⟨K54, fun c2 => ?_, fun c => ⟨_, rfl, rfl, Or.inr ⟨fun q => by omega, rfl⟩⟩⟩⟩
  obtain ⟨i, rfl, hi⟩ := op_x c1 c2 (by omega)
  exact ⟨_, rfl, rfl, Or.inl ⟨i, hi, rfl, rfl⟩⟩
