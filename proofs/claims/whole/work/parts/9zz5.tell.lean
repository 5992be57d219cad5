/-! tell, tellOf, letter -/
def TlA (TD : List Nat) (OU : List Nat) (x r : Int32) (OU' : List Nat) : Prop := (∃ k, k < TD.length ∧ x = nI k ∧ r = nI (tellL (TD.getD k 0)).length ∧ OU' = tellL (TD.getD k 0)) ∨ (¬ (0 ≤ x.toInt ∧ x.toInt < TD.length) ∧ r = -1 ∧ OU' = OU)
def ToA (GS : List (List Nat)) (OU : List Nat) (x y r : Int32) (OU' : List Nat) : Prop := (∃ i j, i < GS.length ∧ j < (GS.getD i []).length ∧ x = nI i ∧ y = nI j ∧ r = nI (tellL ((GS.getD i []).getD j 0)).length ∧ OU' = tellL ((GS.getD i []).getD j 0)) ∨ ((¬ ∃ i j, i < GS.length ∧ j < (GS.getD i []).length ∧ x = nI i ∧ y = nI j) ∧ r = -1 ∧ OU' = OU)
def LtA (OU : List Nat) (x r : Int32) : Prop := (∃ j, j < OU.length ∧ x = nI j ∧ r = nI (OU.getD j 0)) ∨ (¬ (0 ≤ x.toInt ∧ x.toInt < OU.length) ∧ r = -1)
theorem tellL_len (c : Nat) : (tellL c).length ≤ 48 := by
  have l0 := rowT_len c 0
  have l1 := rowT_len c 1
  have l2 := rowT_len c 2
  unfold tellL
  simp only [List.length_append, List.length_cons, List.length_nil]
  omega
theorem TlA.fn {TD OU OU1 OU2 : List Nat} {x r r' : Int32} (hl : TD.length ≤ 40) (h : TlA TD OU x r OU1) (h' : TlA TD OU x r' OU2) : r = r' ∧ OU1 = OU2 := by
  rcases h with ⟨k, hk, rfl, e1, e2⟩ | ⟨n, e1, e2⟩ <;> rcases h' with ⟨k', hk', e, e1', e2'⟩ | ⟨n', e1', e2'⟩
  · rw [nI_inj (by omega) (by omega)] at e
    subst e
    exact ⟨by rw [e1, e1'], by rw [e2, e2']⟩
  · exact absurd (by rw [nI_toI (by omega)]; omega) n'
  · subst e; exact absurd (by rw [nI_toI (by omega)]; omega) n
  · exact ⟨by rw [e1, e1'], by rw [e2, e2']⟩
theorem ToA.fn {GS : List (List Nat)} {OU OU1 OU2 : List Nat} {x y r r' : Int32} (hl : GS.length ≤ 60) (ok : ∀ S ∈ GS, GOk S) (h : ToA GS OU x y r OU1) (h' : ToA GS OU x y r' OU2) : r = r' ∧ OU1 = OU2 := by
  rcases h with ⟨i, j, hi, hj, rfl, rfl, e1, e2⟩ | ⟨n, e1, e2⟩ <;> rcases h' with ⟨i', j', hi', hj', e3, e4, e1', e2'⟩ | ⟨n', e1', e2'⟩
  · rw [nI_inj (by omega) (by omega)] at e3
    subst e3
    have w := (ok _ (gD_mem hi)).2.1
    rw [nI_inj (by omega) (by omega)] at e4
    subst e4
    exact ⟨by rw [e1, e1'], by rw [e2, e2']⟩
  · exact absurd ⟨i, j, hi, hj, rfl, rfl⟩ n'
  · exact absurd ⟨i', j', hi', hj', e3, e4⟩ n
  · exact ⟨by rw [e1, e1'], by rw [e2, e2']⟩
theorem LtA.fn {OU : List Nat} {x r r' : Int32} (hl : OU.length ≤ 48) (h : LtA OU x r) (h' : LtA OU x r') : r = r' := by
  rcases h with ⟨k, hk, rfl, e1⟩ | ⟨n, e1⟩ <;> rcases h' with ⟨k', hk', e, e1'⟩ | ⟨n', e1'⟩
  · rw [nI_inj (by omega) (by omega)] at e
    subst e
    rw [e1, e1']
  · exact absurd (by rw [nI_toI (by omega)]; omega) n'
  · subst e; exact absurd (by rw [nI_toI (by omega)]; omega) n
  · rw [e1, e1']
def TlC (h : MH) (f : (Nat → Nat → Int32)) (l : (Nat → Nat → Int64)) (OU' : List Nat) (g : MH) : Prop := ∃ f', g = sil h f' l ∧ Fr [6, 12, 37, 38] f f' ∧ (∀ j, j ≠ 8 → f' 6 j = f 6 j) ∧ OutC f' OU'
def TlR (h : MH) (f : (Nat → Nat → Int32)) (l : (Nat → Nat → Int64)) (OU' : List Nat) (g : MH) : Prop := ∃ f', g = sil h f' l ∧ Fr [54, 57, 58, 63] f f' ∧ (∀ j, j ≠ 14 → f' 54 j = f 54 j) ∧ OutR f' OU'
theorem c_tellIt {h : MH} {f : (Nat → Nat → Int32)} {l : (Nat → Nat → Int64)} {c : Nat} {Rt : Value → MH → Prop} (hc : isOp c) (fin : ∀ g, TlC h f l (tellL c) g → Rt (.int (nI (tellL c).length)) g) :
    SpV k_Motion_open [.ref 36, .int (nI c)] (sil h f l) (fun g4 => kd g4 5 = 12 ∧ kd g4 (mr g4 5 0) = 10 ∧ SpI k_Scribe_write [.ref (mr g4 5 0), .ref (mr g4 5 9)] g4 (fun r9 g7 => Rt (.int r9) g7)) := by
  refine SpV.mono (open_done hc.1) ?_
  rintro _ ⟨f', rfl, fr, m, s⟩
  rw [R5_0, R5_9]
  refine ⟨Kd5, K6, SpI.mono (sp_Scribe_write m s) ?_⟩
  rintro _ _ ⟨rfl, f2, rfl, fw, oc⟩
  refine fin _ ⟨f2, rfl, ?_, fun j hj => ?_, oc⟩
  · exact (fr.mono (by decide)).trans (fw.1.mono (by decide))
  · rw [fw.2 j hj, fr 6 (by decide)]
theorem sp_Ho_tell {h : MH} {f : (Nat → Nat → Int32)} {l : (Nat → Nat → Int64)} {TD OU : List Nat} (ht : HTold f TD) (ho : OutC f OU) (x : Int32) : SpI k_Ho_tell [.ref 5, .int x] (sil h f l) (fun r g => ∃ OU', TlA TD OU x r OU' ∧ TlC h f l OU' g) := by
  have hl := ht.1
  have no : ¬ (0 ≤ x.toInt ∧ x.toInt < TD.length) → ∃ r, Value.int (-1) = .int r ∧ ∃ OU', TlA TD OU x r OU' ∧ TlC h f l OU' (sil h f l) := fun q => ⟨_, rfl, OU, Or.inr ⟨q, rfl, rfl⟩, f, rfl, Fr.refl, fun _ _ => rfl, ho⟩
  refine v_Ho_tell _ _ _ _ ?_
  rw [R5_1, R5_9, mi_sil, ht.2.2.1, nI_toI (by omega)]
  refine ⟨fun c => no (fun q => by omega), fun c1 => ⟨Kd5, fun c2 => ?_, fun c => no (fun q => by omega)⟩⟩
  obtain ⟨k, rfl, hk⟩ := op_x c1 c2 (by omega)
  rw [ix_nI (by omega), ht.2.2.2 k hk, L13]
  refine ⟨K13, InB_nI (by omega) (by omega), K36, c_tellIt (Rt := fun v g => ∃ r, v = .int r ∧ ∃ OU', TlA TD OU (nI k) r OU' ∧ TlC h f l OU' g) (ht.2.1 _ (getD_mem hk)) (fun g w => ⟨_, rfl, _, Or.inl ⟨k, hk, rfl, rfl, rfl⟩, w⟩)⟩
theorem sp_Ref_isOperation {h : MH} {f : (Nat → Nat → Int32)} {l : (Nat → Nat → Int64)} {TD : List Nat} (ht : RTold f TD) (x : Int32) : SpI k_Ref_isOperation [.ref 54, .int x] (sil h f l) (fun r g => g = sil h f l ∧ ((∃ k, k < TD.length ∧ x = nI k ∧ r = 1) ∨ (¬ (0 ≤ x.toInt ∧ x.toInt < TD.length) ∧ r = 0))) := by
  have hl := ht.1
  refine v_Ref_isOperation _ _ _ _ ?_
  rw [mi_sil, ht.2.2.1, nI_toI (by omega)]
  refine ⟨fun c => ⟨_, rfl, rfl, Or.inr ⟨fun q => by omega, rfl⟩⟩, fun c1 => ⟨K54, fun c2 => ?_, fun c => ⟨_, rfl, rfl, Or.inr ⟨fun q => by omega, rfl⟩⟩⟩⟩
  obtain ⟨k, rfl, hk⟩ := op_x c1 c2 (by omega)
  exact ⟨_, rfl, rfl, Or.inl ⟨k, hk, rfl, rfl⟩⟩
theorem sp_Ref_tell {h : MH} {f : (Nat → Nat → Int32)} {l : (Nat → Nat → Int64)} {TD OU : List Nat} (ht : RTold f TD) (ho : OutR f OU) (x : Int32) : SpI k_Ref_tell [.ref 54, .int x] (sil h f l) (fun r g => ∃ OU', TlA TD OU x r OU' ∧ TlR h f l OU' g) := by
  have hl := ht.1
  refine v_Ref_tell _ _ _ _ ⟨K54, SpI.mono (sp_Ref_isOperation ht x) ?_⟩
  rintro r _ ⟨rfl, ⟨k, hk, rfl, rfl⟩ | ⟨no, rfl⟩⟩
  · refine ⟨fun q => absurd q (by decide), fun _ => ⟨K54, ?_⟩⟩
    rw [R54_0, ix_nI (by omega), mi_sil, ht.2.2.2 k hk, L55]
    refine ⟨K55, InB_nI (by omega) (by omega), SpI.mono (sp_Ref_tellOperation (ht.2.1 _ (getD_mem hk))) ?_⟩
    rintro _ _ ⟨rfl, f', rfl, fr, oc⟩
    exact ⟨_, rfl, _, Or.inl ⟨k, hk, rfl, rfl, rfl⟩, f', rfl, fr.1, fr.2, oc⟩
  · exact ⟨fun _ => ⟨_, rfl, OU, Or.inr ⟨no, rfl, rfl⟩, f, rfl, Fr.refl, fun _ _ => rfl, ho⟩, fun q => absurd rfl q⟩
theorem sp_Ho_tellOf {h : MH} {O : Nat → Nat} {GS : List (List Nat)} {OU : List Nat} (H : SS h) (hg : HGrp h O GS) (ho : OutC (mi h) OU) (x y : Int32) : SpI k_Ho_tellOf [.ref 5, .int x, .int y] h (fun r g => ∃ OU', ToA GS OU x y r OU' ∧ TlC h (mi h) (ml h) OU' g) := by
  have g1 := hg.1
  have e36 : mr h 5 9 = 36 := H.2.2.2 (5, 9, 36) (by decide)
  have rf : TlC h (mi h) (ml h) OU h := ⟨mi h, H.sil, Fr.refl, fun _ _ => rfl, ho⟩
  refine v_Ho_tellOf _ _ _ _ _ ⟨H.k5, SpR.mono (sp_Ho_groupAt H hg x) ?_⟩
  rintro r g0 ⟨e0, res⟩
  subst g0
  rcases res with ⟨i, hi, rfl, rfl, nz⟩ | ⟨ni, rfl⟩
  · obtain ⟨ok, ⟨MK, b, cl⟩, _⟩ := hg.at hi
    have w' := ok.2.1
    obtain ⟨b0, ⟨b1, b2, _⟩, ⟨b3, b4, b5⟩, ⟨b6, b7, b8⟩, _⟩ := id b
    have no : ∀ y : Int32, ¬ (0 ≤ y.toInt ∧ y.toInt < ((GS.getD i []).length : Int)) → ¬ ∃ i' j, i' < GS.length ∧ j < (GS.getD i' []).length ∧ nI i = nI i' ∧ y = nI j := by
      rintro y q ⟨i', j, hi', hj, e, rfl⟩
      rw [nI_inj (by omega) (by omega)] at e
      subst e
      rw [nI_toI (by omega)] at q
      omega
    refine ⟨fun c => absurd c nz, fun _ => ?_⟩
    rw [b2, b4, b5, nI_toI (by omega), e36]
    refine ⟨fun c => ⟨_, rfl, OU, Or.inr ⟨no y (by omega), rfl, rfl⟩, rf⟩, fun c1 => ⟨b1, b3, fun c2 => ?_, fun c => ⟨_, rfl, OU, Or.inr ⟨no y (by omega), rfl, rfl⟩, rf⟩⟩⟩
    obtain ⟨j, rfl, hj⟩ := op_x c1 c2 (by omega)
    have A := c_tellIt (h := h) (f := mi h) (l := ml h) (Rt := fun v g => ∃ r, v = .int r ∧ ∃ OU', ToA GS OU (nI i) (nI j) r OU' ∧ TlC h (mi h) (ml h) OU' g) (ok.2.2.1 _ (getD_mem hj)) (fun g w => ⟨_, rfl, _, Or.inl ⟨i, j, hi, hj, rfl, rfl, rfl, rfl⟩, w⟩)
    rw [← H.sil] at A
    rw [ix_nI (by omega), b8 j hj]
    exact ⟨H.k5, b6, by rw [b7]; exact InB_nI hj (by omega), H.k36, A⟩
  · refine ⟨fun _ => ⟨_, rfl, OU, Or.inr ⟨?_, rfl, rfl⟩, rf⟩, fun c => absurd rfl c⟩
    rintro ⟨i, j, hi, _, rfl, _⟩
    exact ni (by rw [nI_toI (by omega)]; omega)
theorem sp_Ref_tellOf {h : MH} {f : (Nat → Nat → Int32)} {l : (Nat → Nat → Int64)} {GS : List (List Nat)} {OU : List Nat} (hg : RGrp f GS) (ok : ∀ S ∈ GS, GOk S) (ho : OutR f OU) (x y : Int32) : SpI k_Ref_tellOf [.ref 54, .int x, .int y] (sil h f l) (fun r g => ∃ OU', ToA GS OU x y r OU' ∧ TlR h f l OU' g) := by
  have g1 := hg.1
  have rf : TlR h f l OU (sil h f l) := ⟨f, rfl, Fr.refl, fun _ _ => rfl, ho⟩
  refine v_Ref_tellOf _ _ _ _ _ ⟨K54, SpI.mono (sp_Ref_isGroup hg x) ?_⟩
  rintro r _ ⟨rfl, (⟨i, hi, rfl, rfl⟩ | ⟨ni, rfl⟩)⟩
  · have w := (hg.2.1 _ (gD_mem hi)).1
    have gi := hg.2.2.2 i hi
    have no : ∀ y : Int32, ¬ (0 ≤ y.toInt ∧ y.toInt < ((GS.getD i []).length : Int)) → ¬ ∃ i' j, i' < GS.length ∧ j < (GS.getD i' []).length ∧ nI i = nI i' ∧ y = nI j := by
      rintro y q ⟨i', j, hi', hj, e, rfl⟩
      rw [nI_inj (by omega) (by omega)] at e
      subst e
      rw [nI_toI (by omega)] at q
      omega
    refine ⟨fun c => absurd c (by decide), fun _ => ⟨fun c => ⟨_, rfl, OU, Or.inr ⟨no y (by omega), rfl, rfl⟩, rf⟩, fun c1 => ⟨K54, ?_⟩⟩⟩
    rw [R54_16, ix_nI (a := i) (by omega), mi_sil, gi.1, nI_toI (by omega), L65]
    refine ⟨K65, InB_nI (by omega) (by omega), fun c2 => ?_, fun c => ⟨_, rfl, OU, Or.inr ⟨no y (by omega), rfl, rfl⟩, rf⟩⟩
    obtain ⟨j, rfl, hj⟩ := op_x c1 c2 (by omega)
    rw [R54_15, show (192 : Int32) = nI 192 from rfl, nI_mul, nI_add, ix_nI (by omega), gi.2 j hj, L64]
    refine ⟨K64, InB_nI (by omega) (by omega), SpI.mono (sp_Ref_tellOperation ((ok _ (gD_mem hi)).2.2.1 _ (getD_mem hj))) ?_⟩
    rintro _ _ ⟨rfl, f', rfl, fr, oc⟩
    exact ⟨_, rfl, _, Or.inl ⟨i, j, hi, hj, rfl, rfl, rfl, rfl⟩, f', rfl, fr.1, fr.2, oc⟩
  · refine ⟨fun _ => ⟨_, rfl, OU, Or.inr ⟨?_, rfl, rfl⟩, rf⟩, fun c => absurd rfl c⟩
    rintro ⟨i, j, hi, _, rfl, _⟩
    exact ni (by rw [nI_toI (by omega)]; omega)
theorem sp_Ho_letter {h : MH} {f : (Nat → Nat → Int32)} {l : (Nat → Nat → Int64)} {OU : List Nat} (ho : OutC f OU) (hl : OU.length ≤ 48) (x : Int32) : SpI k_Ho_letter [.ref 5, .int x] (sil h f l) (fun r g => LtA OU x r ∧ g = sil h f l) := by
  refine v_Ho_letter _ _ _ _ ?_
  rw [R5_0, R6_7, mi_sil, ho.1, nI_toI (by omega)]
  refine ⟨fun c => ⟨_, rfl, Or.inr ⟨fun q => by omega, rfl⟩, rfl⟩, fun c1 => ⟨Kd5, K6, fun c2 => ?_, fun c => ⟨_, rfl, Or.inr ⟨fun q => by omega, rfl⟩, rfl⟩⟩⟩
  obtain ⟨j, rfl, hj⟩ := op_x c1 c2 (by omega)
  rw [ix_nI (by omega), ho.2 j hj, L12]
  exact ⟨K12, InB_nI (by omega) (by omega), _, rfl, Or.inl ⟨j, hj, rfl, rfl⟩, rfl⟩
theorem sp_Ref_letter {h : MH} {f : (Nat → Nat → Int32)} {l : (Nat → Nat → Int64)} {OU : List Nat} (ho : OutR f OU) (hl : OU.length ≤ 48) (x : Int32) : SpI k_Ref_letter [.ref 54, .int x] (sil h f l) (fun r g => LtA OU x r ∧ g = sil h f l) := by
  refine v_Ref_letter _ _ _ _ ?_
  rw [R54_13, mi_sil, ho.1, nI_toI (by omega)]
  refine ⟨fun c => ⟨_, rfl, Or.inr ⟨fun q => by omega, rfl⟩, rfl⟩, fun c1 => ⟨K54, fun c2 => ?_, fun c => ⟨_, rfl, Or.inr ⟨fun q => by omega, rfl⟩, rfl⟩⟩⟩
  obtain ⟨j, rfl, hj⟩ := op_x c1 c2 (by omega)
  rw [ix_nI (by omega), ho.2 j hj, L63]
  exact ⟨K63, InB_nI (by omega) (by omega), _, rfl, Or.inl ⟨j, hj, rfl, rfl⟩, rfl⟩
