/-! model -/
def MoG (GS : List (List Nat)) (CS : List S6) (MS : List Mdl) (x y : Int32) (i j : Nat) : Prop := MS.length < 20 ∧ i < GS.length ∧ j < CS.length ∧ x = nI i ∧ y = nI j ∧ ∀ c ∈ GS.getD i [], KpM (CS.getD j z6) (eM c)
theorem MoG.fn {GS : List (List Nat)} {CS : List S6} {MS : List Mdl} {x y : Int32} {i j i' j' : Nat} (hl : GS.length ≤ 60) (hl' : CS.length ≤ 40) (h : MoG GS CS MS x y i j) (h' : MoG GS CS MS x y i' j') : i = i' ∧ j = j' := by
  obtain ⟨_, a, b, c, d, _⟩ := h
  obtain ⟨_, a', b', c', d', _⟩ := h'
  exact ⟨(nI_inj (by omega) (by omega)).mp (c.symm.trans c'), (nI_inj (by omega) (by omega)).mp (d.symm.trans d')⟩
def MoP (h : MH) (O : Nat → Nat) (ng : Nat) (CS : List S6) (MS : List Mdl) (M : Mdl) (g : MH) : Prop := ∃ O', Kp [5, 44, 37, 38] h g ∧ ((∀ j, j ≠ 16 → mi g 5 j = mi h 5 j) ∧ ml g 5 = ml h 5 ∧ mr g 5 = mr h 5) ∧ (∀ a, a < hn h → O' a = O a) ∧ HMdl g O' ng CS (MS ++ [M])
theorem gD_out {α : Type} {d : α} {L : List α} {j : Nat} (h : L.length ≤ j) : L.getD j d = d := by
  rw [List.getD_eq_getElem?_getD, List.getElem?_eq_none h]; rfl
theorem mS_len (MS : List Mdl) (M : Mdl) : (MS ++ [M]).length = MS.length + 1 := by rw [List.length_append]; rfl
theorem mod_new {h g : MH} {O : Nat → Nat} {ng i j : Nat} {CS : List S6} {MS : List Mdl} (H : SS h) (hm : HMdl h O ng CS MS) (l20 : MS.length < 20) (hi : i < ng) (hj : j < CS.length) (K : Kp [37, 38] h g) {y : Nat} (ey : hn h = y) (hg : hn g = y + 7) (mk : MdK g y (mr h 29 i) (mr h 43 j + 1)) (m4 : mi g y 4 = 0) (m6 : mi g y 6 = 0) (m1 : mi g (y + 4) 1 = 0) (mz : ∀ q, mr g (y + 6) q = 0) :
    MoP h O ng CS MS (i, j, 0, []) (wi (wr g 44 MS.length y) 5 16 (nI (MS.length + 1))) := by
  have h99 := H.1
  have KG : Kp [5, 44] g (wi (wr g 44 MS.length y) 5 16 (nI (MS.length + 1))) := ((Kp.refl K.1).wr (Or.inl (by decide)) (Or.inr (Or.inr (Or.inr rfl)))).wi (Or.inl (by decide))
  have K2 : Kp [5, 44, 37, 38] h (wi (wr g 44 MS.length y) 5 16 (nI (MS.length + 1))) := (K.mono (by decide)).trans (KG.mono (by decide))
  have e44 : ∀ q, q < MS.length → mr (wi (wr g 44 MS.length y) 5 16 (nI (MS.length + 1))) 44 q = mr h 44 q := fun q hq => by
    rw [mr_wi, mr_wr, up2_ni (by omega), K.r (by omega) (by decide)]
  have n44 : mr (wi (wr g 44 MS.length y) 5 16 (nI (MS.length + 1))) 44 MS.length = y := by rw [mr_wi, mr_wr, up2_s]
  have e5 : ∀ q, q ≠ 16 → mi (wi (wr g 44 MS.length y) 5 16 (nI (MS.length + 1))) 5 q = mi h 5 q := fun q hq => by rw [mi_wi, up2_ni hq, mi_wr, K.i (by omega) (by decide)]
  have e5' : mi (wi (wr g 44 MS.length y) 5 16 (nI (MS.length + 1))) 5 16 = nI (MS.length + 1) := by rw [mi_wi, up2_s]
  have l5 : ml (wi (wr g 44 MS.length y) 5 16 (nI (MS.length + 1))) 5 = ml h 5 := by rw [ml_wi, ml_wr, K.l (by omega) (by decide)]
  have r5 : mr (wi (wr g 44 MS.length y) 5 16 (nI (MS.length + 1))) 5 = mr h 5 := by rw [mr_wi, mr_wr, up2_row (by decide), K.r (by omega) (by decide)]
  have n2 : hn (wi (wr g 44 MS.length y) 5 16 (nI (MS.length + 1))) = y + 7 := by rw [hn_wi, hn_wr]; exact hg
  generalize wi (wr g 44 MS.length y) 5 16 (nI (MS.length + 1)) = k at *
  have e29 : mr k 29 = mr h 29 := K2.r (by omega) (by decide)
  have e43 : mr k 43 = mr h 43 := K2.r (by omega) (by decide)
  refine ⟨fun a => if hn h ≤ a then 100 + MS.length else O a, K2, ⟨e5, l5, r5⟩, fun a ha => if_neg (by omega), by rw [mS_len]; omega, by rw [mS_len]; exact e5', fun q hq => ?_⟩
  rw [mS_len] at hq
  rw [e29, e43]
  by_cases e : q = MS.length
  · subst e
    rw [gEnd, n44]
    have lo : ∀ i, y + i ∉ [5, 44] := fun i q => by
      simp only [List.mem_cons, List.not_mem_nil, or_false] at q
      omega
    have i0 := KG.i (x := y) (by omega) (lo 0)
    have mk2 := mk.kp KG (by omega) (lo 0) (lo 4)
    have r4 := mk2.2.2.2.2.1
    refine ⟨⟨hi, hj, Nat.zero_le _, Nat.zero_le _, fun p hp => absurd hp List.not_mem_nil, fun a b ha => absurd ha (Nat.not_lt_zero a)⟩, ⟨by omega, by omega, fun z hz => if_pos (by omega)⟩, mk2, ⟨by rw [i0]; exact m4, by rw [i0]; exact m6, fun a ha => absurd ha (Nat.not_lt_zero a), [], ⟨⟨r4.1, r4.2.1, r4.2.2.1, Nat.zero_le _, by rw [r4.2.2.2]; decide, by omega⟩, by rw [KG.i (by omega) (lo 4)]; exact m1, fun a ha => absurd ha (Nat.not_lt_zero a), List.Pairwise.nil⟩, Nat.zero_le _, fun z => ⟨fun q => absurd q List.not_mem_nil, fun ⟨a, ha, _⟩ => absurd ha (Nat.not_lt_zero a)⟩⟩, fun m hm => Or.inl ?_⟩
    rw [KG.r (by omega) (lo 6)]; exact mz m
  · have ql : q < MS.length := by omega
    rw [gLeft ql, e44 q ql]
    obtain ⟨g1, g2⟩ := hm.2.2 q ql
    exact ⟨g1, g2.kp K2 (fun a ha => Or.inl (by revert a; decide)) (fun a ha => if_neg (by omega))⟩
theorem sp_Ho_modelAt {h : MH} {O : Nat → Nat} {ng : Nat} {CS : List S6} {MS : List Mdl} (H : SS h) (hm : HMdl h O ng CS MS) (x : Int32) : SpR k_Ho_modelAt [.ref 5, .int x] h (fun r g => g = h ∧ ((∃ i, i < MS.length ∧ x = nI i ∧ r = mr h 44 i ∧ r ≠ 0) ∨ (¬ (0 ≤ x.toInt ∧ x.toInt < MS.length) ∧ r = 0))) := by
  obtain ⟨g1, g2, g3⟩ := hm
  have e44 : mr h 5 15 = 44 := H.2.2.2 (5, 15, 44) (by decide)
  refine v_Ho_modelAt _ _ _ _ ?_
  rw [g2, nI_toI (by omega), e44]
  refine ⟨fun c => ⟨_, rfl, rfl, Or.inr ⟨fun q => by omega, rfl⟩⟩, fun c1 => ⟨H.k5, fun c2 => ?_, fun c => ⟨_, rfl, rfl, Or.inr ⟨fun q => by omega, rfl⟩⟩⟩⟩
  obtain ⟨i, rfl, hi⟩ := op_x c1 c2 (by omega)
  obtain ⟨_, b⟩ := g3 i hi
  have := b.1.1
  rw [ix_nI (by omega)]
  exact ⟨H.k44, by rw [H.2.2.1 (44, 20) (by decide)]; exact InB_nI (by omega) (by omega), ⟨_, rfl, rfl, Or.inl ⟨i, hi, rfl, rfl, by omega⟩⟩⟩
theorem sp_Ho_model {h : MH} {O : Nat → Nat} {GS : List (List Nat)} {CS : List S6} {MS : List Mdl} (H : SS h) (hg : HGrp h O GS) (hc : HCel h O CS) (hm : HMdl h O GS.length CS MS) (x y : Int32) :
    SpI k_Ho_model [.ref 5, .int x, .int y] h (fun r g => (∃ i j, MoG GS CS MS x y i j ∧ r = nI MS.length ∧ MoP h O GS.length CS MS (i, j, 0, []) g) ∨ ((¬ ∃ i j, MoG GS CS MS x y i j) ∧ r = -1 ∧ Kp [37, 38] h g)) := by
  have hl := hg.1
  have hl' := hc.1
  have mlh := hm.1
  have h99 := H.1
  refine v_Ho_model _ _ _ _ _ ⟨H.k5, SpR.mono (sp_Ho_groupAt H hg x) ?_⟩
  rintro r1 _ ⟨rfl, g1⟩
  refine ⟨H.k5, SpR.mono (sp_Ho_cellAt H hc y) ?_⟩
  rintro r2 k ⟨rfl, g2⟩
  have t20 : (20 : Int32).toInt = 20 := rfl
  rw [hm.2.1, nI_toI (by omega), t20]
  refine ⟨H.k5, fun c20 => ?_, fun c20 => ⟨_, rfl, Or.inr ⟨fun ⟨i, j, q⟩ => c20 (by have := q.1; omega), rfl, Kp.refl H⟩⟩⟩
  rcases g1 with ⟨i, hi, rfl, rfl, r0⟩ | ⟨no, rfl⟩
  rotate_left
  · exact ⟨fun _ => ⟨_, rfl, Or.inr ⟨fun ⟨i, j, q⟩ => fit_no1 (CS := CS) (y := y) hl no ⟨i, j, q.2.1, q.2.2.1, q.2.2.2.1, q.2.2.2.2.1⟩, rfl, Kp.refl H⟩⟩, fun q => absurd rfl q⟩
  refine ⟨fun q => absurd q r0, fun _ => ?_⟩
  rcases g2 with ⟨j, hj, rfl, rfl, r0'⟩ | ⟨no, rfl⟩
  rotate_left
  · exact ⟨fun _ => ⟨_, rfl, Or.inr ⟨fun ⟨i', j, q⟩ => fit_no2 (GS := GS) (x := nI i) hl' no ⟨i', j, q.2.1, q.2.2.1, q.2.2.2.1, q.2.2.2.2.1⟩, rfl, Kp.refl H⟩⟩, fun q => absurd rfl q⟩
  obtain ⟨ok, ⟨MK, b, cl⟩, _⟩ := hg.2.2 i hi
  obtain ⟨oks, cb, _⟩ := hc.2.2 j hj
  have e0 := H.sil
  have b0 : GrpB (sil k (mi k) (ml k)) O i (mr k 29 i) (GS.getD i []) MK := by rw [← e0]; exact b
  have c0 : CelB (sil k (mi k) (ml k)) O (60 + j) (mr k 43 j) (CS.getD j z6) := by rw [← e0]; exact cb
  have := sp_Ho_keptBy (f := mi k) (l := ml k) H ok b0 cl c0 oks
  rw [← e0] at this
  refine ⟨fun q => absurd q r0', fun _ => SpI.mono this ?_⟩
  clear this b0 c0
  rintro r _ ⟨⟨f', rfl, fr⟩, ⟨rfl, a⟩ | ⟨rfl, a⟩⟩
  rotate_left
  · refine ⟨fun _ => ⟨_, rfl, Or.inr ⟨fun ⟨i', j', q⟩ => a ?_, rfl, Kp.si3 H fr Fr.refl⟩⟩, fun q => absurd rfl q⟩
    obtain ⟨_, q1, q2, q3, q4, q5⟩ := q
    have e1 : i = i' := (nI_inj (by omega) (by omega)).mp q3
    have e2 : j = j' := (nI_inj (by omega) (by omega)).mp q4
    subst e1 e2
    exact q5
  have K0 : Kp [37, 38] k (sil k f' (ml k)) := Kp.si3 H fr Fr.refl
  have nk : hn (sil k f' (ml k)) = hn k := hn_sil
  generalize sil k f' (ml k) = p at *
  refine ⟨fun q => absurd q (by decide), fun _ => ⟨K0.1.k5, ?_⟩⟩
  rintro _ rfl
  have K1 : Kp [37, 38] k (nw p 6 0) := K0.nw
  have e5 : mi p 5 16 = nI MS.length := by rw [K0.i (by omega) (by decide)]; exact hm.2.1
  have n1 : hn (nw p 6 0) = hn k + 1 := by rw [hn_nw, nk]
  have kn : kd (nw p 6 0) (hn k) = 6 := by rw [← nk]; exact kd_new
  have cb1 := cb.kp (k := nw p 6 0) (O' := O) K1 (fun a ha => Or.inl (by revert a; decide)) (fun _ _ => rfl)
  have e44 : mr p 5 15 = 44 := K0.1.2.2.2 (5, 15, 44) (by decide)
  rw [cb1.2.1.2.1, nk, e5, e44]
  generalize nw p 6 0 = q at *
  refine ⟨cb1.2.1.1, kn, SpV.mono (sp_Model_init K1.1 h99 n1 kn) ?_⟩
  rintro g ⟨c2, ng, mk, m4, m6, m1, mz⟩
  have K2 : Kp [37, 38] k g := ⟨c2.1, by omega, fun z hz => by
    have a := K1.2.2 z hz
    have b := c2.2.2 z (by omega)
    have c := b.2.2 (fun q => by have := List.mem_singleton.mp q; omega)
    exact ⟨b.1.trans a.1, b.2.1.trans a.2.1, fun n => ⟨c.1.trans (a.2.2 n).1, c.2.1.trans (a.2.2 n).2.1, c.2.2.trans (a.2.2 n).2.2⟩⟩⟩
  have e5g : mi g 5 16 = nI MS.length := by rw [K2.i (by omega) (by decide)]; exact hm.2.1
  refine ⟨K2.1.k44, by rw [K2.1.2.2.1 (44, 20) (by decide)]; exact InB_nI (by omega) (by omega), mk.1.1, ?_⟩
  rintro _ rfl
  refine ⟨K2.1.k5, ?_⟩
  rintro _ rfl
  rw [e5g, nI_1, ix_nI (by omega)]
  exact ⟨_, rfl, Or.inl ⟨i, j, ⟨by omega, hi, hj, rfl, rfl, a⟩, rfl, mod_new H hm (by omega) hi hj K2 rfl ng mk m4 m6 m1 mz⟩⟩
/-- the reference's models -/
def RMdl (f : (Nat → Nat → Int32)) (MS : List Mdl) : Prop := MS.length ≤ 20 ∧ f 54 45 = nI MS.length ∧ (∀ j, j < 20 → f 83 j = nI (MS.getD j zM).2.2.1 ∧ f 84 j = nI (MS.getD j zM).2.2.2.length) ∧ ∀ j, j < MS.length → f 81 j = nI (MS.getD j zM).1 ∧ f 82 j = nI (MS.getD j zM).2.1 ∧ ∀ i, i < (MS.getD j zM).2.2.2.length → f 85 (300 * j + i) = nI ((MS.getD j zM).2.2.2.getD i zp).1 ∧ f 86 (300 * j + i) = zI ((MS.getD j zM).2.2.2.getD i zp).2.1 ∧ f 87 (300 * j + i) = nI ((MS.getD j zM).2.2.2.getD i zp).2.2
def MdIds : List Nat := [81, 82, 83, 84, 85, 86, 87]
theorem RMdl.fr {f f' : (Nat → Nat → Int32)} {MS : List Mdl} (h : RMdl f MS) (e : f' 54 45 = f 54 45) (fr : ∀ a ∈ MdIds, f' a = f a) : RMdl f' MS := by
  unfold RMdl at *
  rw [e, fr 81 (by decide), fr 82 (by decide), fr 83 (by decide), fr 84 (by decide), fr 85 (by decide), fr 86 (by decide), fr 87 (by decide)]
  exact h
theorem sp_Ref_isModel {h : MH} {f : (Nat → Nat → Int32)} {l : (Nat → Nat → Int64)} {MS : List Mdl} (hm : RMdl f MS) (x : Int32) : SpI k_Ref_isModel [.ref 54, .int x] (sil h f l) (fun r g => g = sil h f l ∧ ((∃ i, i < MS.length ∧ x = nI i ∧ r = 1) ∨ (¬ (0 ≤ x.toInt ∧ x.toInt < MS.length) ∧ r = 0))) := by
  have g1 := hm.1
  refine v_Ref_isModel _ _ _ _ ?_
  rw [mi_sil, hm.2.1, nI_toI (by omega)]
  refine ⟨fun c => ⟨_, rfl, rfl, Or.inr ⟨fun q => by omega, rfl⟩⟩, fun c1 => ⟨K54, fun c2 => ?_, fun c => ⟨_, rfl, rfl, Or.inr ⟨fun q => by omega, rfl⟩⟩⟩⟩
  obtain ⟨i, rfl, hi⟩ := op_x c1 c2 (by omega)
  exact ⟨_, rfl, rfl, Or.inl ⟨i, hi, rfl, rfl⟩⟩
def RMoP (h : MH) (f : (Nat → Nat → Int32)) (l : (Nat → Nat → Int64)) (MS : List Mdl) (M : Mdl) (g : MH) : Prop := ∃ f', g = sil h f' l ∧ Fr [54, 57, 58, 81, 82] f f' ∧ (∀ j, j ≠ 45 → f' 54 j = f 54 j) ∧ RMdl f' (MS ++ [M])
theorem sp_Ref_model {h : MH} {f : (Nat → Nat → Int32)} {l : (Nat → Nat → Int64)} {GS : List (List Nat)} {CS : List S6} {MS : List Mdl} (hg : RGrp f GS) (ok : ∀ S ∈ GS, GOk S) (hc : RCel f l CS) (okc : ∀ j, j < CS.length → okC (CS.getD j z6)) (hm : RMdl f MS) (x y : Int32) :
    SpI k_Ref_model [.ref 54, .int x, .int y] (sil h f l) (fun r g => (∃ i j, MoG GS CS MS x y i j ∧ r = nI MS.length ∧ RMoP h f l MS (i, j, 0, []) g) ∨ ((¬ ∃ i j, MoG GS CS MS x y i j) ∧ r = -1 ∧ ∃ f', g = sil h f' l ∧ Fr [57, 58] f f')) := by
  have hl := hg.1
  have hl' := hc.1
  have mL := hm.1
  refine v_Ref_model _ _ _ _ _ ⟨K54, ?_⟩
  rw [mi_sil, hm.2.1, show (20 : Int32) = nI 20 from rfl]
  refine ⟨fun c => ⟨_, rfl, Or.inr ⟨fun ⟨i, j, q⟩ => ?_, rfl, f, rfl, Fr.refl⟩⟩, fun c => SpI.mono (sp_Ref_fits hg ok hc okc x y) ?_⟩
  · have := (nI_inj (by omega) (by omega)).mp c
    have := q.1
    omega
  have l20 : MS.length < 20 := by
    have : MS.length ≠ 20 := fun q => c (by rw [q])
    omega
  rintro r _ ⟨A, f', rfl, fr⟩
  rcases A with ⟨i, j, hi, hj, ex, ey, ⟨rfl, a⟩ | ⟨rfl, a⟩⟩ | ⟨no, rfl⟩
  · refine ⟨fun q => absurd q (by decide), fun _ => ?_⟩
    have e45 : f' 54 45 = nI MS.length := by rw [fr 54 (by decide)]; exact hm.2.1
    rw [R54_38, R54_39, mi_sil, e45, ix_nI (by omega)]
    refine ⟨K54, K81, by rw [L81]; exact InB_nI (by omega) (by omega), ?_⟩
    rintro _ rfl
    rw [wi_sil, mi_sil, up2_ne (by decide), e45, ix_nI (by omega)]
    refine ⟨K82, by rw [L82]; exact InB_nI (by omega) (by omega), ?_⟩
    rintro _ rfl
    rw [wi_sil, mi_sil, up2_ne (by decide), up2_ne (by decide), e45, nI_1]
    rintro _ rfl
    rw [wi_sil, mi_sil, up2_s]
    refine ⟨_, rfl, Or.inl ⟨i, j, ⟨l20, hi, hj, ex, ey, a⟩, ?_, ?_⟩⟩
    · rw [show (1 : Int32) = nI 1 from rfl, nI_sub (by omega), Nat.add_sub_cancel]
    have fr' : Fr [54, 57, 58, 81, 82] f (up2 (up2 (up2 f' 81 MS.length x) 82 MS.length y) 54 45 (nI (MS.length + 1))) := (((fr.mono (by decide)).up (by decide)).up (by decide)).up (by decide)
    refine ⟨_, rfl, fr', fun q hq => ?_, ?_, ?_, ?_, ?_⟩
    · rw [up2_ni hq, up2_ne (by decide), up2_ne (by decide), fr 54 (by decide)]
    · rw [mS_len]; omega
    · rw [mS_len, up2_s]
    · intro q hq
      have g := hm.2.2.1 q hq
      rw [fr' 83 (by decide), fr' 84 (by decide)]
      by_cases e : q = MS.length
      · subst e
        rw [gEnd]
        have z : MS.getD MS.length zM = zM := gD_out (Nat.le_refl _)
        rw [z] at g
        exact g
      · by_cases e' : q < MS.length
        · rw [gLeft e']; exact g
        · rw [gD_out (L := MS ++ [(i, j, 0, [])]) (by rw [mS_len]; omega)]
          rw [gD_out (L := MS) (by omega)] at g
          exact g
    · intro q hq
      rw [mS_len] at hq
      rw [fr' 85 (by decide), fr' 86 (by decide), fr' 87 (by decide), up2_ne (by decide), up2_ne (by decide)]
      by_cases e : q = MS.length
      · subst e
        rw [gEnd, up2_s, up2_ne (by decide), up2_s]
        exact ⟨ex, ey, fun a ha => absurd ha (Nat.not_lt_zero a)⟩
      · rw [gLeft (by omega), up2_ni e, up2_ne (by decide), up2_ni e, fr 81 (by decide), up2_ne (by decide), fr 82 (by decide)]
        exact hm.2.2.2 q (by omega)
  · refine ⟨fun _ => ⟨_, rfl, Or.inr ⟨fun ⟨i', j', q⟩ => a ?_, rfl, f', rfl, fr⟩⟩, fun q => absurd rfl q⟩
    obtain ⟨_, q1, q2, q3, q4, q5⟩ := q
    have e1 : i = i' := (nI_inj (by omega) (by omega)).mp (ex.symm.trans q3)
    have e2 : j = j' := (nI_inj (by omega) (by omega)).mp (ey.symm.trans q4)
    subst e1 e2
    exact q5
  · exact ⟨fun _ => ⟨_, rfl, Or.inr ⟨fun ⟨i, j, q⟩ => no ⟨i, j, q.2.1, q.2.2.1, q.2.2.2.1, q.2.2.2.2.1⟩, rfl, f', rfl, fr⟩⟩, fun q => absurd rfl q⟩
