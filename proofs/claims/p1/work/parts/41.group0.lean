/-! a group is made; the first one, of no operation -/
theorem sp_Row_copy {h : MH} {x0 x1 a0 a1 n : Nat} (k1 : kd h x1 = 9) (k0 : kd h x0 = 9) (e0 : mr h x0 0 = a0) (e1 : mr h x1 0 = a1) (ka0 : kd h a0 = 20) (ka1 : kd h a1 = 20) (h1 : mi h x1 1 = nI n) (l0 : ln h a0 = n) (l1 : n ≤ ln h a1) (hn1 : n ≤ 1000) :
    SpV k_Row_copy [.ref x0, .ref x1] h (fun g => g = cpI (wi h x0 1 (nI n)) a1 0 a0 0 n) := by
  have tn : (nI n).toInt = (n : Int) := nI_toI (by omega)
  have t0 : (0 : Int32).toInt = 0 := rfl
  refine v_Row_copy _ _ _ _ ⟨k1, k0, by rw [e0]; exact ka0, ?_⟩
  refine SpI.mono (sp_minI _ _) ?_
  rintro r g ⟨e, hr⟩
  subst g
  have er : r = nI n := by
    rw [hr, h1, e0, l0]
    exact if_neg (by show ¬ (nI n).toInt < (nI n).toInt; omega)
  rw [er]
  refine ⟨k0, ?_⟩
  rintro _ rfl
  rw [e0, e1, mi_wi, up2_s, tn, t0, ix_nI (by omega), show ix (0 : Int32) = 0 from rfl]
  refine ⟨k1, ka1, ka0, ⟨by omega, by omega, by omega, by omega, by omega⟩, ?_⟩
  rintro _ rfl
  rfl
theorem sp_copyOf {h : MH} {a m : Nat} (ka : kd h a = 20) (la : ln h a = 8) (ha : a < hn h) (hm : m < 8) :
    SpR k_Arrays_copyOf [.ref a, .int (nI m)] h (fun r g => r = hn h ∧ g = cpI (nw h 20 m) a 0 (hn h) 0 m) := by
  have tm : (nI m).toInt = (m : Int) := nI_toI (by omega)
  have t0 : (0 : Int32).toInt = 0 := rfl
  refine v_Arrays_copyOf _ _ _ _ ⟨ka, ?_⟩
  rw [la]
  refine ⟨fun c => ?_, fun _ => ?_⟩
  · have := (nI_inj (x := m) (y := 8) (by omega) (by decide)).mp c
    omega
  · rw [tm, ix_nI (by omega)]
    refine ⟨by omega, gd_iff.mpr ⟨by omega, ?_⟩⟩
    rintro _ rfl
    rw [kd_old (by omega), ln_old (by omega), la]
    refine ⟨ka, gd_iff.mpr ⟨by omega, ?_⟩⟩
    refine SpI.mono (sp_minI _ _) ?_
    rintro r g ⟨e, hr⟩
    subst g
    have t8 : (Int32.ofNat 8).toInt = 8 := rfl
    have er : r = nI m := by
      rw [hr]
      exact if_pos (by rw [tm, t8]; omega)
    rw [er, kd_old (by omega), kd_new, ln_old (by omega), ln_new, la, tm, t0, ix_nI (by omega), show ix (0 : Int32) = 0 from rfl]
    refine ⟨ka, rfl, ⟨by omega, by omega, by omega, by omega, by omega⟩, ?_⟩
    rintro _ rfl
    exact gd_iff.mpr ⟨by omega, _, rfl, rfl, rfl⟩
def gI0 (x : Nat) (h : MH) : MH := wi (wr (wi h x 2 (-1)) x 3 0) x 4 0
def gI1 (x n : Nat) (h : MH) : MH := wr (iR (hn h) n (nw (gI0 x h) 9 0)) x 0 (hn h)
def gI2 (x n : Nat) (h : MH) : MH := cpI (wi (gI1 x n h) (hn h) 1 (nI n)) 17 0 (hn h + 1) 0 n
def gMk (x n m : Nat) (h : MH) : MH := wr (cpI (nw (gI2 x n h) 20 m) 19 0 (hn h + 2) 0 m) x 1 (hn h + 2)
theorem Cs_gI0 {H h : MH} {x : Nat} (c : Cs H h) (hx : 99 ≤ x) : Cs H (gI0 x h) := ((c.wi (by omega) (by omega)).wr (Or.inl hx)).wi (by omega) (by omega)
theorem Cs_gI1 {H h : MH} {x n : Nat} (c : Cs H h) (hx : 99 ≤ x) : Cs H (gI1 x n h) := by
  have h99 := c.1.1
  exact (((((Cs_gI0 c hx).nw (k := 9) (n := 0)).wi (by omega) (by omega)).nw.wr (Or.inl h99))).wr (Or.inl hx)
theorem Cs_gI2 {H h : MH} {x n : Nat} (c : Cs H h) (hx : 99 ≤ x) : Cs H (gI2 x n h) := by
  have h99 := c.1.1
  exact ((Cs_gI1 c hx).wi (by omega) (by omega)).cpI (by omega) (by omega)
theorem Cs_gI {H h : MH} {x n m : Nat} (c : Cs H h) (hx : 99 ≤ x) : Cs H (gMk x n m h) := by
  have h99 := c.1.1
  exact ((Cs_gI2 c hx).nw.cpI (by omega) (by omega)).wr (Or.inl hx)
theorem sp_Group_init {h : MH} {x n m : Nat} (H : SS h) (hx : 99 ≤ x) (hl : x < hn h) (hk : kd h x = 4) (h16 : mi h 16 1 = nI n) (hn1 : n ≤ 192) (h15 : mi h 15 3 = nI m) (hm : m < 8) :
    SpV k_Group_init [.ref x, .ref 15] h (fun g => g = gMk x n m h) := by
  have c0 := Cs.refl H
  have c1 := Cs_gI0 c0 hx
  have c2 := Cs_gI1 (n := n) c0 hx
  have c3 := Cs_gI2 (n := n) c0 hx
  have h99 := H.1
  have t0 : (0 : Int32).toInt = 0 := rfl
  have tm : (nI m).toInt = (m : Int) := nI_toI (by omega)
  have e15 : ∀ g, SS g → mr g 15 0 = 16 := fun g q => q.2.2.2 (15, 0, 16) (by decide)
  have e16 : ∀ g, SS g → mr g 16 0 = 17 := fun g q => q.2.2.2 (16, 0, 17) (by decide)
  have e19 : ∀ g, SS g → mr g 15 2 = 19 := fun g q => q.2.2.2 (15, 2, 19) (by decide)
  refine v_Group_init _ _ _ _ ⟨by omega, hk, ?_⟩
  rintro _ rfl
  refine v_Group_init_1 _ _ _ _ _ _ ⟨hk, ?_⟩
  rintro _ rfl
  rintro _ rfl
  refine v_Group_init_2 _ _ _ _ _ _ (gd_i rfl (gd_i rfl ?_))
  rintro _ rfl
  have c1n : Cs h (nw (gI0 x h) 9 0) := c1.nw
  have S1 := c1n.1
  have m16 : mi (nw (gI0 x h) 9 0) 16 1 = nI n := by
    show (if 16 = hn h then 0 else up2 (up2 (mi h) x 2 (-1)) x 4 0 16 1) = _
    rw [if_neg (by omega), up2_ne (by omega), up2_ne (by omega)]; exact h16
  have kR : kd (nw (gI0 x h) 9 0) (hn h) = 9 := kd_new1 rfl
  refine ⟨S1.k15, ?_⟩
  show kd (nw (gI0 x h) 9 0) (mr (nw (gI0 x h) 9 0) 15 0) = 9 ∧ kd (nw (gI0 x h) 9 0) (hn h) = 9 ∧ _
  rw [e15 _ S1]
  refine ⟨S1.k16, kR, gd_i rfl (gd_i rfl ?_)⟩
  show SpV k_Row_init [.ref (hn h), .int (mi (nw (gI0 x h) 9 0) (mr (nw (gI0 x h) 9 0) 15 0) 1)] (nw (gI0 x h) 9 0) _
  rw [e15 _ S1, m16]
  refine SpV.mono (sp_Row_init (by omega) (show hn h < hn h + 1 by omega) kR (by omega)) ?_
  rintro _ rfl
  have cR : Cs h (iR (hn h) n (nw (gI0 x h) 9 0)) := (c1n.wi (by omega) (by omega)).nw.wr (Or.inl h99)
  refine ⟨(cR.k hl).trans hk, ?_⟩
  rintro _ rfl
  show WM k_Group_init p_Group_init_3 [.ref x, .ref 15] [] (gI1 x n h) ((0 + 1) + 1) ((0 + 2) + 400) _
  have x0R : mr (gI1 x n h) x 0 = hn h := up2_s
  have kR1 : kd (gI1 x n h) (hn h) = 9 := by
    show kd (nw (wi (nw (gI0 x h) 9 0) (hn h) 1 0) 20 n) (hn h) = 9
    rw [kd_old (by show hn h ≠ hn h + 1; omega)]
    exact kR
  have kA : kd (gI1 x n h) (hn h + 1) = 20 := kd_new1 (h := wi (nw (gI0 x h) 9 0) (hn h) 1 0) (n := n) rfl
  have lA : ln (gI1 x n h) (hn h + 1) = n := ln_new (h := wi (nw (gI0 x h) 9 0) (hn h) 1 0) (k := 20)
  have rA : mr (gI1 x n h) (hn h) 0 = hn h + 1 := by
    show up2 _ x 0 _ (hn h) 0 = _
    rw [up2_ne (by omega)]
    exact up2_s
  have m16b : mi (gI1 x n h) 16 1 = nI n := by
    show (if 16 = hn h + 1 then 0 else up2 (mi (nw (gI0 x h) 9 0)) (hn h) 1 0 16 1) = _
    rw [if_neg (by omega), up2_ne (by omega)]; exact m16
  refine v_Group_init_3 _ _ _ _ _ _ ⟨(c2.k hl).trans hk, c2.1.k15, by rw [x0R]; exact kR1, gd_i rfl (gd_i rfl ?_)⟩
  rw [x0R, e15 _ c2.1]
  refine SpV.mono (sp_Row_copy (n := n) c2.1.k16 kR1 rA (e16 _ c2.1) kA c2.1.k17 m16b lA (by rw [c2.1.2.2.1 (17, 192) (by decide)]; exact hn1) (by omega)) ?_
  rintro _ rfl
  show kd (gI2 x n h) 15 = 2 ∧ _
  refine ⟨c3.1.k15, gd_i rfl (gd_i rfl ?_)⟩
  have m15 : mi (gI2 x n h) 15 3 = nI m := by
    show mi (cpI (wi (gI1 x n h) (hn h) 1 (nI n)) 17 0 (hn h + 1) 0 n) 15 3 = _
    rw [mi_cpI, if_neg (by omega), mi_wi, up2_ne (by omega)]
    show (if 15 = hn h + 1 then 0 else up2 (mi (nw (gI0 x h) 9 0)) (hn h) 1 0 15 3) = _
    rw [if_neg (by omega), up2_ne (by omega)]
    show (if 15 = hn h then 0 else up2 (up2 (mi h) x 2 (-1)) x 4 0 15 3) = _
    rw [if_neg (by omega), up2_ne (by omega), up2_ne (by omega)]; exact h15
  show SpI k_Math_maxIII [.int (mi (gI2 x n h) 15 3), .int (0 : Int32)] (gI2 x n h) _
  rw [m15]
  refine SpI.mono (sp_maxI _ _) ?_
  rintro r g ⟨e, hr⟩
  subst g
  have er : r = nI m := by rw [hr]; exact if_neg (by rw [tm, t0]; omega)
  rw [er]
  refine gd_i rfl (gd_i rfl ?_)
  show SpR k_Arrays_copyOf [.ref (mr (gI2 x n h) 15 2), .int (nI m)] (gI2 x n h) _
  rw [e19 _ c3.1]
  refine SpR.mono (sp_copyOf (m := m) c3.1.k19 (c3.1.2.2.1 (19, 8) (by decide)) (by show 19 < hn h + 2; omega) hm) ?_
  rintro r g ⟨e1, e2⟩
  subst r g
  have c4 : Cs h (cpI (nw (gI2 x n h) 20 m) 19 0 (hn h + 2) 0 m) := c3.nw.cpI (by omega) (by omega)
  refine ⟨(c4.k hl).trans hk, ?_⟩
  rintro _ rfl
  exact v_Group_init_4 _ _ _ _ (gd_i rfl (gd_i rfl rfl))
theorem sp_keepGroup0 {h : MH} {n m : Nat} (H : SS h) (h0 : mi h 5 6 = nI 0) (h16 : mi h 16 1 = nI n) (hn1 : n ≤ 192) (h15 : mi h 15 3 = nI m) (hm : m < 8) :
    SpI k_Ho_keepGroup [.ref 5] h (fun r g => r = nI 0 ∧ Cs h g) := by
  have h99 := H.1
  have t0 : (nI 0).toInt = 0 := rfl
  have e29 : mr h 5 5 = 29 := H.2.2.2 (5, 5, 29) (by decide)
  have c1 : Cs h (nw h 4 0) := (Cs.refl H).nw
  refine v_Ho_keepGroup _ _ _ (v_Ho_keepGroup_1 _ _ _ _ _ _ ⟨H.k5, ?_⟩)
  rw [h0, t0]
  refine ⟨fun c => absurd c (by decide), fun _ => ⟨fun _ => gd_i rfl (gd_i rfl ?_), fun c => absurd (by decide) c⟩⟩
  rintro _ rfl
  have e15 : mr (nw h 4 0) 5 4 = 15 := c1.1.2.2.2 (5, 4, 15) (by decide)
  refine ⟨c1.1.k5, kd_new, gd_i rfl (gd_i rfl ?_)⟩
  rw [e15, e29]
  have old : ∀ a j, a < 99 → mi (nw h 4 0) a j = mi h a j := fun a j ha => by
    show (if a = hn h then 0 else mi h a j) = _
    rw [if_neg (by omega)]
  refine SpV.mono (sp_Group_init (x := hn h) (n := n) (m := m) c1.1 h99 (Nat.lt_succ_self _) kd_new (by rw [old _ _ (by decide)]; exact h16) hn1 (by rw [old _ _ (by decide)]; exact h15) hm) ?_
  rintro _ rfl
  have c2 : Cs h (gMk (hn h) n m (nw h 4 0)) := Cs_gI c1 h99
  have c3 : Cs (nw h 4 0) (gMk (hn h) n m (nw h 4 0)) := Cs_gI (Cs.refl c1.1) h99
  refine ⟨c2.1.k29, by rw [c2.1.2.2.1 (29, 60) (by decide)]; exact InB_nI (by decide) (by decide), (c3.k (Nat.lt_succ_self _)).trans kd_new, ?_⟩
  rintro _ rfl
  refine ⟨c2.1.k5, ?_⟩
  rintro _ rfl
  exact gd_i rfl (gd_i rfl ⟨_, rfl, rfl, (c2.wr (Or.inr (Or.inl rfl))).wi (by decide) (by decide)⟩)
theorem group0_Ho {h : MH} {f : (Nat → Nat → Int32)} {l : (Nat → Nat → Int64)} (H : SS h) (h1 : f 1 = mi h 1) (h2 : f 54 = mi h 54) (hT : f 5 3 = nI 0) (hG : f 5 6 = nI 0) : SpI k_Ho_group [.ref 5] (sil h f l) (fun r g => r = nI 0 ∧ Cs h g) := by
  have t0 : (nI 0).toInt = 0 := rfl
  have z0 : (0 : Int32).toInt = 0 := rfl
  refine v_Ho_group _ _ _ ⟨Kd5, ?_⟩
  rw [R5_4]
  refine ⟨K15, SpV.mono sp_Closure_begin ?_⟩
  rintro _ ⟨f', rfl, q1, q2, q3, q4, q5⟩
  have c : Cs h (sil h f' l) := Cs.sil H (by rw [q1 1 (by decide) (by decide) (by decide) (by decide)]; exact h1) (by rw [q1 54 (by decide) (by decide) (by decide) (by decide)]; exact h2)
  have e5 := q1 5 (by decide) (by decide) (by decide) (by decide)
  refine v_Ho_group_1 _ _ _ _ _ _ _ ⟨Kd5, ?_⟩
  rw [show mi (sil h f' l) 5 3 = nI 0 by rw [mi_sil, e5]; exact hT, t0, z0]
  refine ⟨fun c => absurd c (by decide), fun _ => ⟨fun c => absurd c (by decide), fun _ => gd_i rfl (gd_i rfl ?_)⟩⟩
  refine SpI.mono (sp_keepGroup0 (n := 1) (m := 0) c.1 (by rw [mi_sil, e5]; exact hG) q2 (by decide) q5 (by decide)) ?_
  rintro r g ⟨e, cg⟩
  exact gd_i rfl (gd_i rfl ⟨_, rfl, e, c.trans cg⟩)
theorem group0_Ref {h : MH} {f : (Nat → Nat → Int32)} {l : (Nat → Nat → Int64)} (hT : f 54 1 = nI 0) (hG : f 54 17 = nI 0) : SpI k_Ref_group [.ref 54] (sil h f l) (fun r g => r = nI 0 ∧ ∃ f', g = sil h f' l ∧ Fr [54, 64, 65, 66] f f') := by
  refine v_Ref_group _ _ _ ⟨K54, ?_⟩
  rintro _ rfl
  rw [wi_sil]
  refine SpI.mono sp_Ref_identity ?_
  rintro r g ⟨e, er⟩
  subst g
  rw [er]
  simp (disch := omega) only [↓(show (-1 : Int32) = zI (-1) from rfl), (show (0 : Int32) = nI 0 from rfl), (show (1 : Int32) = nI 1 from rfl), (show (192 : Int32) = nI 192 from rfl), nI_add, nI_mul, nI_1, ix_nI, nI_toI, div_nI, irm_nI, InB_t, zI_add, zI_sub, zI_mul, zI_neg, nI_addZ, zI_addN, nI_mulZ, zI_mulN, nI_subZ, zI_subN, zI_toI, Int.cast_ofNat_Int, mi_sil, ml_sil, hn_sil, wi_sil, wl_sil, up2_ne, up2_s, true_and, and_true, forall_eq, true_implies, implies_true, forall_const, ne_eq, Int.reduceLT, Int.reduceLE, Int.reduceEq, Int.reduceAdd, Int.reduceSub, Int.reduceMul, Int.reduceNeg, Nat.reduceAdd, Nat.reduceMul, Nat.reduceSub, Nat.reduceDiv, Nat.reduceMod, Nat.add_zero, Nat.zero_add, Nat.mul_zero, not_true_eq_false, not_false_eq_true, false_implies, Nat.reduceEqDiff, nI_subN, Int.natCast_add, Int.natCast_mul, K54, R54_18, K66, L66, R54_2, K56, L56, R54_0, K55, L55, hT]
  have f0 : Fr [54, 64, 65, 66] f (up2 (up2 f 54 19 (nI 1)) 66 0 (nI 227874816)) := (Fr.refl.up (by decide)).up (by decide)
  have a1 : up2 (up2 f 54 19 (nI 1)) 66 0 (nI 227874816) 54 1 = nI 0 := by rw [up2_ne (by decide), up2_ni (by decide)]; exact hT
  have a2 : up2 (up2 f 54 19 (nI 1)) 66 0 (nI 227874816) 54 17 = nI 0 := by rw [up2_ne (by decide), up2_ni (by decide)]; exact hG
  have a3 : up2 (up2 f 54 19 (nI 1)) 66 0 (nI 227874816) 54 19 = nI 1 := by rw [up2_ne (by decide), up2_s]
  generalize up2 (up2 f 54 19 (nI 1)) 66 0 (nI 227874816) = f1 at *
  have n1 : ¬ nI 1 = 0 := by decide
  have n60 : ¬ nI 0 = nI 60 := by decide
  refine v_Ref_group_1 _ _ _ _ _ ?_
  simp (disch := omega) only [↓(show (-1 : Int32) = zI (-1) from rfl), (show (0 : Int32) = nI 0 from rfl), (show (1 : Int32) = nI 1 from rfl), (show (192 : Int32) = nI 192 from rfl), nI_add, nI_mul, nI_1, ix_nI, nI_toI, div_nI, irm_nI, InB_t, zI_add, zI_sub, zI_mul, zI_neg, nI_addZ, zI_addN, nI_mulZ, zI_mulN, nI_subZ, zI_subN, zI_toI, Int.cast_ofNat_Int, mi_sil, ml_sil, hn_sil, wi_sil, wl_sil, up2_ne, up2_s, true_and, and_true, forall_eq, true_implies, implies_true, forall_const, ne_eq, Int.reduceLT, Int.reduceLE, Int.reduceEq, Int.reduceAdd, Int.reduceSub, Int.reduceMul, Int.reduceNeg, Nat.reduceAdd, Nat.reduceMul, Nat.reduceSub, Nat.reduceDiv, Nat.reduceMod, Nat.add_zero, Nat.zero_add, Nat.mul_zero, not_true_eq_false, not_false_eq_true, false_implies, Nat.reduceEqDiff, nI_subN, Int.natCast_add, Int.natCast_mul, K54, R54_18, K66, L66, R54_2, K56, L56, R54_0, K55, L55, a1, a2, a3]
  refine ⟨fun c => absurd c n1, fun _ => ?_⟩
  refine v_Ref_group_2 _ _ _ _ _ _ ?_
  simp (disch := omega) only [↓(show (-1 : Int32) = zI (-1) from rfl), (show (0 : Int32) = nI 0 from rfl), (show (1 : Int32) = nI 1 from rfl), (show (192 : Int32) = nI 192 from rfl), nI_add, nI_mul, nI_1, ix_nI, nI_toI, div_nI, irm_nI, InB_t, zI_add, zI_sub, zI_mul, zI_neg, nI_addZ, zI_addN, nI_mulZ, zI_mulN, nI_subZ, zI_subN, zI_toI, Int.cast_ofNat_Int, mi_sil, ml_sil, hn_sil, wi_sil, wl_sil, up2_ne, up2_s, true_and, and_true, forall_eq, true_implies, implies_true, forall_const, ne_eq, Int.reduceLT, Int.reduceLE, Int.reduceEq, Int.reduceAdd, Int.reduceSub, Int.reduceMul, Int.reduceNeg, Nat.reduceAdd, Nat.reduceMul, Nat.reduceSub, Nat.reduceDiv, Nat.reduceMod, Nat.add_zero, Nat.zero_add, Nat.mul_zero, not_true_eq_false, not_false_eq_true, false_implies, Nat.reduceEqDiff, nI_subN, Int.natCast_add, Int.natCast_mul, K54, R54_18, K66, L66, R54_2, K56, L56, R54_0, K55, L55, a1, a2, a3]
  refine v_Ref_group_1 _ _ _ _ _ ?_
  simp (disch := omega) only [↓(show (-1 : Int32) = zI (-1) from rfl), (show (0 : Int32) = nI 0 from rfl), (show (1 : Int32) = nI 1 from rfl), (show (192 : Int32) = nI 192 from rfl), nI_add, nI_mul, nI_1, ix_nI, nI_toI, div_nI, irm_nI, InB_t, zI_add, zI_sub, zI_mul, zI_neg, nI_addZ, zI_addN, nI_mulZ, zI_mulN, nI_subZ, zI_subN, zI_toI, Int.cast_ofNat_Int, mi_sil, ml_sil, hn_sil, wi_sil, wl_sil, up2_ne, up2_s, true_and, and_true, forall_eq, true_implies, implies_true, forall_const, ne_eq, Int.reduceLT, Int.reduceLE, Int.reduceEq, Int.reduceAdd, Int.reduceSub, Int.reduceMul, Int.reduceNeg, Nat.reduceAdd, Nat.reduceMul, Nat.reduceSub, Nat.reduceDiv, Nat.reduceMod, Nat.add_zero, Nat.zero_add, Nat.mul_zero, not_true_eq_false, not_false_eq_true, false_implies, Nat.reduceEqDiff, nI_subN, Int.natCast_add, Int.natCast_mul, K54, R54_18, K66, L66, R54_2, K56, L56, R54_0, K55, L55, a1, a2, a3]
  refine v_Ref_group_5 _ _ _ _ _ ?_
  simp (disch := omega) only [↓(show (-1 : Int32) = zI (-1) from rfl), (show (0 : Int32) = nI 0 from rfl), (show (1 : Int32) = nI 1 from rfl), (show (192 : Int32) = nI 192 from rfl), nI_add, nI_mul, nI_1, ix_nI, nI_toI, div_nI, irm_nI, InB_t, zI_add, zI_sub, zI_mul, zI_neg, nI_addZ, zI_addN, nI_mulZ, zI_mulN, nI_subZ, zI_subN, zI_toI, Int.cast_ofNat_Int, mi_sil, ml_sil, hn_sil, wi_sil, wl_sil, up2_ne, up2_s, true_and, and_true, forall_eq, true_implies, implies_true, forall_const, ne_eq, Int.reduceLT, Int.reduceLE, Int.reduceEq, Int.reduceAdd, Int.reduceSub, Int.reduceMul, Int.reduceNeg, Nat.reduceAdd, Nat.reduceMul, Nat.reduceSub, Nat.reduceDiv, Nat.reduceMod, Nat.add_zero, Nat.zero_add, Nat.mul_zero, not_true_eq_false, not_false_eq_true, false_implies, Nat.reduceEqDiff, nI_subN, Int.natCast_add, Int.natCast_mul, K54, R54_18, K66, L66, R54_2, K56, L56, R54_0, K55, L55, a1, a2, a3]
  refine ⟨fun c => absurd c n1, fun _ => ?_⟩
  refine v_Ref_numbered _ _ _ ?_
  refine v_Ref_numbered_1 _ _ _ _ ?_
  simp (disch := omega) only [↓(show (-1 : Int32) = zI (-1) from rfl), (show (0 : Int32) = nI 0 from rfl), (show (1 : Int32) = nI 1 from rfl), (show (60 : Int32) = nI 60 from rfl), (show (192 : Int32) = nI 192 from rfl), nI_add, nI_mul, nI_1, ix_nI, nI_toI, div_nI, irm_nI, InB_t, zI_add, zI_sub, zI_mul, zI_neg, nI_addZ, zI_addN, nI_mulZ, zI_mulN, nI_subZ, zI_subN, zI_toI, Int.cast_ofNat_Int, mi_sil, ml_sil, hn_sil, wi_sil, wl_sil, up2_ne, up2_s, true_and, and_true, forall_eq, true_implies, implies_true, forall_const, ne_eq, Int.reduceLT, Int.reduceLE, Int.reduceEq, Int.reduceAdd, Int.reduceSub, Int.reduceMul, Int.reduceNeg, Nat.reduceAdd, Nat.reduceMul, Nat.reduceSub, Nat.reduceDiv, Nat.reduceMod, Nat.add_zero, Nat.zero_add, Nat.mul_zero, not_true_eq_false, not_false_eq_true, false_implies, Nat.reduceEqDiff, nI_subN, Int.natCast_add, Int.natCast_mul, K54, R54_18, K66, L66, R54_16, K65, L65, R54_15, K64, L64, a1, a2, a3]
  refine v_Ref_numbered_3 _ _ _ _ ?_
  simp (disch := omega) only [↓(show (-1 : Int32) = zI (-1) from rfl), (show (0 : Int32) = nI 0 from rfl), (show (1 : Int32) = nI 1 from rfl), (show (60 : Int32) = nI 60 from rfl), (show (192 : Int32) = nI 192 from rfl), nI_add, nI_mul, nI_1, ix_nI, nI_toI, div_nI, irm_nI, InB_t, zI_add, zI_sub, zI_mul, zI_neg, nI_addZ, zI_addN, nI_mulZ, zI_mulN, nI_subZ, zI_subN, zI_toI, Int.cast_ofNat_Int, mi_sil, ml_sil, hn_sil, wi_sil, wl_sil, up2_ne, up2_s, true_and, and_true, forall_eq, true_implies, implies_true, forall_const, ne_eq, Int.reduceLT, Int.reduceLE, Int.reduceEq, Int.reduceAdd, Int.reduceSub, Int.reduceMul, Int.reduceNeg, Nat.reduceAdd, Nat.reduceMul, Nat.reduceSub, Nat.reduceDiv, Nat.reduceMod, Nat.add_zero, Nat.zero_add, Nat.mul_zero, not_true_eq_false, not_false_eq_true, false_implies, Nat.reduceEqDiff, nI_subN, Int.natCast_add, Int.natCast_mul, K54, R54_18, K66, L66, R54_16, K65, L65, R54_15, K64, L64, a1, a2, a3]
  refine ⟨fun c => absurd c n60, fun _ => ?_⟩
  refine v_Ref_numbered_5 _ _ _ _ ?_
  simp (disch := omega) only [↓(show (-1 : Int32) = zI (-1) from rfl), (show (0 : Int32) = nI 0 from rfl), (show (1 : Int32) = nI 1 from rfl), (show (60 : Int32) = nI 60 from rfl), (show (192 : Int32) = nI 192 from rfl), nI_add, nI_mul, nI_1, ix_nI, nI_toI, div_nI, irm_nI, InB_t, zI_add, zI_sub, zI_mul, zI_neg, nI_addZ, zI_addN, nI_mulZ, zI_mulN, nI_subZ, zI_subN, zI_toI, Int.cast_ofNat_Int, mi_sil, ml_sil, hn_sil, wi_sil, wl_sil, up2_ne, up2_s, true_and, and_true, forall_eq, true_implies, implies_true, forall_const, ne_eq, Int.reduceLT, Int.reduceLE, Int.reduceEq, Int.reduceAdd, Int.reduceSub, Int.reduceMul, Int.reduceNeg, Nat.reduceAdd, Nat.reduceMul, Nat.reduceSub, Nat.reduceDiv, Nat.reduceMod, Nat.add_zero, Nat.zero_add, Nat.mul_zero, not_true_eq_false, not_false_eq_true, false_implies, Nat.reduceEqDiff, nI_subN, Int.natCast_add, Int.natCast_mul, K54, R54_18, K66, L66, R54_16, K65, L65, R54_15, K64, L64, a1, a2, a3]
  refine v_Ref_numbered_5 _ _ _ _ ?_
  simp (disch := omega) only [↓(show (-1 : Int32) = zI (-1) from rfl), (show (0 : Int32) = nI 0 from rfl), (show (1 : Int32) = nI 1 from rfl), (show (60 : Int32) = nI 60 from rfl), (show (192 : Int32) = nI 192 from rfl), nI_add, nI_mul, nI_1, ix_nI, nI_toI, div_nI, irm_nI, InB_t, zI_add, zI_sub, zI_mul, zI_neg, nI_addZ, zI_addN, nI_mulZ, zI_mulN, nI_subZ, zI_subN, zI_toI, Int.cast_ofNat_Int, mi_sil, ml_sil, hn_sil, wi_sil, wl_sil, up2_ne, up2_s, true_and, and_true, forall_eq, true_implies, implies_true, forall_const, ne_eq, Int.reduceLT, Int.reduceLE, Int.reduceEq, Int.reduceAdd, Int.reduceSub, Int.reduceMul, Int.reduceNeg, Nat.reduceAdd, Nat.reduceMul, Nat.reduceSub, Nat.reduceDiv, Nat.reduceMod, Nat.add_zero, Nat.zero_add, Nat.mul_zero, not_true_eq_false, not_false_eq_true, false_implies, Nat.reduceEqDiff, nI_subN, Int.natCast_add, Int.natCast_mul, K54, R54_18, K66, L66, R54_16, K65, L65, R54_15, K64, L64, a1, a2, a3]
  exact ⟨_, rfl, _, rfl, rfl, _, rfl, ((f0.up (by decide)).up (by decide)).up (by decide)⟩
