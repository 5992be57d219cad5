/-! operations that are told as numbers -/
def opOk (T : Nat) (x y : Int32) : Prop := 0 ≤ x.toInt ∧ x.toInt < 19683 ∧ 0 ≤ y.toInt ∧ y.toInt < 13824 ∧ T < 40 ∧ (det9 (eM (13824 * ix x + ix y)) = 1 ∨ det9 (eM (13824 * ix x + ix y)) = -1)
def keepF (f : (Nat → Nat → Int32)) (T c : Nat) : (Nat → Nat → Int32) := up2 (up2 (up2 f 13 T (nI c)) 14 T (nI 0)) 5 3 (nI (T + 1))
def tellF (f : (Nat → Nat → Int32)) (T c : Nat) : (Nat → Nat → Int32) := up2 (up2 f 55 T (nI c)) 54 1 (nI (T + 1))
theorem sp_Ho_keepOperation {h : MH} {f : (Nat → Nat → Int32)} {l : (Nat → Nat → Int64)} {T c : Nat} (hT : f 5 3 = nI T) (h40 : T < 40) : SpI k_Ho_keepOperation [.ref 5, .int (nI c)] (sil h f l) (fun r g => r = nI T ∧ g = sil h (keepF f T c) l) := by
  refine v_Ho_keepOperation _ _ _ _ ?_
  simp (disch := omega) only [↓(show (-1 : Int32) = zI (-1) from rfl), (show (0 : Int32) = nI 0 from rfl), (show (1 : Int32) = nI 1 from rfl), (show (40 : Int32) = nI 40 from rfl), nI_add, nI_mul, nI_1, ix_nI, nI_toI, div_nI, irm_nI, InB_t, zI_add, zI_sub, zI_mul, zI_neg, nI_addZ, zI_addN, nI_mulZ, zI_mulN, nI_subZ, zI_subN, zI_toI, Int.cast_ofNat_Int, mi_sil, ml_sil, hn_sil, wi_sil, wl_sil, up2_ne, up2_s, true_and, and_true, forall_eq, true_implies, implies_true, forall_const, ne_eq, Int.reduceLT, Int.reduceLE, Int.reduceEq, Int.reduceAdd, Int.reduceSub, Int.reduceMul, Int.reduceNeg, Nat.reduceAdd, Nat.reduceMul, Nat.reduceSub, Nat.reduceDiv, Nat.reduceMod, Nat.add_zero, Nat.zero_add, Nat.mul_zero, not_true_eq_false, not_false_eq_true, false_implies, Nat.reduceEqDiff, nI_subN, Int.natCast_add, Int.natCast_mul, Kd5, R5_1, K13, L13, R5_2, K14, L14, hT]
  refine ⟨fun _ => ⟨_, rfl, rfl, rfl⟩, fun q => absurd (by omega) q⟩
theorem sp_Ref_told0 {h : MH} {f : (Nat → Nat → Int32)} {l : (Nat → Nat → Int64)} {T c : Nat} (hT : f 54 1 = nI T) (h40 : T < 40) : SpI k_Ref_told0 [.ref 54, .int (nI c)] (sil h f l) (fun r g => r = nI T ∧ g = sil h (tellF f T c) l) := by
  refine v_Ref_told0 _ _ _ _ ?_
  simp (disch := omega) only [(show (1 : Int32) = nI 1 from rfl), nI_add, nI_mul, nI_1, ix_nI, nI_toI, div_nI, irm_nI, InB_t, zI_add, zI_sub, zI_mul, zI_neg, nI_addZ, zI_addN, nI_mulZ, zI_mulN, nI_subZ, zI_subN, zI_toI, Int.cast_ofNat_Int, mi_sil, ml_sil, hn_sil, wi_sil, wl_sil, up2_ne, up2_s, true_and, and_true, forall_eq, true_implies, implies_true, forall_const, ne_eq, Int.reduceLT, Int.reduceLE, Int.reduceEq, Int.reduceAdd, Int.reduceSub, Int.reduceMul, Int.reduceNeg, Nat.reduceAdd, Nat.reduceMul, Nat.reduceSub, Nat.reduceDiv, Nat.reduceMod, Nat.add_zero, Nat.zero_add, Nat.mul_zero, not_true_eq_false, not_false_eq_true, false_implies, Nat.reduceEqDiff, nI_subN, Int.natCast_add, Int.natCast_mul, K54, R54_0, K55, L55, hT]
  refine ⟨_, rfl, ?_, rfl⟩
  rw [show ((T : Int) + 1 - 1) = (T : Int) by omega, zI_nat]
theorem op_x {x : Int32} {n : Nat} (h0 : ¬ x.toInt < 0) (h1 : x.toInt < n) (hn : n < 1000000) : ∃ m, x = nI m ∧ m < n := by
  have e := hb_ix (i := x) (by omega)
  exact ⟨ix x, hb_of (by omega), by omega⟩
theorem sp_Ho_operation {h : MH} {f : (Nat → Nat → Int32)} {l : (Nat → Nat → Int64)} {T : Nat} (hT : f 5 3 = nI T) (hb : T ≤ 40) (x y : Int32) : SpI k_Ho_operation [.ref 5, .int x, .int y] (sil h f l) (fun r g =>
    (opOk T x y ∧ r = nI T ∧ ∃ f1, Fr [37, 38] f f1 ∧ g = sil h (keepF f1 T (13824 * ix x + ix y)) l) ∨ (¬ opOk T x y ∧ r = -1 ∧ ∃ f1, Fr [37, 38] f f1 ∧ g = sil h f1 l)) := by
  have t1 : (19683 : Int32).toInt = 19683 := rfl
  have t2 : (13824 : Int32).toInt = 13824 := rfl
  have t40 : (40 : Int32).toInt = 40 := rfl
  have tT : (nI T).toInt = (T : Int) := nI_toI (by omega)
  have no : ¬ opOk T x y → ∃ v, Value.int (-1) = .int v ∧ ((opOk T x y ∧ v = nI T ∧ ∃ f1, Fr [37, 38] f f1 ∧ sil h f l = sil h (keepF f1 T (13824 * ix x + ix y)) l) ∨ (¬ opOk T x y ∧ v = -1 ∧ ∃ f1, Fr [37, 38] f f1 ∧ sil h f l = sil h f1 l)) := fun q => ⟨_, rfl, Or.inr ⟨q, rfl, f, Fr.refl, rfl⟩⟩
  refine v_Ho_operation _ _ _ _ _ ?_
  rw [t1, t2, t40, show mi (sil h f l) 5 3 = nI T from hT, tT, R5_9]
  refine ⟨fun c => no (fun q => by have := q.1; omega), fun c1 => ⟨fun c2 => ⟨fun c => no (fun q => by have := q.2.2.1; omega), fun c3 => ⟨fun c4 => ⟨Kd5, fun c5 => ⟨K36, ?_⟩, fun c => no (fun q => by have := q.2.2.2.2.1; omega)⟩, fun c => no (fun q => by have := q.2.2.2.1; omega)⟩⟩, fun c => no (fun q => by have := q.2.1; omega)⟩⟩
  obtain ⟨m, rfl, hm⟩ := op_x (n := 19683) c1 c2 (by decide)
  obtain ⟨s, rfl, hs⟩ := op_x (n := 13824) c3 c4 (by decide)
  have ec : nI m * (13824 : Int32) + nI s = nI (13824 * m + s) := by
    rw [show (13824 : Int32) = nI 13824 from rfl, nI_mul, nI_add, Nat.mul_comm]
  rw [ec]
  have eo : ∀ d : Int, det9 (eM (13824 * m + s)) = d → (opOk T (nI m) (nI s) ↔ (d = 1 ∨ d = -1)) := fun d hd => by
    unfold opOk
    rw [ix_nI (by omega), ix_nI (by omega), hd]
    exact ⟨fun q => q.2.2.2.2.2, fun q => ⟨by omega, c2, by omega, c4, by omega, q⟩⟩
  rw [ix_nI (by omega), ix_nI (by omega)]
  refine SpV.mono (sp_Motion_open (h := sil h f l) (x := 36) (a := 37) (b := 38) (c := 13824 * m + s) rfl rfl rfl rfl rfl rfl rfl (by decide) (by unfold cOK; omega)) ?_
  rintro _ ⟨f1, rfl, o1, m1, s1⟩
  rw [si_sil, R5_9]
  have fr : Fr [37, 38] f f1 := fun a ha => o1 a (fun q => ha (by rw [q]; decide)) (fun q => ha (by rw [q]; decide))
  refine ⟨Kd5, K36, SpI.mono (sp_Motion_determinant (h := sil h f1 l) (x := 36) (a := 37) rfl rfl rfl rfl m1) ?_⟩
  rintro r g ⟨e0, rfl⟩
  subst g
  have ab := det9_ab (eM_small (13824 * m + s))
  have a1 := ab.lo
  have a2 := ab.hi
  have tz : (zI (det9 (eM (13824 * m + s)))).toInt = det9 (eM (13824 * m + s)) := zI_toI (by omega) (by omega)
  refine SpI.mono (sp_absI _ (by omega)) ?_
  rintro r g ⟨e0, hr⟩
  subst g
  rw [tz] at hr
  have hr1 : r = 1 ↔ (det9 (eM (13824 * m + s)) = 1 ∨ det9 (eM (13824 * m + s)) = -1) := by
    have one : (1 : Int32).toInt = 1 := rfl
    constructor
    · intro e; rw [e, one] at hr; omega
    · intro e; exact hb_eq (by rw [one]; omega)
  refine ⟨fun c => ⟨Kd5, SpI.mono (sp_Ho_keepOperation (c := 13824 * m + s) (by rw [fr 5 (by decide)]; exact hT) (by omega)) ?_⟩, fun c => ⟨_, rfl, Or.inr ⟨fun q => c (hr1.mpr ((eo _ rfl).mp q)), rfl, f1, fr, rfl⟩⟩⟩
  rintro r g ⟨e1, e2⟩
  exact ⟨_, rfl, Or.inl ⟨(eo _ rfl).mpr (hr1.mp c), e1, f1, fr, e2⟩⟩
theorem sp_Ref_operation {h : MH} {f : (Nat → Nat → Int32)} {l : (Nat → Nat → Int64)} {T : Nat} (hT : f 54 1 = nI T) (hb : T ≤ 40) (x y : Int32) : SpI k_Ref_operation [.ref 54, .int x, .int y] (sil h f l) (fun r g =>
    (opOk T x y ∧ r = nI T ∧ ∃ f1, Fr [57, 58] f f1 ∧ g = sil h (tellF f1 T (13824 * ix x + ix y)) l) ∨ (¬ opOk T x y ∧ r = -1 ∧ ∃ f1, Fr [57, 58] f f1 ∧ g = sil h f1 l)) := by
  have t1 : (19683 : Int32).toInt = 19683 := rfl
  have t2 : (13824 : Int32).toInt = 13824 := rfl
  have no : ¬ opOk T x y → ∃ v, Value.int (-1) = .int v ∧ ((opOk T x y ∧ v = nI T ∧ ∃ f1, Fr [57, 58] f f1 ∧ sil h f l = sil h (tellF f1 T (13824 * ix x + ix y)) l) ∨ (¬ opOk T x y ∧ v = -1 ∧ ∃ f1, Fr [57, 58] f f1 ∧ sil h f l = sil h f1 l)) := fun q => ⟨_, rfl, Or.inr ⟨q, rfl, f, Fr.refl, rfl⟩⟩
  have e40 : (nI T = (40 : Int32)) = (T = 40) := nI_inj (y := 40) (by omega) (by decide)
  refine v_Ref_operation _ _ _ _ _ ⟨K54, ?_⟩
  rw [t1, t2, show mi (sil h f l) 54 1 = nI T from hT, e40, R54_3, R54_4]
  refine ⟨fun c => no (fun q => by have := q.2.2.2.2.1; omega), fun c5 => ⟨fun c => no (fun q => by have := q.1; omega), fun c1 => ⟨fun c2 => ⟨fun c => no (fun q => by have := q.2.2.1; omega), fun c3 => ⟨fun c4 => ?_, fun c => no (fun q => by have := q.2.2.2.1; omega)⟩⟩, fun c => no (fun q => by have := q.2.1; omega)⟩⟩⟩
  obtain ⟨m, rfl, hm⟩ := op_x (n := 19683) c1 c2 (by decide)
  obtain ⟨s, rfl, hs⟩ := op_x (n := 13824) c3 c4 (by decide)
  have ec : (13824 : Int32) * nI m + nI s = nI (13824 * m + s) := by
    rw [show (13824 : Int32) = nI 13824 from rfl, nI_mul, nI_add]
  rw [ec]
  have eo : ∀ d : Int, det9 (eM (13824 * m + s)) = d → (opOk T (nI m) (nI s) ↔ (d = 1 ∨ d = -1)) := fun d hd => by
    unfold opOk
    rw [ix_nI (by omega), ix_nI (by omega), hd]
    exact ⟨fun q => q.2.2.2.2.2, fun q => ⟨by omega, c2, by omega, c4, by omega, q⟩⟩
  rw [ix_nI (by omega), ix_nI (by omega)]
  refine SpV.mono (sp_Ref_open (h := sil h f l) (a := 57) (b := 58) (c := 13824 * m + s) rfl rfl rfl rfl (by decide) (by unfold cOK; omega)) ?_
  rintro _ ⟨f1, rfl, o1, m1, s1⟩
  rw [si_sil, R54_3]
  have fr : Fr [57, 58] f f1 := fun a ha => o1 a (fun q => ha (by rw [q]; decide)) (fun q => ha (by rw [q]; decide))
  refine ⟨K54, SpI.mono (sp_Ref_determinant (h := sil h f1 l) (a := 57) rfl rfl m1) ?_⟩
  rintro r g ⟨e0, rfl⟩
  subst g
  have ab := det9_ab (eM_small (13824 * m + s))
  have a1 := ab.lo
  have a2 := ab.hi
  have d1 : (zI (det9 (eM (13824 * m + s))) = (1 : Int32)) = (det9 (eM (13824 * m + s)) = 1) := zI_inj (y := 1) (by omega) (by omega) (by decide) (by decide)
  have d2 : (zI (det9 (eM (13824 * m + s))) = (-1 : Int32)) = (det9 (eM (13824 * m + s)) = -1) := zI_inj (y := -1) (by omega) (by omega) (by decide) (by decide)
  rw [d1, d2]
  have go : opOk T (nI m) (nI s) → SpI k_Ref_told0 [.ref 54, .int (nI (13824 * m + s))] (sil h f1 l) (fun r g => ∃ v, Value.int r = .int v ∧ ((opOk T (nI m) (nI s) ∧ v = nI T ∧ ∃ f1, Fr [57, 58] f f1 ∧ g = sil h (tellF f1 T (13824 * m + s)) l) ∨ (¬ opOk T (nI m) (nI s) ∧ v = -1 ∧ ∃ f1, Fr [57, 58] f f1 ∧ g = sil h f1 l))) := fun q => by
    refine SpI.mono (sp_Ref_told0 (T := T) (by rw [fr 54 (by decide)]; exact hT) (by omega)) ?_
    rintro r g ⟨e1, e2⟩
    exact ⟨_, rfl, Or.inl ⟨q, e1, f1, fr, e2⟩⟩
  exact ⟨fun c => ⟨K54, go ((eo _ rfl).mpr (Or.inl c))⟩, fun n1 => ⟨fun c => ⟨K54, go ((eo _ rfl).mpr (Or.inr c))⟩, fun n2 => ⟨_, rfl, Or.inr ⟨fun q => by have := (eo _ rfl).mp q; omega, rfl, f1, fr, rfl⟩⟩⟩⟩
