/-! distance, near in the class -/
theorem i2l_zI {v : Int} (h1 : -2147483648 ≤ v) (h2 : v < 2147483648) : (zI v).toInt64 = zL v := i2l_m (zI_toI h1 h2)
theorem ap_co {A B z : Nat} {u : Nat} (ha : A < 24) (hb : B < 24) : ((nI A - nI B) + (24 : Int32) * zI (((z / u % 3 : Nat) : Int) - 1)).toInt64 = zL ((A : Int) - B + 24 * (((z / u % 3 : Nat) : Int) - 1)) := by
  rw [show (24 : Int32) = zI 24 from rfl, nI_zI, nI_zI, zI_sub, zI_mul, zI_add]
  exact i2l_zI (by omega) (by omega)
theorem sp_Model_squareBetween {k : MH} {x a b t i j z : Nat} {P : List Pl} {s : S6} (mk : MdK k x a b) (ma : MdA k x t P) (ok : okP t P) (kb : kd k b = 3) (ft : FoAt (ml k) b (db s)) (hi : i < P.length) (hj : j < P.length) (hz : z < 27) :
    SpL k_Model_squareBetween [.ref x, .int (nI i), .int (nI j), .int (nI z)] k (fun r g => g = k ∧ r = zL (apV s (P.getD i zp).1 (P.getD j zp).1 z)) := by
  obtain ⟨p1, p2, p3, _, _⟩ := ma.2.2.1 i hi
  obtain ⟨q1, q2, q3, _, _⟩ := ma.2.2.1 j hj
  have hl := ok.1
  have hp := (ok.2.1 _ (pD_mem hi)).1
  have hq := (ok.2.1 _ (pD_mem hj)).1
  have t3 : (3 : Int32) = nI 3 := rfl
  have t2 : (2 : Int32) = nI 2 := rfl
  have m3 : ∀ n : Nat, (3 : Int32) * nI n = nI (3 * n) := fun n => nI_mul 3 n
  have m32 : ∀ n : Nat, nI (3 * n) + (2 : Int32) = nI (3 * n + 2) := fun n => nI_add _ 2
  have e2 : mr k x 2 = x + 1 := mk.1.2.2.2.1
  have e1 : mr k x 1 = b := mk.1.2.2.1
  have lk : ln k (x + 1) = 900 := mk.2.1.2
  refine v_Model_squareBetween _ _ _ _ _ _ ⟨mk.1.1, ?_⟩
  rw [e2, e1, m3, m3, lk, ix_nI (by omega), ix_nI (by omega), p1, q1]
  refine ⟨mk.2.1.1, InB_nI (by omega) (by omega), InB_nI (by omega) (by omega), SpI.mono (sp_part (u := 9) hz (Or.inl rfl)) ?_⟩
  rintro _ g ⟨rfl, rfl⟩
  rw [e2, nI_1, nI_1, lk, ix_nI (by omega), ix_nI (by omega), p2, q2]
  refine ⟨mk.1.1, mk.2.1.1, InB_nI (by omega) (by omega), InB_nI (by omega) (by omega), SpI.mono (sp_part (u := 3) hz (Or.inr (Or.inl rfl))) ?_⟩
  rintro _ g ⟨rfl, rfl⟩
  rw [e2, m32, m32, lk, ix_nI (by omega), ix_nI (by omega), p3, q3]
  refine ⟨mk.1.1, mk.2.1.1, InB_nI (by omega) (by omega), InB_nI (by omega) (by omega), SpI.mono (sp_part (u := 1) hz (Or.inr (Or.inr rfl))) ?_⟩
  rintro _ g ⟨rfl, rfl⟩
  rw [ap_co (by omega) (by omega), ap_co (by omega) (by omega), ap_co (by omega) (by omega), Nat.div_one]
  refine ⟨kb, SpL.mono (fo_square kb ft _ _ _) ?_⟩
  rintro _ g ⟨rfl, rfl⟩
  exact ⟨_, rfl, rfl, rfl⟩
theorem sp_isSelf {k : MH} {x i j z : Nat} (hi : i < 1000) (hj : j < 1000) (hz : z < 27) : SpI k_Model_isSelf [.ref x, .int (nI i), .int (nI j), .int (nI z)] k (fun r g => g = k ∧ ((dsk i j z ∧ r = 1) ∨ (¬ dsk i j z ∧ r = 0))) := by
  have t : (13 : Int32) = nI 13 := rfl
  refine v_Model_isSelf _ _ _ _ _ _ ?_
  rw [t]
  refine ⟨fun c => ⟨fun c' => ⟨_, rfl, rfl, Or.inl ⟨⟨(nI_inj (by omega) (by omega)).mp c, (nI_inj (by omega) (by omega)).mp c'⟩, rfl⟩⟩, fun c' => ⟨_, rfl, rfl, Or.inr ⟨fun q => c' (by rw [q.2]), rfl⟩⟩⟩, fun c => ⟨_, rfl, rfl, Or.inr ⟨fun q => c (by rw [q.1]), rfl⟩⟩⟩
theorem LsV.rng {F : Nat → Int} {sk : Nat → Prop} {n : Nat} {v : Int} (h : LsV F sk n v) {B : Nat} (hF : ∀ z, Ab (F z) B) : Ab v B := by
  obtain ⟨⟨z, _, _, e⟩, _⟩ := h
  rw [e]; exact hF z
theorem sp_leastBetween {k : MH} {x a b t i j : Nat} {P : List Pl} {s : S6} (mk : MdK k x a b) (ma : MdA k x t P) (ok : okP t P) (oks : okC s) (kb : kd k b = 3) (ft : FoAt (ml k) b (db s)) (hi : i < P.length) (hj : j < P.length) :
    SpL k_Model_leastBetween [.ref x, .int (nI i), .int (nI j)] k (fun r g => g = k ∧ ∃ v, r = zL v ∧ LsV (apV s (P.getD i zp).1 (P.getD j zp).1) (dsk i j) 27 v) := by
  have hl := ok.1
  have hp := (ok.2.1 _ (pD_mem hi)).1
  have hq := (ok.2.1 _ (pD_mem hj)).1
  have ab : ∀ z, Ab (apV s (P.getD i zp).1 (P.getD j zp).1 z) 198810000 := fun z => ap_ab oks hp hq z
  have sqb : ∀ z, z < 27 → SpL k_Model_squareBetween [.ref x, .int (nI i), .int (nI j), .int (nI z)] k (fun r g => g = k ∧ r = zL (apV s (P.getD i zp).1 (P.getD j zp).1 z)) := fun z hz => sp_Model_squareBetween mk ma ok kb ft hi hj hz
  generalize apV s (P.getD i zp).1 (P.getD j zp).1 = F at *
  have t27 : (27 : Int32).toInt = 27 := rfl
  have go : ∀ d z v, 27 - z = d → z ≤ 27 → LsV F (dsk i j) z v → WM k_Model_leastBetween p_Model_leastBetween_1 [.ref x, .int (nI i), .int (nI j), .long (zL v), Jv, .int (nI z)] [] k 0 0 (fun w g => ∃ r, w = .long r ∧ g = k ∧ ∃ v, r = zL v ∧ LsV F (dsk i j) 27 v) := by
    intro d
    induction d with
    | zero =>
      intro z v hd hz lv
      have : z = 27 := by omega
      subst this
      exact v_Model_leastBetween_1 _ _ _ _ _ _ _ ⟨fun q => absurd q (by decide), fun _ => ⟨_, rfl, rfl, v, rfl, lv⟩⟩
    | succ d ih =>
      intro z v hd hz lv
      refine v_Model_leastBetween_1 _ _ _ _ _ _ _ ⟨fun _ => ⟨mk.1.1, SpI.mono (sp_isSelf (by omega) (by omega) (show z < 27 by omega)) ?_⟩, fun q => absurd (by rw [nI_toI (by omega), t27]; omega) q⟩
      rintro r _ ⟨rfl, ⟨sk, rfl⟩ | ⟨sk, rfl⟩⟩
      · refine ⟨fun q => absurd q (by decide), fun _ => ?_⟩
        rw [nI_1]
        exact ih (z + 1) v (by omega) (by omega) (lv.skip sk)
      · refine ⟨fun _ => ⟨mk.1.1, SpL.mono (sqb z (by omega)) ?_⟩, fun q => absurd rfl q⟩
        rintro _ g ⟨rfl, rfl⟩
        refine SpL.mono (sp_minL _ _) ?_
        rintro _ g ⟨rfl, rfl⟩
        have b1 := lv.rng ab
        have b1l := b1.lo; have b1h := b1.hi
        have b2l := (ab z).lo; have b2h := (ab z).hi
        rw [zL_toI (by omega) (by omega), zL_toI (by omega) (by omega), nI_1]
        by_cases c : F z < v
        · rw [if_pos c]
          exact ih (z + 1) _ (by omega) (by omega) (lv.less sk c)
        · rw [if_neg c]
          exact ih (z + 1) _ (by omega) (by omega) (lv.keep (by omega))
  have s0 : ¬ dsk i j 0 := fun q => absurd q.2 (by decide)
  refine v_Model_leastBetween _ _ _ _ _ (v_Model_leastBetween_1 _ _ _ _ _ _ _ ⟨fun _ => ⟨mk.1.1, SpI.mono (sp_isSelf (z := 0) (by omega) (by omega) (by decide)) ?_⟩, fun q => absurd (by decide) q⟩)
  rintro r _ ⟨rfl, ⟨sk, rfl⟩ | ⟨sk, rfl⟩⟩
  · exact absurd sk s0
  refine ⟨fun _ => ⟨mk.1.1, SpL.mono (sqb 0 (by decide)) ?_⟩, fun q => absurd rfl q⟩
  rintro _ g ⟨rfl, rfl⟩
  refine SpL.mono (sp_minL _ _) ?_
  rintro _ g ⟨rfl, rfl⟩
  have b2l := (ab 0).lo; have b2h := (ab 0).hi
  have tM : (9223372036854775807 : Int64).toInt = 9223372036854775807 := rfl
  rw [zL_toI (by omega) (by omega), tM, if_pos (by omega)]
  exact go _ 1 _ rfl (by decide) (LsV.one s0)
theorem sp_countAround {k : MH} {x a b t i : Nat} {P : List Pl} {s : S6} (mk : MdK k x a b) (ma : MdA k x t P) (ok : okP t P) (oks : okC s) (kb : kd k b = 3) (ft : FoAt (ml k) b (db s)) (hi : i < P.length) (w : Int64) :
    SpI k_Model_countAround [.ref x, .int (nI i), .long w] k (fun r g => g = k ∧ r = nI (cnP (nrC s P i w.toInt) (27 * P.length))) := by
  have hl := ok.1
  have t27 : (27 : Int32).toInt = 27 := rfl
  have hp := (ok.2.1 _ (pD_mem hi)).1
  -- the walk over c = 27 j + z
  have go : ∀ d c j z, 27 * P.length - c = d → c = 27 * j + z → j < P.length → z ≤ 27 →
      WM k_Model_countAround p_Model_countAround_2 [.ref x, .int (nI i), .long w, Jv, .int (nI (cnP (nrC s P i w.toInt) c)), .int (nI j), .int (nI z)] [] k 0 0 (fun v g => ∃ r, v = .int r ∧ g = k ∧ r = nI (cnP (nrC s P i w.toInt) (27 * P.length))) := by
    intro d
    induction d with
    | zero =>
      intro c j z hd ec hj hz
      have ez : z = 27 := by omega
      subst ez
      have ej : j + 1 = P.length := by omega
      refine v_Model_countAround_2 _ _ _ _ _ _ _ _ ⟨fun q => absurd q (by decide), fun _ => ?_⟩
      rw [nI_1, ej]
      refine v_Model_countAround_1 _ _ _ _ _ _ _ ⟨mk.1.1, ?_⟩
      rw [ma.1]
      refine ⟨fun q => absurd q (by omega), fun _ => ⟨_, rfl, rfl, ?_⟩⟩
      rw [show c = 27 * P.length by omega]
    | succ d ih =>
      have step : ∀ c j z, 27 * P.length - c = d + 1 → c = 27 * j + z → j < P.length → z < 27 → WM k_Model_countAround p_Model_countAround_2 [.ref x, .int (nI i), .long w, Jv, .int (nI (cnP (nrC s P i w.toInt) c)), .int (nI j), .int (nI z)] [] k 0 0 (fun v g => ∃ r, v = .int r ∧ g = k ∧ r = nI (cnP (nrC s P i w.toInt) (27 * P.length))) := by
        intro c j z hd ec hj hz
        have hq := (ok.2.1 _ (pD_mem hj)).1
        have ab := ap_ab oks hp hq z
        have abl := ab.lo; have abh := ab.hi
        have cd : c / 27 = j := by omega
        have cm : c % 27 = z := by omega
        have cl := cnP_le (nrC s P i w.toInt) c
        have fin : ∀ n, n = cnP (nrC s P i w.toInt) (c + 1) → WM k_Model_countAround p_Model_countAround_2 [.ref x, .int (nI i), .long w, Jv, .int (nI n), .int (nI j), .int (nI (z + 1))] [] k 0 0 (fun v g => ∃ r, v = .int r ∧ g = k ∧ r = nI (cnP (nrC s P i w.toInt) (27 * P.length))) := fun n e => by
          rw [e]; exact ih (c + 1) j (z + 1) (by omega) (by omega) hj (by omega)
        refine v_Model_countAround_2 _ _ _ _ _ _ _ _ ⟨fun _ => ⟨mk.1.1, SpI.mono (sp_isSelf (by omega) (by omega) hz) ?_⟩, fun q => absurd (by rw [nI_toI (by omega), t27]; omega) q⟩
        rintro r _ ⟨rfl, ⟨sk, rfl⟩ | ⟨sk, rfl⟩⟩
        · refine ⟨fun q => absurd q (by decide), fun _ => ?_⟩
          rw [nI_1]
          exact fin _ (cnP_n (fun q => q.1 (by rw [cd, cm]; exact sk))).symm
        · refine ⟨fun _ => ⟨mk.1.1, SpL.mono (sp_Model_squareBetween mk ma ok kb ft hi hj hz) ?_⟩, fun q => absurd rfl q⟩
          rintro _ g ⟨rfl, rfl⟩
          rw [lc_gt, zL_toI (by omega) (by omega)]
          refine ⟨fun q => ?_, fun q => ?_⟩
          · rw [nI_1]
            refine fin _ (cnP_n (fun e => ?_)).symm
            have := e.2
            rw [cd, cm] at this
            omega
          · rw [nI_1, nI_1]
            refine fin _ (cnP_y ⟨by rw [cd, cm]; exact sk, ?_⟩).symm
            rw [cd, cm]
            omega
      intro c j z hd ec hj hz
      by_cases z27 : z = 27
      · subst z27
        have hj' : j + 1 < P.length := by omega
        refine v_Model_countAround_2 _ _ _ _ _ _ _ _ ⟨fun q => absurd q (by decide), fun _ => ?_⟩
        rw [nI_1]
        refine v_Model_countAround_1 _ _ _ _ _ _ _ ⟨mk.1.1, ?_⟩
        rw [ma.1, nI_toI (by omega), nI_toI (by omega)]
        exact ⟨fun _ => step c (j + 1) 0 hd (by omega) hj' (by decide), fun q => absurd (by omega) q⟩
      · exact step c j z hd ec hj (by omega)
  refine v_Model_countAround _ _ _ _ _ (v_Model_countAround_1 _ _ _ _ _ _ _ ⟨mk.1.1, ?_⟩)
  have t0 : (0 : Int32).toInt = 0 := rfl
  rw [ma.1, nI_toI (by omega), t0]
  exact ⟨fun _ => go _ 0 0 0 rfl rfl (by omega) (by decide), fun q => absurd (by omega) q⟩
theorem HCel.form {h : MH} {O : Nat → Nat} {CS : List S6} {j : Nat} (hc : HCel h O CS) (hj : j < CS.length) : kd h (mr h 43 j + 1) = 3 ∧ FoAt (ml h) (mr h 43 j + 1) (db (CS.getD j z6)) ∧ okC (CS.getD j z6) := by
  obtain ⟨a, b, _⟩ := hc.2.2 j hj
  exact ⟨b.2.2.1.1, b.2.2.2.1, a⟩
theorem sp_Ho_distance {h : MH} {O : Nat → Nat} {ng : Nat} {CS : List S6} {MS : List Mdl} (H : SS h) (hc : HCel h O CS) (hm : HMdl h O ng CS MS) (x y w : Int32) : SpL k_Ho_distance [.ref 5, .int x, .int y, .int w] h (fun r g => g = h ∧ DstA MS CS x y w r) := by
  have hl := hm.1
  refine v_Ho_distance _ _ _ _ _ _ ⟨H.k5, SpR.mono (sp_Ho_modelAt H hm x) ?_⟩
  rintro r1 k ⟨rfl, g1⟩
  rcases g1 with ⟨m, hi, rfl, rfl, r0⟩ | ⟨no, rfl⟩
  rotate_left
  · exact ⟨fun _ => ⟨_, rfl, rfl, Or.inr ⟨fun ⟨m, i, j, q, _⟩ => pl_no1 hl no ⟨m, i, q⟩, rfl⟩⟩, fun q => absurd rfl q⟩
  obtain ⟨om, ⟨⟨b1, b2, b3⟩, mk, ma, mc⟩⟩ := hm.2.2 m hi
  refine ⟨fun q => absurd q r0, fun _ => ⟨mk.1.1, SpI.mono (sp_Model_holds mk ma.1 om.2.2.2.1 y) ?_⟩⟩
  rintro r g ⟨rfl, ⟨i, hi', rfl, rfl⟩ | ⟨no, rfl⟩⟩
  rotate_left
  · exact ⟨fun _ => ⟨_, rfl, rfl, Or.inr ⟨fun ⟨m, i, j, q, _⟩ => pl_no2 hl hm.ok hi no ⟨m, i, q⟩, rfl⟩⟩, fun q => absurd rfl q⟩
  refine ⟨fun q => absurd q (by decide), fun _ => ⟨mk.1.1, SpI.mono (sp_Model_holds mk ma.1 om.2.2.2.1 w) ?_⟩⟩
  rintro r k ⟨rfl, ⟨j, hj', rfl, rfl⟩ | ⟨no, rfl⟩⟩
  rotate_left
  · exact ⟨fun _ => ⟨_, rfl, rfl, Or.inr ⟨fun ⟨m, i, j, _, q⟩ => pl_no2 hl hm.ok hi no ⟨m, j, q⟩, rfl⟩⟩, fun q => absurd rfl q⟩
  obtain ⟨kb, ft, oks⟩ := hc.form om.2.1
  refine ⟨fun q => absurd q (by decide), fun _ => ⟨mk.1.1, SpL.mono (sp_leastBetween mk ma om.2.2.2 oks kb ft hi' hj') ?_⟩⟩
  rintro r _ ⟨rfl, v, rfl, lv⟩
  exact ⟨_, rfl, rfl, Or.inl ⟨m, i, j, ⟨hi, hi', rfl, rfl⟩, ⟨hi, hj', rfl, rfl⟩, v, rfl, lv⟩⟩
theorem sp_Ho_near {h : MH} {O : Nat → Nat} {ng : Nat} {CS : List S6} {MS : List Mdl} (H : SS h) (hc : HCel h O CS) (hm : HMdl h O ng CS MS) (x y : Int32) (w : Int64) : SpI k_Ho_near [.ref 5, .int x, .int y, .long w] h (fun r g => g = h ∧ NrA MS CS x y w r) := by
  have hl := hm.1
  refine v_Ho_near _ _ _ _ _ _ ⟨H.k5, SpR.mono (sp_Ho_modelAt H hm x) ?_⟩
  rintro r1 k ⟨rfl, g1⟩
  rcases g1 with ⟨m, hi, rfl, rfl, r0⟩ | ⟨no, rfl⟩
  rotate_left
  · exact ⟨fun _ => ⟨_, rfl, rfl, Or.inr ⟨pl_no1 hl no, rfl⟩⟩, fun q => absurd rfl q⟩
  obtain ⟨om, ⟨⟨b1, b2, b3⟩, mk, ma, mc⟩⟩ := hm.2.2 m hi
  refine ⟨fun q => absurd q r0, fun _ => ⟨mk.1.1, SpI.mono (sp_Model_holds mk ma.1 om.2.2.2.1 y) ?_⟩⟩
  rintro r k ⟨rfl, ⟨i, hi', rfl, rfl⟩ | ⟨no, rfl⟩⟩
  rotate_left
  · exact ⟨fun _ => ⟨_, rfl, rfl, Or.inr ⟨pl_no2 hl hm.ok hi no, rfl⟩⟩, fun q => absurd rfl q⟩
  obtain ⟨kb, ft, oks⟩ := hc.form om.2.1
  refine ⟨fun q => absurd q (by decide), fun _ => ⟨mk.1.1, SpI.mono (sp_countAround mk ma om.2.2.2 oks kb ft hi' w) ?_⟩⟩
  rintro r _ ⟨rfl, rfl⟩
  exact ⟨_, rfl, rfl, Or.inl ⟨m, i, ⟨hi, hi', rfl, rfl⟩, rfl⟩⟩
