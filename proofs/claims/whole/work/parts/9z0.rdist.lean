/-! distance, near in the reference -/
theorem ap_co2 {A B C : Nat} (ha : A < 24) (hb : B < 24) (hc : C < 3) : ((nI A - nI B) + (24 : Int32) * (nI C - (1 : Int32))).toInt64 = zL ((A : Int) - B + 24 * ((C : Int) - 1)) := by
  rw [show (24 : Int32) = zI 24 from rfl, show (1 : Int32) = zI 1 from rfl, nI_zI, nI_zI, nI_zI, zI_sub, zI_sub, zI_mul, zI_add]
  exact i2l_zI (by omega) (by omega)
theorem sp_Ref_apart {h : MH} {f : (Nat → Nat → Int32)} {l : (Nat → Nat → Int64)} {ng m i j z : Nat} {CS : List S6} {MS : List Mdl} (hm : RMdl f MS) (hc : RCel f l CS) (ok : okMS ng CS.length MS) (hi : m < MS.length) (h1 : i < (MS.getD m zM).2.2.2.length) (h2 : j < (MS.getD m zM).2.2.2.length) (hz : z < 27) :
    SpL k_Ref_apart [.ref 54, .int (nI m), .int (nI i), .int (nI j), .int (nI z)] (sil h f l) (fun r g => g = sil h f l ∧ r = zL (apV (CS.getD (MS.getD m zM).2.1 z6) ((MS.getD m zM).2.2.2.getD i zp).1 ((MS.getD m zM).2.2.2.getD j zp).1 z)) := by
  have hl := hm.1
  have pL := ok.len hi
  obtain ⟨o1, o2, o3, o4⟩ := ok m hi
  obtain ⟨m1, m2, m3⟩ := hm.2.2.2 m hi
  have hp := (o4.2.1 _ (pD_mem h1)).1
  have hq := (o4.2.1 _ (pD_mem h2)).1
  have e1 := (m3 i h1).1
  have e2 := (m3 j h2).1
  have cl := hc.1
  have t24 : (24 : Int32) = nI 24 := rfl
  have a3 : ∀ q : Nat, ((300 : Int32) * nI m) + nI q = nI (300 * m + q) := fun q => by rw [show (300 : Int32) = nI 300 from rfl, nI_mul, nI_add]
  have d5 : ∀ q : Nat, q < 13824 → nI q / (576 : Int32) = nI (q / 576) := fun q hq => div_nI (d := 576) (by omega) (by decide) (by decide)
  have d2 : ∀ q : Nat, q < 13824 → irm (nI q / (24 : Int32)) (24 : Int32) = nI (q / 24 % 24) := fun q hq => by
    rw [show (24 : Int32) = nI 24 from rfl, div_nI (d := 24) (by omega) (by decide) (by decide), irm_nI (by omega) (by decide) (by decide)]
  have d1 : ∀ q : Nat, q < 13824 → irm (nI q) (24 : Int32) = nI (q % 24) := fun q hq => irm_nI (d := 24) (by omega) (by decide) (by decide)
  have z9 : nI z / (9 : Int32) = nI (z / 9) := div_nI (d := 9) (by omega) (by decide) (by decide)
  have z3 : irm (nI z / (3 : Int32)) (3 : Int32) = nI (z / 3 % 3) := by
    rw [show (3 : Int32) = nI 3 from rfl, div_nI (d := 3) (by omega) (by decide) (by decide), irm_nI (by omega) (by decide) (by decide)]
  have z1 : irm (nI z) (3 : Int32) = nI (z % 3) := irm_nI (d := 3) (by omega) (by decide) (by decide)
  refine v_Ref_apart _ _ _ _ _ _ _ ⟨K54, ?_⟩
  rw [R54_42, mi_sil, a3, a3, ix_nI (by omega), ix_nI (by omega), e1, e2, d5 _ hp, d5 _ hq, d2 _ hp, d2 _ hq, d1 _ hp, d1 _ hq, z9, z3, z1, ap_co2 (by omega) (by omega) (by omega), ap_co2 (by omega) (by omega) (by omega), ap_co2 (by omega) (by omega) (by omega)]
  refine ⟨K85, by rw [L85]; exact InB_nI (by omega) (by omega), by rw [L85]; exact InB_nI (by omega) (by omega), v_Ref_apart_1 _ _ _ _ _ _ _ ⟨K54, ?_⟩⟩
  rw [R54_39, R54_29, mi_sil, ix_nI (by omega), m2, show (6 : Int32) = nI 6 from rfl, nI_mul]
  refine ⟨K82, by rw [L82]; exact InB_nI (by omega) (by omega), SpL.mono (ref_dot (s := CS.getD (MS.getD m zM).2.1 z6) K76 L76 (by omega) (hc.2.2 _ o2).1 _ _ _ _ _ _) ?_⟩
  rintro _ _ ⟨rfl, rfl⟩
  refine ⟨_, rfl, rfl, ?_⟩
  unfold apV apX apY apZ
  rw [show z / 9 % 3 = z / 9 by omega]
theorem sp_Ref_distance {h : MH} {f : (Nat → Nat → Int32)} {l : (Nat → Nat → Int64)} {ng : Nat} {CS : List S6} {MS : List Mdl} (hm : RMdl f MS) (hc : RCel f l CS) (okc : ∀ j, j < CS.length → okC (CS.getD j z6)) (ok : okMS ng CS.length MS) (x y w : Int32) :
    SpL k_Ref_distance [.ref 54, .int x, .int y, .int w] (sil h f l) (fun r g => g = sil h f l ∧ DstA MS CS x y w r) := by
  have hl := hm.1
  refine v_Ref_distance _ _ _ _ _ _ ⟨K54, SpI.mono (sp_Ref_isPlaced hm ok x y) ?_⟩
  rintro r1 _ ⟨rfl, ⟨m, i, G1, rfl⟩ | ⟨no, rfl⟩⟩
  rotate_left
  · exact ⟨fun _ => ⟨_, rfl, rfl, Or.inr ⟨fun ⟨m, i, j, q, _⟩ => no ⟨m, i, q⟩, rfl⟩⟩, fun q => absurd rfl q⟩
  refine ⟨fun q => absurd q (by decide), fun _ => ⟨K54, SpI.mono (sp_Ref_isPlaced hm ok x w) ?_⟩⟩
  rintro r1 _ ⟨rfl, ⟨m', j, G2, rfl⟩ | ⟨no, rfl⟩⟩
  rotate_left
  · exact ⟨fun _ => ⟨_, rfl, rfl, Or.inr ⟨fun ⟨m, i, j, _, q⟩ => no ⟨m, j, q⟩, rfl⟩⟩, fun q => absurd rfl q⟩
  obtain ⟨hi, h1, rfl, rfl⟩ := id G1
  obtain ⟨hi', h2, em, rfl⟩ := id G2
  have em' : m = m' := (nI_inj (by omega) (by omega)).mp em
  subst em'
  refine ⟨fun q => absurd q (by decide), fun _ => ?_⟩
  have pL := ok.len hi
  obtain ⟨o1, o2, o3, o4⟩ := ok m hi
  have oks := okc _ o2
  have hp := (o4.2.1 _ (pD_mem h1)).1
  have hq := (o4.2.1 _ (pD_mem h2)).1
  have ab : ∀ z, Ab (apV (CS.getD (MS.getD m zM).2.1 z6) ((MS.getD m zM).2.2.2.getD i zp).1 ((MS.getD m zM).2.2.2.getD j zp).1 z) 198810000 := fun z => ap_ab oks hp hq z
  have pos : ∀ z, 0 ≤ apV (CS.getD (MS.getD m zM).2.1 z6) ((MS.getD m zM).2.2.2.getD i zp).1 ((MS.getD m zM).2.2.2.getD j zp).1 z := fun z => dot_pos oks _ _ _
  have apt : ∀ z, z < 27 → SpL k_Ref_apart [.ref 54, .int (nI m), .int (nI i), .int (nI j), .int (nI z)] (sil h f l) (fun r g => g = sil h f l ∧ r = zL (apV (CS.getD (MS.getD m zM).2.1 z6) ((MS.getD m zM).2.2.2.getD i zp).1 ((MS.getD m zM).2.2.2.getD j zp).1 z)) := fun z hz => sp_Ref_apart hm hc ok hi h1 h2 hz
  have wrap : ∀ v, LsV (apV (CS.getD (MS.getD m zM).2.1 z6) ((MS.getD m zM).2.2.2.getD i zp).1 ((MS.getD m zM).2.2.2.getD j zp).1) (dsk i j) 27 v → DstA MS CS (nI m) (nI i) (nI j) (zL v) := fun v lv => Or.inl ⟨m, i, j, G1, G2, v, rfl, lv⟩
  generalize apV (CS.getD (MS.getD m zM).2.1 z6) ((MS.getD m zM).2.2.2.getD i zp).1 ((MS.getD m zM).2.2.2.getD j zp).1 = F at *
  generalize DstA MS CS (nI m) (nI i) (nI j) = D at *
  have t27 : (27 : Int32).toInt = 27 := rfl
  have t13 : (13 : Int32) = nI 13 := rfl
  have two : ∀ z v, z < 27 → LsV F (dsk i j) z v → ¬ dsk i j z → (∀ v', LsV F (dsk i j) (z + 1) v' → WM k_Ref_distance p_Ref_distance_1 [.ref 54, .int (nI m), .int (nI i), .int (nI j), .long (zL v'), Jv, .int (nI (z + 1)), Jv, Jv] [] (sil h f l) 0 0 (fun w g => ∃ r, w = .long r ∧ g = sil h f l ∧ D r)) → WM k_Ref_distance p_Ref_distance_2 [.ref 54, .int (nI m), .int (nI i), .int (nI j), .long (zL v), Jv, .int (nI z), Jv, Jv] [] (sil h f l) 0 0 (fun w g => ∃ r, w = .long r ∧ g = sil h f l ∧ D r) := by
    intro z v hz lv sk nx
    refine v_Ref_distance_2 _ _ _ _ _ _ _ _ ⟨K54, SpL.mono (apt z hz) ?_⟩
    rintro _ _ ⟨rfl, rfl⟩
    have b1 := lv.rng ab
    have b1l := b1.lo; have b1h := b1.hi
    have b2l := (ab z).lo; have b2h := (ab z).hi
    have z0 : (0 : Int64).toInt = 0 := rfl
    have v0 : 0 ≤ v := by
      obtain ⟨⟨z', _, _, e⟩, _⟩ := lv
      rw [e]; exact pos z'
    rw [lc_lt, lc_lt, zL_toI (by omega) (by omega), zL_toI (by omega) (by omega), z0, nI_1]
    exact ⟨fun q => absurd q (by omega), fun _ => ⟨fun c => nx _ (lv.less sk c), fun c => nx _ (lv.keep (by omega))⟩⟩
  have go : ∀ d z v, 27 - z = d → z ≤ 27 → LsV F (dsk i j) z v → WM k_Ref_distance p_Ref_distance_1 [.ref 54, .int (nI m), .int (nI i), .int (nI j), .long (zL v), Jv, .int (nI z), Jv, Jv] [] (sil h f l) 0 0 (fun w g => ∃ r, w = .long r ∧ g = sil h f l ∧ D r) := by
    intro d
    induction d with
    | zero =>
      intro z v hd hz lv
      have : z = 27 := by omega
      subst this
      exact v_Ref_distance_1 _ _ _ _ _ _ _ _ ⟨fun q => absurd q (by decide), fun _ => ⟨_, rfl, rfl, wrap v lv⟩⟩
    | succ d ih =>
      intro z v hd hz lv
      have zl : z < 27 := by omega
      refine v_Ref_distance_1 _ _ _ _ _ _ _ _ ⟨fun _ => ?_, fun q => absurd (by rw [nI_toI (by omega), t27]; omega) q⟩
      rw [t13, nI_1]
      refine ⟨fun c1 => ⟨fun c2 => ih (z + 1) v (by omega) (by omega) (lv.skip ⟨(nI_inj (by omega) (by omega)).mp c1, (nI_inj (by omega) (by omega)).mp c2⟩), fun c2 => two z v zl lv (fun q => c2 (by rw [q.2])) (fun v' lv' => ih (z + 1) v' (by omega) (by omega) lv')⟩, fun c1 => two z v zl lv (fun q => c1 (by rw [q.1])) (fun v' lv' => ih (z + 1) v' (by omega) (by omega) lv')⟩
  have s0 : ¬ dsk i j 0 := fun q => absurd q.2 (by decide)
  have st : WM k_Ref_distance p_Ref_distance_2 [.ref 54, .int (nI m), .int (nI i), .int (nI j), .long (-1), Jv, .int 0, Jv, Jv] [] (sil h f l) 0 0 (fun w g => ∃ r, w = .long r ∧ g = sil h f l ∧ D r) := by
    refine v_Ref_distance_2 _ _ _ _ _ _ _ _ ⟨K54, SpL.mono (apt 0 (by decide)) ?_⟩
    rintro _ _ ⟨rfl, rfl⟩
    exact ⟨fun _ => go _ 1 _ rfl (by decide) (LsV.one s0), fun q => absurd (by decide) q⟩
  exact v_Ref_distance_1 _ _ _ _ _ _ _ _ ⟨fun _ => ⟨fun _ => ⟨fun q => absurd q (by decide), fun _ => st⟩, fun _ => st⟩, fun q => absurd (by decide) q⟩
theorem sp_Ref_near {h : MH} {f : (Nat → Nat → Int32)} {l : (Nat → Nat → Int64)} {ng : Nat} {CS : List S6} {MS : List Mdl} (hm : RMdl f MS) (hc : RCel f l CS) (okc : ∀ j, j < CS.length → okC (CS.getD j z6)) (ok : okMS ng CS.length MS) (x y : Int32) (w : Int64) :
    SpI k_Ref_near [.ref 54, .int x, .int y, .long w] (sil h f l) (fun r g => g = sil h f l ∧ NrA MS CS x y w r) := by
  have hl := hm.1
  refine v_Ref_near _ _ _ _ _ _ ⟨K54, SpI.mono (sp_Ref_isPlaced hm ok x y) ?_⟩
  rintro r1 _ ⟨rfl, ⟨m, i, G1, rfl⟩ | ⟨no, rfl⟩⟩
  rotate_left
  · exact ⟨fun _ => ⟨_, rfl, rfl, Or.inr ⟨no, rfl⟩⟩, fun q => absurd rfl q⟩
  obtain ⟨hi, h1, rfl, rfl⟩ := id G1
  refine ⟨fun q => absurd q (by decide), fun _ => ?_⟩
  have pL := ok.len hi
  obtain ⟨o1, o2, o3, o4⟩ := ok m hi
  have oks := okc _ o2
  have hp := (o4.2.1 _ (pD_mem h1)).1
  have t27 : (27 : Int32).toInt = 27 := rfl
  have t13 : (13 : Int32) = nI 13 := rfl
  have e84 : f 84 m = nI (MS.getD m zM).2.2.2.length := (hm.2.2.1 m (by omega)).2
  have apt : ∀ j z, j < (MS.getD m zM).2.2.2.length → z < 27 → SpL k_Ref_apart [.ref 54, .int (nI m), .int (nI i), .int (nI j), .int (nI z)] (sil h f l) (fun r g => g = sil h f l ∧ r = zL (apV (CS.getD (MS.getD m zM).2.1 z6) ((MS.getD m zM).2.2.2.getD i zp).1 ((MS.getD m zM).2.2.2.getD j zp).1 z)) := fun j z hj hz => sp_Ref_apart hm hc ok hi h1 hj hz
  have wrap : NrA MS CS (nI m) (nI i) w (nI (cnP (nrC (CS.getD (MS.getD m zM).2.1 z6) (MS.getD m zM).2.2.2 i w.toInt) (27 * (MS.getD m zM).2.2.2.length))) := Or.inl ⟨m, i, G1, rfl⟩
  have okp := o4.2.1
  generalize (MS.getD m zM).2.2.2 = P at *
  generalize CS.getD (MS.getD m zM).2.1 z6 = s at *
  generalize NrA MS CS (nI m) (nI i) w = D at *
  have go : ∀ d c j z, 27 * P.length - c = d → c = 27 * j + z → j < P.length → z ≤ 27 →
      WM k_Ref_near p_Ref_near_2 [.ref 54, .int (nI m), .int (nI i), .long w, Jv, .int (nI (cnP (nrC s P i w.toInt) c)), .int (nI j), .int (nI z)] [] (sil h f l) 0 0 (fun v g => ∃ r, v = .int r ∧ g = sil h f l ∧ D r) := by
    intro d
    induction d with
    | zero =>
      intro c j z hd ec hj hz
      have ez : z = 27 := by omega
      subst ez
      have ej : j + 1 = P.length := by omega
      refine v_Ref_near_2 _ _ _ _ _ _ _ _ _ ⟨fun q => absurd q (by decide), fun _ => ?_⟩
      rw [nI_1, ej]
      refine v_Ref_near_1 _ _ _ _ _ _ _ _ ⟨K54, ?_⟩
      rw [R54_41, mi_sil, ix_nI (by omega), e84]
      refine ⟨K84, by rw [L84]; exact InB_nI (by omega) (by omega), fun q => absurd q (by omega), fun _ => ⟨_, rfl, rfl, ?_⟩⟩
      rw [show c = 27 * P.length by omega]
      exact wrap
    | succ d ih =>
      have step : ∀ c j z, 27 * P.length - c = d + 1 → c = 27 * j + z → j < P.length → z < 27 → WM k_Ref_near p_Ref_near_2 [.ref 54, .int (nI m), .int (nI i), .long w, Jv, .int (nI (cnP (nrC s P i w.toInt) c)), .int (nI j), .int (nI z)] [] (sil h f l) 0 0 (fun v g => ∃ r, v = .int r ∧ g = sil h f l ∧ D r) := by
        intro c j z hd ec hj hz
        have hq := (okp _ (pD_mem hj)).1
        have ab := ap_ab oks hp hq z
        have abl := ab.lo; have abh := ab.hi
        have cd : c / 27 = j := by omega
        have cm : c % 27 = z := by omega
        have cl := cnP_le (nrC s P i w.toInt) c
        have fin : ∀ n, n = cnP (nrC s P i w.toInt) (c + 1) → WM k_Ref_near p_Ref_near_2 [.ref 54, .int (nI m), .int (nI i), .long w, Jv, .int (nI n), .int (nI j), .int (nI (z + 1))] [] (sil h f l) 0 0 (fun v g => ∃ r, v = .int r ∧ g = sil h f l ∧ D r) := fun n e => by
          rw [e]; exact ih (c + 1) j (z + 1) (by omega) (by omega) hj (by omega)
        have three : ¬ dsk i j z → WM k_Ref_near p_Ref_near_3 [.ref 54, .int (nI m), .int (nI i), .long w, Jv, .int (nI (cnP (nrC s P i w.toInt) c)), .int (nI j), .int (nI z)] [] (sil h f l) 0 0 (fun v g => ∃ r, v = .int r ∧ g = sil h f l ∧ D r) := fun sk => by
          refine v_Ref_near_3 _ _ _ _ _ _ _ _ _ ⟨K54, SpL.mono (apt j z hj hz) ?_⟩
          rintro _ _ ⟨rfl, rfl⟩
          rw [lc_gt, zL_toI (by omega) (by omega)]
          refine ⟨fun q => ?_, fun q => ?_⟩
          · rw [nI_1]
            refine fin _ (cnP_n (fun e => ?_)).symm
            have := e.2
            rw [cd, cm] at this
            omega
          · rw [nI_1, nI_1]
            refine fin _ (cnP_y ⟨by rw [cd, cm]; exact sk, ?_⟩).symm
            rw [cd, cm]
            omega
        refine v_Ref_near_2 _ _ _ _ _ _ _ _ _ ⟨fun _ => ?_, fun q => absurd (by rw [nI_toI (by omega), t27]; omega) q⟩
        rw [t13]
        refine ⟨fun c1 => ⟨fun c2 => ?_, fun c2 => three (fun q => c2 (by rw [q.2]))⟩, fun c1 => three (fun q => c1 (by rw [q.1]))⟩
        rw [nI_1]
        exact fin _ (cnP_n (fun q => q.1 (by rw [cd, cm]; exact ⟨(nI_inj (by omega) (by omega)).mp c1, (nI_inj (by omega) (by omega)).mp c2⟩))).symm
      intro c j z hd ec hj hz
      by_cases z27 : z = 27
      · subst z27
        have hj' : j + 1 < P.length := by omega
        refine v_Ref_near_2 _ _ _ _ _ _ _ _ _ ⟨fun q => absurd q (by decide), fun _ => ?_⟩
        rw [nI_1]
        refine v_Ref_near_1 _ _ _ _ _ _ _ _ ⟨K54, ?_⟩
        rw [R54_41, mi_sil, ix_nI (by omega), e84, nI_toI (by omega), nI_toI (by omega)]
        exact ⟨K84, by rw [L84]; exact InB_nI (by omega) (by omega), fun _ => step c (j + 1) 0 hd (by omega) hj' (by decide), fun q => absurd (by omega) q⟩
      · exact step c j z hd ec hj (by omega)
  have t0 : (0 : Int32).toInt = 0 := rfl
  refine v_Ref_near_1 _ _ _ _ _ _ _ _ ⟨K54, ?_⟩
  rw [R54_41, mi_sil, ix_nI (by omega), e84, nI_toI (by omega), t0]
  exact ⟨K84, by rw [L84]; exact InB_nI (by omega) (by omega), fun _ => go _ 0 0 0 rfl rfl (by omega) (by decide), fun q => absurd (by omega) q⟩
