/-! fits, of both; reduced of the reference -/
def FitA (GS : List (List Nat)) (CS : List S6) (x y r : Int32) : Prop := (∃ i j, i < GS.length ∧ j < CS.length ∧ x = nI i ∧ y = nI j ∧ ((r = 1 ∧ ∀ c ∈ GS.getD i [], KpM (CS.getD j z6) (eM c)) ∨ (r = 0 ∧ ¬ ∀ c ∈ GS.getD i [], KpM (CS.getD j z6) (eM c)))) ∨ ((¬ ∃ i j, i < GS.length ∧ j < CS.length ∧ x = nI i ∧ y = nI j) ∧ r = 0)
theorem FitA.fn {GS : List (List Nat)} {CS : List S6} {x y r r' : Int32} (hl : GS.length ≤ 60) (hl' : CS.length ≤ 40) (h : FitA GS CS x y r) (h' : FitA GS CS x y r') : r = r' := by
  rcases h with ⟨i, j, hi, hj, e1, e2, v⟩ | ⟨n, e⟩ <;> rcases h' with ⟨i', j', hi', hj', e1', e2', v'⟩ | ⟨n', e'⟩
  · rw [e1] at e1'
    rw [e2] at e2'
    have a : i = i' := (nI_inj (by omega) (by omega)).mp e1'
    have b : j = j' := (nI_inj (by omega) (by omega)).mp e2'
    subst a b
    rcases v with ⟨p, q⟩ | ⟨p, q⟩ <;> rcases v' with ⟨p', q'⟩ | ⟨p', q'⟩
    · rw [p, p']
    · exact absurd q q'
    · exact absurd q' q
    · rw [p, p']
  · exact absurd ⟨i, j, hi, hj, e1, e2⟩ n'
  · exact absurd ⟨i', j', hi', hj', e1', e2'⟩ n
  · rw [e, e']
theorem fit_no1 {GS : List (List Nat)} {CS : List S6} (hl : GS.length ≤ 60) {x y : Int32} (q : ¬ (0 ≤ x.toInt ∧ x.toInt < GS.length)) : ¬ ∃ i j, i < GS.length ∧ j < CS.length ∧ x = nI i ∧ y = nI j := fun ⟨i, j, hi, hj, e1, e2⟩ => q (by rw [e1, nI_toI (by omega)]; omega)
theorem fit_no2 {GS : List (List Nat)} {CS : List S6} (hl : CS.length ≤ 40) {x y : Int32} (q : ¬ (0 ≤ y.toInt ∧ y.toInt < CS.length)) : ¬ ∃ i j, i < GS.length ∧ j < CS.length ∧ x = nI i ∧ y = nI j := fun ⟨i, j, hi, hj, e1, e2⟩ => q (by rw [e2, nI_toI (by omega)]; omega)
theorem sp_Ho_fits {h : MH} {O : Nat → Nat} {GS : List (List Nat)} {CS : List S6} (H : SS h) (hg : HGrp h O GS) (hc : HCel h O CS) (x y : Int32) : SpI k_Ho_fits [.ref 5, .int x, .int y] h (fun r g => FitA GS CS x y r ∧ Kp [37, 38] h g) := by
  have hl := hg.1
  have hl' := hc.1
  refine v_Ho_fits _ _ _ _ _ ⟨H.k5, SpR.mono (sp_Ho_groupAt H hg x) ?_⟩
  rintro r1 _ ⟨rfl, g1⟩
  refine ⟨H.k5, SpR.mono (sp_Ho_cellAt H hc y) ?_⟩
  rintro r2 k ⟨rfl, g2⟩
  rcases g1 with ⟨i, hi, rfl, rfl, r0⟩ | ⟨no, rfl⟩
  rotate_left
  · exact ⟨fun _ => ⟨_, rfl, Or.inr ⟨fit_no1 hl no, rfl⟩, Kp.refl H⟩, fun q => absurd rfl q⟩
  refine ⟨fun q => absurd q r0, fun _ => ?_⟩
  rcases g2 with ⟨j, hj, rfl, rfl, r0'⟩ | ⟨no, rfl⟩
  rotate_left
  · exact ⟨fun _ => ⟨_, rfl, Or.inr ⟨fit_no2 hl' no, rfl⟩, Kp.refl H⟩, fun q => absurd rfl q⟩
  obtain ⟨ok, ⟨MK, b, cl⟩, _⟩ := hg.2.2 i hi
  obtain ⟨oks, cb, _⟩ := hc.2.2 j hj
  have e0 := H.sil
  have b0 : GrpB (sil k (mi k) (ml k)) O i (mr k 29 i) (GS.getD i []) MK := by rw [← e0]; exact b
  have c0 : CelB (sil k (mi k) (ml k)) O (60 + j) (mr k 43 j) (CS.getD j z6) := by rw [← e0]; exact cb
  have := sp_Ho_keptBy (f := mi k) (l := ml k) H ok b0 cl c0 oks
  rw [← e0] at this
  refine ⟨fun q => absurd q r0', fun _ => ⟨H.k5, SpI.mono this ?_⟩⟩
  rintro r _ ⟨⟨f', rfl, fr⟩, ⟨rfl, a⟩ | ⟨rfl, a⟩⟩
  · exact ⟨fun q => absurd q (by decide), fun _ => ⟨_, rfl, Or.inl ⟨i, j, hi, hj, rfl, rfl, Or.inl ⟨rfl, a⟩⟩, Kp.si3 H fr Fr.refl⟩⟩
  · exact ⟨fun _ => ⟨_, rfl, Or.inl ⟨i, j, hi, hj, rfl, rfl, Or.inr ⟨rfl, a⟩⟩, Kp.si3 H fr Fr.refl⟩, fun q => absurd rfl q⟩
theorem sp_Ref_fits {h : MH} {f : (Nat → Nat → Int32)} {l : (Nat → Nat → Int64)} {GS : List (List Nat)} {CS : List S6} (hg : RGrp f GS) (ok : ∀ S ∈ GS, GOk S) (hc : RCel f l CS) (okc : ∀ j, j < CS.length → okC (CS.getD j z6)) (x y : Int32) : SpI k_Ref_fits [.ref 54, .int x, .int y] (sil h f l) (fun r g => FitA GS CS x y r ∧ ∃ f', g = sil h f' l ∧ Fr [57, 58] f f') := by
  have hl := hg.1
  have hl' := hc.1
  have t192 : (192 : Int32) = nI 192 := rfl
  have t6 : (6 : Int32) = nI 6 := rfl
  refine v_Ref_fits _ _ _ _ _ ⟨K54, SpI.mono (sp_Ref_isGroup hg x) ?_⟩
  rintro r1 _ ⟨rfl, ⟨i, hi, rfl, rfl⟩ | ⟨no, rfl⟩⟩
  rotate_left
  · exact ⟨fun _ => ⟨_, rfl, Or.inr ⟨fit_no1 hl no, rfl⟩, f, rfl, Fr.refl⟩, fun q => absurd rfl q⟩
  refine ⟨fun q => absurd q (by decide), fun _ => ⟨K54, SpI.mono (sp_Ref_isCell hc y) ?_⟩⟩
  rintro r1 _ ⟨rfl, ⟨j, hj, rfl, rfl⟩ | ⟨no, rfl⟩⟩
  rotate_left
  · exact ⟨fun _ => ⟨_, rfl, Or.inr ⟨fit_no2 hl' no, rfl⟩, f, rfl, Fr.refl⟩, fun q => absurd rfl q⟩
  refine ⟨fun q => absurd q (by decide), fun _ => ?_⟩
  have okS := ok _ (gD_mem hi)
  have w := okS.2.1
  have mem := hg.2.2.2 i hi
  have oks := okc j hj
  have six := (hc.2.2 j hj).1
  have main : ∀ d k (f1 : (Nat → Nat → Int32)), (GS.getD i []).length - k = d → k ≤ (GS.getD i []).length → Fr [57, 58] f f1 → (∀ q, q < k → KpM (CS.getD j z6) (eM ((GS.getD i []).getD q 0))) →
      WM k_Ref_fits p_Ref_fits_1 [.ref 54, .int (nI i), .int (nI j), .int (nI k)] [] (sil h f1 l) 0 0 (fun v g => ∃ r, v = .int r ∧ FitA GS CS (nI i) (nI j) r ∧ ∃ f', g = sil h f' l ∧ Fr [57, 58] f f') := by
    intro d
    induction d with
    | zero =>
      intro k f1 hd hk fr al
      refine v_Ref_fits_1 _ _ _ _ _ _ ⟨K54, ?_⟩
      rw [R54_16, ix_nI (by omega), mi_sil, fr 65 (by decide), mem.1, nI_toI (by omega), nI_toI (by omega)]
      refine ⟨K65, InB_nI (show i < 60 by omega) (by omega), fun q => absurd q (by omega), fun _ => ⟨_, rfl, Or.inl ⟨i, j, hi, hj, rfl, rfl, Or.inl ⟨rfl, fun c hc' => ?_⟩⟩, f1, rfl, fr⟩⟩
      obtain ⟨q, hq, eq⟩ := mem_getD hc'
      rw [← eq]; exact al q (by omega)
    | succ d ih =>
      intro k f1 hd hk fr al
      have kl : k < (GS.getD i []).length := by omega
      have cS := getD_mem kl
      refine v_Ref_fits_1 _ _ _ _ _ _ ⟨K54, ?_⟩
      rw [R54_16, R54_15, R54_3, R54_4, ix_nI (by omega), mi_sil, fr 65 (by decide), mem.1, nI_toI (by omega), nI_toI (by omega), t192, nI_mul, nI_add, ix_nI (by omega), fr 64 (by decide), mem.2 k kl, t6, nI_mul, nI_1]
      refine ⟨K65, InB_nI (show i < 60 by omega) (by omega), fun _ => ⟨K64, InB_nI (show 192 * i + k < 11520 by omega) (by omega), SpV.mono (open_ab (okS.c _ cS)) ?_⟩, fun q => absurd (by omega) q⟩
      rintro _ ⟨f2, rfl, fr2, ma, _⟩
      rw [R54_3, R54_29]
      refine ⟨K54, SpI.mono (sp_Ref_keeps K76 L76 (by omega) six oks.b ma (fun j hj => eM_small _ j hj)) ?_⟩
      rintro r _ ⟨rfl, ⟨rfl, kp⟩ | ⟨rfl, kp⟩⟩
      · refine ⟨fun q => absurd q (by decide), fun _ => ih (k + 1) f2 (by omega) (by omega) (fr.trans fr2) (fun q hq => ?_)⟩
        by_cases e : q = k
        · subst e; exact kp
        · exact al q (by omega)
      · exact ⟨fun _ => ⟨_, rfl, Or.inl ⟨i, j, hi, hj, rfl, rfl, Or.inr ⟨rfl, fun q => kp (q _ cS)⟩⟩, f2, rfl, fr.trans fr2⟩, fun q => absurd rfl q⟩
  exact main _ 0 f rfl (Nat.zero_le _) Fr.refl (fun q hq => absurd hq (Nat.not_lt_zero q))
/-! reduced -/
noncomputable def rdV (s u : S6) (w : Nat) : Int := if w < 6 then nth6 (hf u) w else if w = 6 then (symN (hf u) : Int) else det6 (nth6 s 0) (nth6 s 1) (nth6 s 2) (nth6 s 3) (nth6 s 4) (nth6 s 5)
def RdA (CS : List S6) (x w : Int32) (r : Int64) : Prop := (∃ j v, j < CS.length ∧ v < 8 ∧ x = nI j ∧ w = nI v ∧ ∃ k u, Red k (db (CS.getD j z6)) u ∧ r = zL (rdV (CS.getD j z6) u v)) ∨ ((¬ ∃ j v, j < CS.length ∧ v < 8 ∧ x = nI j ∧ w = nI v) ∧ r = 0)
theorem RdA.fn {CS : List S6} {x w : Int32} {r r' : Int64} (hl : CS.length ≤ 40) (h : RdA CS x w r) (h' : RdA CS x w r') : r = r' := by
  rcases h with ⟨i, j, hi, hj, e1, e2, k, u, rd, v⟩ | ⟨n, e⟩ <;> rcases h' with ⟨i', j', hi', hj', e1', e2', k', u', rd', v'⟩ | ⟨n', e'⟩
  · rw [e1] at e1'
    rw [e2] at e2'
    have a : i = i' := (nI_inj (by omega) (by omega)).mp e1'
    have b : j = j' := (nI_inj (by omega) (by omega)).mp e2'
    subst a b
    rw [v, v', (rd.fn rd').2]
  · exact absurd ⟨i, j, hi, hj, e1, e2⟩ n'
  · exact absurd ⟨i', j', hi', hj', e1', e2'⟩ n
  · rw [e, e']
theorem rd_no1 {CS : List S6} (hl : CS.length ≤ 40) {x w : Int32} (q : ¬ (0 ≤ x.toInt ∧ x.toInt < CS.length)) : ¬ ∃ j v, j < CS.length ∧ v < 8 ∧ x = nI j ∧ w = nI v := fun ⟨i, j, hi, hj, e1, e2⟩ => q (by rw [e1, nI_toI (by omega)]; omega)
theorem rd_no2 {CS : List S6} {x w : Int32} (q : ¬ (0 ≤ w.toInt ∧ w.toInt < 8)) : ¬ ∃ j v, j < CS.length ∧ v < 8 ∧ x = nI j ∧ w = nI v := fun ⟨i, j, hi, hj, e1, e2⟩ => q (by rw [e2, nI_toI (by omega)]; omega)
theorem okC.OK {s : S6} (h : okC s) : OKs (db s) ∧ tT (db s) ≤ 30000 := by
  obtain ⟨n, h⟩ := h
  obtain ⟨a, b, c, d, e, f⟩ := s
  obtain ⟨_, q1, q2, q3, q4, q5, q6, c7, c8⟩ := h
  refine ⟨cell_OK q1 c7 c8, ?_⟩
  have := q1.2; have := q2.2; have := q3.2
  show a + b + c ≤ 30000
  unfold nth6 at *
  simp only [Nat.reduceEqDiff, if_true, if_false] at *
  omega
theorem det_low {s u : S6} {k : Nat} (oks : okC s) (rd : Red k (db s) u) : det6 (nth6 (hf u) 0) (nth6 (hf u) 1) (nth6 (hf u) 2) (nth6 (hf u) 3) (nth6 (hf u) 4) (nth6 (hf u) 5) = det6 (nth6 s 0) (nth6 s 1) (nth6 s 2) (nth6 s 3) (nth6 s 4) (nth6 s 5) := by
  have kk := rd.k oks.OK.1
  have e1 := hf_det (kk.2.2.1 (Ev_db s))
  have e2 := hf_det (Ev_db s)
  rw [hf_db] at e2
  rw [kk.2.2.2] at e1
  omega
theorem sp_Ref_reduced {h : MH} {f : (Nat → Nat → Int32)} {l : (Nat → Nat → Int64)} {CS : List S6} (hc : RCel f l CS) (okc : ∀ j, j < CS.length → okC (CS.getD j z6)) (x w : Int32) : SpL k_Ref_reduced [.ref 54, .int x, .int w] (sil h f l) (fun r g => RdA CS x w r ∧ g = sil h f l) := by
  have hl := hc.1
  have t6 : (6 : Int32) = nI 6 := rfl
  have t6' : (6 : Int32).toInt = 6 := rfl
  have t7' : (7 : Int32).toInt = 7 := rfl
  refine v_Ref_reduced _ _ _ _ _ ⟨K54, SpI.mono (sp_Ref_isCell hc x) ?_⟩
  rintro r1 _ ⟨rfl, ⟨j, hj, rfl, rfl⟩ | ⟨no, rfl⟩⟩
  rotate_left
  · exact ⟨fun _ => ⟨_, rfl, Or.inr ⟨rd_no1 hl no, rfl⟩, rfl⟩, fun q => absurd rfl q⟩
  rw [t6', t7']
  refine ⟨fun q => absurd q (by decide), fun _ => ⟨fun c => ⟨_, rfl, Or.inr ⟨rd_no2 (by omega), rfl⟩, rfl⟩, fun c1 => ⟨fun c => ⟨_, rfl, Or.inr ⟨rd_no2 (by omega), rfl⟩, rfl⟩, fun c2 => ?_⟩⟩⟩
  obtain ⟨v, rfl, hv⟩ := op_x (n := 8) c1 (by omega) (by decide)
  obtain ⟨six, k, u, rd, low, sym⟩ := hc.2.2 j hj
  have put : ∀ {r : Int64}, r = zL (rdV (CS.getD j z6) u v) → ∃ r', (.long r : Value) = .long r' ∧ RdA CS (nI j) (nI v) r' ∧ sil h f l = sil h f l := fun e => ⟨_, rfl, Or.inl ⟨j, v, hj, hv, rfl, rfl, k, u, rd, e⟩, rfl⟩
  rw [nI_toI (by omega)]
  refine ⟨fun lt => ⟨K54, ?_⟩, fun ge => ⟨fun e => ⟨K54, ?_⟩, fun ne => ⟨K54, ?_⟩⟩⟩
  · rw [R54_30, t6, nI_mul, nI_add, ix_nI (by omega), ml_sil, low v (by omega)]
    exact ⟨K77, InB_nI (show 6 * j + v < 240 by omega) (by omega), put (by unfold rdV; rw [if_pos (by omega)])⟩
  · have ev : v = 6 := (nI_inj (by omega) (by omega)).mp (e.trans t6)
    have sl := symK_le (hf u) 19683
    rw [R54_31, ix_nI (by omega), mi_sil, sym]
    refine ⟨K78, InB_nI (show j < 40 by omega) (by omega), put ?_⟩
    unfold rdV
    rw [if_neg (by omega), if_pos ev, i2l_z, symK_N, nI_toI (by omega)]
  · have nv : v ≠ 6 := fun q => ne (by rw [q]; rfl)
    have kk := rd.k (okc j hj).OK.1
    have hab := hf_ab kk.1 (by have := (okc j hj).OK.2; omega)
    have b : ∀ i : Nat, i < 6 → InB (nI (6 * j) + nI i) 240 := fun i hi => by rw [nI_add]; exact InB_nI (by omega) (by omega)
    have ii : ∀ i : Nat, i < 6 → ix (nI (6 * j) + nI i) = 6 * j + i := fun i hi => by rw [nI_add]; exact ix_nI (by omega)
    have s0 := low 0 (by decide)
    rw [Nat.add_zero] at s0
    rw [R54_30, t6, nI_mul]
    refine v_Ref_determinantOf _ _ _ _ ⟨K77, InB_nI (show 6 * j < 240 by omega) (by omega), b 1 (by decide), b 2 (by decide), b 3 (by decide), b 4 (by decide), b 5 (by decide), _, rfl, put ?_⟩
    rw [ix_nI (by omega), show ix (nI (6 * j) + (1 : Int32)) = 6 * j + 1 from ii 1 (by decide), show ix (nI (6 * j) + (2 : Int32)) = 6 * j + 2 from ii 2 (by decide), show ix (nI (6 * j) + (3 : Int32)) = 6 * j + 3 from ii 3 (by decide), show ix (nI (6 * j) + (4 : Int32)) = 6 * j + 4 from ii 4 (by decide), show ix (nI (6 * j) + (5 : Int32)) = 6 * j + 5 from ii 5 (by decide), ml_sil, s0, low 1 (by decide), low 2 (by decide), low 3 (by decide), low 4 (by decide), low 5 (by decide)]
    simp only [zL_mul, zL_sub, zL_add]
    unfold rdV
    rw [if_neg (by omega), if_neg nv, ← det_low (okc j hj) rd]
    rfl
