/-! the answers of wave, in the reference -/
def TuFr (f f' : (Nat → Nat → Int32)) : Prop := Fr [54, 57, 58, 98] f f' ∧ ∀ j, j ≠ 62 → j ≠ 63 → j ≠ 64 → j ≠ 65 → f' 54 j = f 54 j
theorem TuFr.trans {f g k : (Nat → Nat → Int32)} (a : TuFr f g) (b : TuFr g k) : TuFr f k := ⟨a.1.trans b.1, fun j h1 h2 h3 h4 => (b.2 j h1 h2 h3 h4).trans (a.2 j h1 h2 h3 h4)⟩
theorem TuFr.refl {f : (Nat → Nat → Int32)} : TuFr f f := ⟨Fr.refl, fun _ _ _ _ _ => rfl⟩
theorem sp_Ref_turned {h : MH} {f : (Nat → Nat → Int32)} {l : (Nat → Nat → Int64)} {c : Nat} {v : V3} (hc : cOK c) (hv : wB v 60) : SpV k_Ref_turned [.ref 54, .int (nI c), .int (zI v.1), .int (zI v.2.1), .int (zI v.2.2)] (sil h f l) (fun g => ∃ f', g = sil h f' l ∧ TuFr f f' ∧ f' 98 = f 98 ∧ f' 54 62 = zI (cw c v).1 ∧ f' 54 63 = zI (cw c v).2.1 ∧ f' 54 64 = zI (cw c v).2.2 ∧ f' 54 65 = nI (wt c v)) := by
  have b := wtZ_b (c := c) hv
  have b1 := b.lo
  have b2 := b.hi
  refine v_Ref_turned _ _ _ _ _ _ _ ⟨K54, ?_⟩
  rw [R54_3, R54_4]
  refine SpV.mono (open_ab hc) ?_
  rintro _ ⟨f1, rfl, fr, m, s⟩
  have e0 : f1 57 0 = zI (eM c 0) := of_toI (m _ (by decide))
  have e1 : f1 57 1 = zI (eM c 1) := of_toI (m _ (by decide))
  have e2 : f1 57 2 = zI (eM c 2) := of_toI (m _ (by decide))
  have e3 : f1 57 3 = zI (eM c 3) := of_toI (m _ (by decide))
  have e4 : f1 57 4 = zI (eM c 4) := of_toI (m _ (by decide))
  have e5 : f1 57 5 = zI (eM c 5) := of_toI (m _ (by decide))
  have e6 : f1 57 6 = zI (eM c 6) := of_toI (m _ (by decide))
  have e7 : f1 57 7 = zI (eM c 7) := of_toI (m _ (by decide))
  have e8 : f1 57 8 = zI (eM c 8) := of_toI (m _ (by decide))
  have s0 : f1 58 0 = zI (eZ c 0) := of_toI (s _ (by decide))
  have s1 : f1 58 1 = zI (eZ c 1) := of_toI (s _ (by decide))
  have s2 : f1 58 2 = zI (eZ c 2) := of_toI (s _ (by decide))
  have ev : irm (irm (zI (v.1 * eZ c 0 + v.2.1 * eZ c 1 + v.2.2 * eZ c 2)) (nI 24) + nI 24) (nI 24) = nI (wt c v) := by
    refine (irm_fm (x := wtZ c v) (d := 24) (by omega) (by omega) (by decide) (by decide)).trans ?_
    show zI (wtZ c v % 24) = _
    rw [← zI_nat]
    unfold wt
    congr 1
    omega
  simp (disch := omega) only [(show (0 : Int32) = nI 0 from rfl), (show (1 : Int32) = nI 1 from rfl), (show (2 : Int32) = nI 2 from rfl), (show (3 : Int32) = nI 3 from rfl), (show (4 : Int32) = nI 4 from rfl), (show (5 : Int32) = nI 5 from rfl), (show (6 : Int32) = nI 6 from rfl), (show (7 : Int32) = nI 7 from rfl), (show (8 : Int32) = nI 8 from rfl), (show (24 : Int32) = nI 24 from rfl), nI_add, nI_mul, nI_1, ix_nI, nI_toI, div_nI, irm_nI, InB_t, zI_add, zI_sub, zI_mul, zI_neg, nI_addZ, zI_addN, nI_mulZ, zI_mulN, nI_subZ, zI_subN, zI_toI, Int.cast_ofNat_Int, mi_sil, ml_sil, hn_sil, wi_sil, wl_sil, up2_ne, up2_s, true_and, and_true, forall_eq, true_implies, implies_true, forall_const, ne_eq, K54, R54_3, K57, L57, R54_4, K58, L58, e0, e1, e2, e3, e4, e5, e6, e7, e8]
  refine v_Ref_turned_1 _ _ _ _ _ _ ?_
  simp (disch := omega) only [(show (0 : Int32) = nI 0 from rfl), (show (1 : Int32) = nI 1 from rfl), (show (2 : Int32) = nI 2 from rfl), (show (3 : Int32) = nI 3 from rfl), (show (4 : Int32) = nI 4 from rfl), (show (5 : Int32) = nI 5 from rfl), (show (6 : Int32) = nI 6 from rfl), (show (7 : Int32) = nI 7 from rfl), (show (8 : Int32) = nI 8 from rfl), (show (24 : Int32) = nI 24 from rfl), nI_add, nI_mul, nI_1, ix_nI, nI_toI, div_nI, irm_nI, InB_t, zI_add, zI_sub, zI_mul, zI_neg, nI_addZ, zI_addN, nI_mulZ, zI_mulN, nI_subZ, zI_subN, zI_toI, Int.cast_ofNat_Int, mi_sil, ml_sil, hn_sil, wi_sil, wl_sil, up2_ne, up2_s, true_and, and_true, forall_eq, true_implies, implies_true, forall_const, ne_eq, K54, R54_3, K57, L57, R54_4, K58, L58, s0, s1, s2, ev]
  refine ⟨_, rfl, ⟨((((fr.mono (by decide)).up (by decide)).up (by decide)).up (by decide)).up (by decide), fun j h1 h2 h3 h4 => ?_⟩, ?_, ?_, ?_, ?_, ?_⟩
  · rw [up2_ni h4, up2_ni h3, up2_ni h2, up2_ni h1, fr 54 (by decide)]
  · rw [up2_row (by decide), up2_row (by decide), up2_row (by decide), up2_row (by decide), fr 98 (by decide)]
  · rw [up2_ni (by decide), up2_ni (by decide), up2_ni (by decide), up2_s]; rfl
  · rw [up2_ni (by decide), up2_ni (by decide), up2_s]; rfl
  · rw [up2_ni (by decide), up2_s]; rfl
  · rw [up2_s]
def WvL (f : (Nat → Nat → Int32)) (Vs : List V3) : Prop := Vs.Nodup ∧ (∀ u ∈ Vs, wB u 180) ∧ ∀ j, j < Vs.length → f 98 j = zI (rc (Vs.getD j (0, 0, 0)))
theorem rc_rng {v : V3} (h : wB v 180) : 0 ≤ rc v ∧ rc v < 2147483648 := by unfold wB at h; unfold rc; omega
theorem wv_put {h : MH} {f : (Nat → Nat → Int32)} {l : (Nat → Nat → Int64)} {Vs : List V3} {u : V3} {x1 x2 x3 x4 x5 x7 x8 x9 x10 : Int32} {Rt : Value → MH → Prop} (hl : WvL f Vs) (hu : wB u 180) (len : Vs.length < 400)
    (next : ∀ (f' : (Nat → Nat → Int32)) (Vs' : List V3), Fr [98] f f' → WvL f' Vs' → (∀ z, z ∈ Vs' ↔ z = u ∨ z ∈ Vs) → Vs'.length ≤ Vs.length + 1 → WM k_Ref_wave p_Ref_wave_3 [.ref 54, .int x1, .int x2, .int x3, .int x4, .int x5, .int (nI Vs'.length), .int x7, .int x8, .int x9, .int (x10 + (-2)), Jv, Jv, Jv] [] (sil h f' l) 0 0 Rt) :
    WM k_Ref_wave p_Ref_wave_4 [.ref 54, .int x1, .int x2, .int x3, .int x4, .int x5, .int (nI Vs.length), .int x7, .int x8, .int x9, .int x10, .int (zI (rc u)), .int (0), .int (0)] [] (sil h f l) 0 0 Rt := by
  have ur := rc_rng hu
  have five1 : u ∈ Vs → WM k_Ref_wave p_Ref_wave_5 [.ref 54, .int x1, .int x2, .int x3, .int x4, .int x5, .int (nI Vs.length), .int x7, .int x8, .int x9, .int x10, .int (zI (rc u)), .int 1, Jv] [] (sil h f l) 0 0 Rt := fun mu =>
    v_Ref_wave_5 _ _ _ _ _ _ _ _ _ _ _ _ _ _ _ ⟨fun q => absurd q (by decide), fun _ => next f Vs Fr.refl hl (fun z => ⟨Or.inr, fun q => by
      rcases q with q | q
      · rw [q]; exact mu
      · exact q⟩) (by omega)⟩
  have five0 : u ∉ Vs → WM k_Ref_wave p_Ref_wave_5 [.ref 54, .int x1, .int x2, .int x3, .int x4, .int x5, .int (nI Vs.length), .int x7, .int x8, .int x9, .int x10, .int (zI (rc u)), .int 0, Jv] [] (sil h f l) 0 0 Rt := fun nu => by
    refine v_Ref_wave_5 _ _ _ _ _ _ _ _ _ _ _ _ _ _ _ ⟨fun _ => ⟨K54, ?_⟩, fun q => absurd rfl q⟩
    rw [R54_66, ix_nI (by omega)]
    refine ⟨K98, InB_nI (show Vs.length < 400 from len) (by omega), ?_⟩
    rintro _ rfl
    have en : (Vs ++ [u]).length = Vs.length + 1 := by rw [List.length_append]; rfl
    rw [wi_sil, nI_1, ← en]
    refine next _ (Vs ++ [u]) (Fr.refl.up (by decide)) ⟨?_, fun z hz => ?_, fun j hj => ?_⟩ (fun z => ?_) (by omega)
    · exact List.nodup_append.mpr ⟨hl.1, List.nodup_cons.mpr ⟨by simp, List.nodup_nil⟩, fun a ha b hb e => by
        rw [List.mem_singleton] at hb
        exact nu (by rw [← hb, ← e]; exact ha)⟩
    · rcases List.mem_append.mp hz with q | q
      · exact hl.2.1 z q
      · rw [List.mem_singleton] at q; rw [q]; exact hu
    · rw [en] at hj
      by_cases e : j = Vs.length
      · subst e; rw [up2_s, gEnd]
      · rw [up2_ni e, gLeft (by omega)]; exact hl.2.2 j (by omega)
    · rw [List.mem_append, List.mem_singleton]
      exact ⟨fun q => q.symm, fun q => q.symm⟩
  have main : ∀ d j, Vs.length - j = d → j ≤ Vs.length → (∀ i, i < j → Vs.getD i (0, 0, 0) ≠ u) → WM k_Ref_wave p_Ref_wave_4 [.ref 54, .int x1, .int x2, .int x3, .int x4, .int x5, .int (nI Vs.length), .int x7, .int x8, .int x9, .int x10, .int (zI (rc u)), .int 0, .int (nI j)] [] (sil h f l) 0 0 Rt := by
    intro d
    induction d with
    | zero =>
      intro j hd hj no
      refine v_Ref_wave_4 _ _ _ _ _ _ _ _ _ _ _ _ _ _ _ _ ?_
      rw [nI_toI (by omega), nI_toI (by omega)]
      refine ⟨fun q => absurd q (by omega), fun _ => five0 (fun q => ?_)⟩
      obtain ⟨i, hi, e⟩ := gEx (d := ((0, 0, 0) : V3)) q
      exact no i (by omega) e
    | succ d ih =>
      intro j hd hj no
      have jl : j < Vs.length := by omega
      have bj := hl.2.1 _ (gMem (d := ((0, 0, 0) : V3)) jl)
      have rj := rc_rng bj
      refine v_Ref_wave_4 _ _ _ _ _ _ _ _ _ _ _ _ _ _ _ _ ?_
      rw [nI_toI (by omega), nI_toI (by omega), R54_66, ix_nI (by omega), mi_sil, hl.2.2 j jl, zI_inj (by omega) (by omega) (by omega) (by omega), nI_1]
      refine ⟨fun _ => ⟨fun _ => ⟨K54, K98, InB_nI (show j < 400 by omega) (by omega), fun e => ?_, fun e => ?_⟩, fun q => absurd rfl q⟩, fun q => absurd (by omega) q⟩
      · have mu : u ∈ Vs := by rw [← rc_inj bj hu e]; exact gMem jl
        have f5 := five1 mu
        exact v_Ref_wave_4 _ _ _ _ _ _ _ _ _ _ _ _ _ _ _ _ ⟨fun _ => ⟨fun q => absurd q (by decide), fun _ => f5⟩, fun _ => f5⟩
      · refine ih (j + 1) (by omega) (by omega) (fun i hi => ?_)
        by_cases w : i = j
        · rw [w]; exact fun q => e (by rw [q])
        · exact no i (by omega)
  exact main _ 0 rfl (Nat.zero_le _) (fun i hi => absurd hi (Nat.not_lt_zero i))
def StV (S : List Nat) (v : V3) (k : Nat) (z : V3) : Prop := ∃ j, j < k ∧ (z = cw (S.getD j 0) v ∨ z = wN (cw (S.getD j 0) v))
theorem rwv_loop {h : MH} {f : (Nat → Nat → Int32)} {l : (Nat → Nat → Int64)} {GS : List (List Nat)} {i : Nat} {v : V3} {w : Int32} (hg : RGrp f GS) (hi : i < GS.length) (ok : GOk (GS.getD i [])) (hv : wB v 60) : ∀ d k (f1 : (Nat → Nat → Int32)) (Vs : List V3), (GS.getD i []).length - k = d → k ≤ (GS.getD i []).length → TuFr f f1 → WvL f1 Vs → (∀ z, z ∈ Vs ↔ StV (GS.getD i []) v k z) → Vs.length ≤ 2 * k →
    WM k_Ref_wave p_Ref_wave_1 [.ref 54, .int (nI i), .int (zI v.1), .int (zI v.2.1), .int (zI v.2.2), .int w, .int (nI Vs.length), .int (fxK (GS.getD i []) v k), .int (abK (GS.getD i []) v k), .int (nI k), Jv, Jv, Jv, Jv] [] (sil h f1 l) 0 0 (fun u q => ∃ r, u = .int r ∧ WvV (GS.getD i []) v w r ∧ ∃ f', q = sil h f' l ∧ TuFr f f') := by
  have g1 := hg.1
  have wl := ok.2.1
  intro d
  induction d with
  | zero =>
    intro k f1 Vs hd hk fr hl mem len
    have e : k = (GS.getD i []).length := by omega
    subst e
    have gi := (hg.fr (f' := f1) (fr.2 17 (by decide) (by decide) (by decide) (by decide)) (fr.1 64 (by decide)) (fr.1 65 (by decide))).2.2.2 i hi
    refine v_Ref_wave_1 _ _ _ _ _ _ _ _ _ _ _ _ ⟨K54, ?_⟩
    rw [R54_16, ix_nI (by omega), mi_sil, gi.1, nI_toI (by omega)]
    refine ⟨K65, InB_nI (show i < 60 by omega) (by omega), fun q => absurd q (by omega), fun _ => ⟨fun e => ⟨_, rfl, Or.inl ⟨e, rfl⟩, f1, rfl, fr⟩, fun n0 => ⟨fun e => ⟨_, rfl, Or.inr (Or.inl ⟨e, Vs.map wc, ?_, fun z => ?_, by rw [List.length_map]⟩), f1, rfl, fr⟩, fun n1 => ⟨_, rfl, Or.inr (Or.inr ⟨n0, n1, rfl⟩), f1, rfl, fr⟩⟩⟩⟩
    · refine List.pairwise_map.mpr ((List.Pairwise.and_mem.mp hl.1).imp ?_)
      rintro a b ⟨ha, hb, ne⟩ q
      exact ne (wc_inj (hl.2.1 a ha) (hl.2.1 b hb) q)
    · rw [List.mem_map]
      constructor
      · rintro ⟨u, hu, rfl⟩
        obtain ⟨j, hj, q⟩ := (mem u).mp hu
        rcases q with q | q
        · exact ⟨j, hj, Or.inl (by rw [q])⟩
        · exact ⟨j, hj, Or.inr (by rw [q, wc_neg])⟩
      · rintro ⟨j, hj, q⟩
        rcases q with q | q
        · exact ⟨_, (mem _).mpr ⟨j, hj, Or.inl rfl⟩, q.symm⟩
        · exact ⟨_, (mem _).mpr ⟨j, hj, Or.inr rfl⟩, by rw [wc_neg]; exact q.symm⟩
  | succ d ih =>
    intro k f1 Vs hd hk fr hl mem len
    have kl : k < (GS.getD i []).length := by omega
    have gi := (hg.fr (f' := f1) (fr.2 17 (by decide) (by decide) (by decide) (by decide)) (fr.1 64 (by decide)) (fr.1 65 (by decide))).2.2.2 i hi
    refine v_Ref_wave_1 _ _ _ _ _ _ _ _ _ _ _ _ ⟨K54, ?_⟩
    rw [R54_16, R54_15, show (192 : Int32) = nI 192 from rfl, nI_mul, nI_add, ix_nI (by omega), ix_nI (by omega), mi_sil, gi.1, gi.2 k kl, nI_toI (by omega), nI_toI (by omega)]
    refine ⟨K65, InB_nI (show i < 60 by omega) (by omega), fun _ => ⟨K64, InB_nI (show 192 * i + k < 11520 by omega) (by omega), SpV.mono (sp_Ref_turned (ok.c _ (getD_mem kl)) hv) ?_⟩, fun c => absurd (by omega) c⟩
    generalize hc : (GS.getD i []).getD k 0 = c
    rintro _ ⟨f2, rfl, fr2, e98, e62, e63, e64, e65⟩
    have cb := cw_b (c := c) hv
    have wl2 := wt_lt c v
    have hl2 : WvL f2 Vs := ⟨hl.1, hl.2.1, fun j hj => by rw [e98]; exact hl.2.2 j hj⟩
    have frB := fr.trans fr2
    have q1 : (zI (cw c v).1 = zI v.1 ∧ zI (cw c v).2.1 = zI v.2.1 ∧ zI (cw c v).2.2 = zI v.2.2) ↔ cw c v = v := by
      unfold wB at cb hv
      rw [zI_inj (by omega) (by omega) (by omega) (by omega), zI_inj (by omega) (by omega) (by omega) (by omega), zI_inj (by omega) (by omega) (by omega) (by omega)]
      exact ⟨fun q => Prod.ext q.1 (Prod.ext q.2.1 q.2.2), fun q => by rw [q]; exact ⟨rfl, rfl, rfl⟩⟩
    have q2 : (zI (cw c v).1 = -zI v.1 ∧ zI (cw c v).2.1 = -zI v.2.1 ∧ zI (cw c v).2.2 = -zI v.2.2) ↔ cw c v = wN v := by
      unfold wB at cb hv
      rw [zI_neg, zI_neg, zI_neg, zI_inj (by omega) (by omega) (by omega) (by omega), zI_inj (by omega) (by omega) (by omega) (by omega), zI_inj (by omega) (by omega) (by omega) (by omega)]
      exact ⟨fun q => Prod.ext q.1 (Prod.ext q.2.1 q.2.2), fun q => by rw [q]; exact ⟨rfl, rfl, rfl⟩⟩
    have t0 : nI (wt c v) = 0 ↔ wt c v = 0 := by
      show nI _ = nI 0 ↔ _
      rw [nI_inj (by omega) (by decide)]
    have three : WM k_Ref_wave p_Ref_wave_3 [.ref 54, .int (nI i), .int (zI v.1), .int (zI v.2.1), .int (zI v.2.2), .int w, .int (nI Vs.length), .int (fxK (GS.getD i []) v (k + 1)), .int (abK (GS.getD i []) v (k + 1)), .int (nI k), .int 1, Jv, Jv, Jv] [] (sil h f2 l) 0 0 (fun u q => ∃ r, u = .int r ∧ WvV (GS.getD i []) v w r ∧ ∃ f', q = sil h f' l ∧ TuFr f f') := by
      refine v_Ref_wave_3 _ _ _ _ _ _ _ _ _ _ _ _ _ ⟨fun q => absurd q (by decide), fun _ => ⟨K54, ?_⟩⟩
      rw [mi_sil, e62, e63, e64, show (1 : Int32) = zI 1 from rfl, show (200 : Int32) = zI 200 from rfl, show (160801 : Int32) = zI 160801 from rfl, show (401 : Int32) = zI 401 from rfl, zI_mul, zI_mul, zI_mul, zI_add, zI_add, zI_mul, zI_mul, zI_add, zI_add, zI_add,
        show (1 * (cw c v).1 + 200) * 160801 + (1 * (cw c v).2.1 + 200) * 401 + 1 * (cw c v).2.2 + 200 = rc (cw c v) by unfold rc; omega]
      refine wv_put hl2 cb (by omega) (fun f3 Vs3 fr3 hl3 mem3 len3 => ?_)
      refine v_Ref_wave_3 _ _ _ _ _ _ _ _ _ _ _ _ _ ⟨fun q => absurd q (by decide), fun _ => ⟨K54, ?_⟩⟩
      have e62' : f3 54 62 = zI (cw c v).1 := by rw [fr3 54 (by decide)]; exact e62
      have e63' : f3 54 63 = zI (cw c v).2.1 := by rw [fr3 54 (by decide)]; exact e63
      have e64' : f3 54 64 = zI (cw c v).2.2 := by rw [fr3 54 (by decide)]; exact e64
      rw [mi_sil, e62', e63', e64', show zI 1 + (-2 : Int32) = zI (-1) from rfl, show (200 : Int32) = zI 200 from rfl, show (160801 : Int32) = zI 160801 from rfl, show (401 : Int32) = zI 401 from rfl, zI_mul, zI_mul, zI_mul, zI_add, zI_add, zI_mul, zI_mul, zI_add, zI_add, zI_add,
        show (-1 * (cw c v).1 + 200) * 160801 + (-1 * (cw c v).2.1 + 200) * 401 + -1 * (cw c v).2.2 + 200 = rc (wN (cw c v)) by unfold rc wN; simp only; omega]
      refine wv_put hl3 (wN_b cb) (by omega) (fun f4 Vs4 fr4 hl4 mem4 len4 => ?_)
      refine v_Ref_wave_3 _ _ _ _ _ _ _ _ _ _ _ _ _ ⟨fun _ => ?_, fun q => absurd (by decide) q⟩
      rw [nI_1]
      refine ih (k + 1) f4 Vs4 (by omega) (by omega) ⟨(frB.1.trans (fr3.mono (by decide))).trans (fr4.mono (by decide)), fun j h1 h2 h3 h4 => by rw [fr4 54 (by decide), fr3 54 (by decide)]; exact frB.2 j h1 h2 h3 h4⟩ hl4 (fun z => ?_) (by omega)
      rw [mem4 z, mem3 z, mem z]
      constructor
      · rintro (q | q | ⟨j, hj, e⟩)
        · exact ⟨k, by omega, Or.inr (by rw [hc]; exact q)⟩
        · exact ⟨k, by omega, Or.inl (by rw [hc]; exact q)⟩
        · exact ⟨j, by omega, e⟩
      · rintro ⟨j, hj, e⟩
        by_cases q : j = k
        · subst q
          rw [hc] at e
          rcases e with e | e
          · exact Or.inr (Or.inl e)
          · exact Or.inl e
        · exact Or.inr (Or.inr ⟨j, by omega, e⟩)
    have two : WM k_Ref_wave p_Ref_wave_2 [.ref 54, .int (nI i), .int (zI v.1), .int (zI v.2.1), .int (zI v.2.2), .int w, .int (nI Vs.length), .int (fxK (GS.getD i []) v k), .int (abK (GS.getD i []) v (k + 1)), .int (nI k), Jv, Jv, Jv, Jv] [] (sil h f2 l) 0 0 (fun u q => ∃ r, u = .int r ∧ WvV (GS.getD i []) v w r ∧ ∃ f', q = sil h f' l ∧ TuFr f f') := by
      refine v_Ref_wave_2 _ _ _ _ _ _ _ _ _ _ _ _ ⟨K54, ?_⟩
      rw [mi_sil, e62, e63, e64, e65]
      have no : ¬ (zI (cw c v).1 = -zI v.1 ∧ zI (cw c v).2.1 = -zI v.2.1 ∧ zI (cw c v).2.2 = -zI v.2.2) → fxK (GS.getD i []) v (k + 1) = fxK (GS.getD i []) v k := fun n => fxK_n (fun w => n (q2.mpr (by rw [hc] at w; exact w.1)))
      refine ⟨fun a1 => ⟨fun a2 => ⟨fun a3 => ⟨fun n => ?_, fun n => ?_⟩, fun n => ?_⟩, fun n => ?_⟩, fun n => ?_⟩
      · have := fxK_y (S := GS.getD i []) (v := v) (k := k) ⟨by rw [hc]; exact q2.mp ⟨a1, a2, a3⟩, n⟩
        rw [hc] at this
        rw [← this]; exact three
      · rw [← fxK_n (fun w => n w.2)]; exact three
      · rw [← no (fun q => n q.2.2)]; exact three
      · rw [← no (fun q => n q.2.1)]; exact three
      · rw [← no (fun q => n q.1)]; exact three
    rw [mi_sil, e62, e63, e64, e65]
    have no : ¬ ((zI (cw c v).1 = zI v.1 ∧ zI (cw c v).2.1 = zI v.2.1 ∧ zI (cw c v).2.2 = zI v.2.2) ∧ ¬ nI (wt c v) = 0) → abK (GS.getD i []) v (k + 1) = abK (GS.getD i []) v k := fun n => abK_n (fun w => n (by rw [hc] at w; exact ⟨q1.mpr w.1, fun q => w.2 (t0.mp q)⟩))
    refine ⟨K54, fun a1 => ⟨fun a2 => ⟨fun a3 => ⟨fun z => ?_, fun z => ?_⟩, fun n => ?_⟩, fun n => ?_⟩, fun n => ?_⟩
    · rw [← no (fun q => q.2 z)]; exact two
    · have := abK_y (S := GS.getD i []) (v := v) (k := k) ⟨by rw [hc]; exact q1.mp ⟨a1, a2, a3⟩, by rw [hc]; exact fun q => z (t0.mpr q)⟩
      rw [← this]; exact two
    · rw [← no (fun q => n q.1.2.2)]; exact two
    · rw [← no (fun q => n q.1.2.1)]; exact two
    · rw [← no (fun q => n q.1.1)]; exact two
theorem sp_Ref_wave {h : MH} {f : (Nat → Nat → Int32)} {l : (Nat → Nat → Int64)} {GS : List (List Nat)} (hg : RGrp f GS) (ok : ∀ S ∈ GS, GOk S) (x a b c w : Int32) : SpI k_Ref_wave [.ref 54, .int x, .int a, .int b, .int c, .int w] (sil h f l) (fun r g => WvA GS x (a.toInt, b.toInt, c.toInt) w r ∧ ∃ f', g = sil h f' l ∧ TuFr f f') := by
  have g1 := hg.1
  have t2 : (2 : Int32).toInt = 2 := rfl
  refine v_Ref_wave _ _ _ _ _ _ _ _ ⟨K54, SpI.mono (sp_Ref_isGroup hg x) ?_⟩
  rintro r g0 ⟨e0, res⟩
  subst g0
  rcases res with ⟨i, hi, rfl, rfl⟩ | ⟨ni, rfl⟩
  · refine ⟨fun q => absurd q (by decide), fun _ => SpI.mono (sp_Ref_isWave a b c) ?_⟩
    rintro r g0 ⟨e0, res⟩
    subst g0
    rcases res with ⟨rfl, bw⟩ | ⟨rfl, nb⟩
    · refine ⟨fun q => absurd q (by decide), fun _ => ?_⟩
      rw [t2]
      refine ⟨fun q => ⟨_, rfl, Or.inr ⟨fun ⟨_, _, _, _, q1, q2⟩ => by omega, rfl⟩, f, rfl, TuFr.refl⟩, fun c1 => ⟨fun q => ⟨_, rfl, Or.inr ⟨fun ⟨_, _, _, _, q1, q2⟩ => by omega, rfl⟩, f, rfl, TuFr.refl⟩, fun c2 => ?_⟩⟩
      have L := rwv_loop (h := h) (l := l) (w := w) hg hi (ok _ (gD_mem hi)) bw _ 0 f [] rfl (Nat.zero_le _) TuFr.refl ⟨List.nodup_nil, fun u hu => absurd hu List.not_mem_nil, fun j hj => absurd hj (Nat.not_lt_zero j)⟩ (fun z => ⟨fun q => absurd q List.not_mem_nil, fun ⟨j, hj, _⟩ => absurd hj (Nat.not_lt_zero j)⟩) (Nat.zero_le _)
      rw [zI_self, zI_self, zI_self] at L
      refine WM.mono' L ?_
      rintro u q ⟨r, rfl, wv, f', rfl, fr⟩
      exact ⟨_, rfl, Or.inl ⟨i, hi, rfl, bw, by omega, by omega, wv⟩, f', rfl, fr⟩
    · exact ⟨fun _ => ⟨_, rfl, Or.inr ⟨fun ⟨_, _, _, q1, _⟩ => nb q1, rfl⟩, f, rfl, TuFr.refl⟩, fun q => absurd rfl q⟩
  · refine ⟨fun _ => ⟨_, rfl, Or.inr ⟨?_, rfl⟩, f, rfl, TuFr.refl⟩, fun q => absurd rfl q⟩
    rintro ⟨i, hi, rfl, _⟩
    rw [nI_toI (by omega)] at ni
    omega
