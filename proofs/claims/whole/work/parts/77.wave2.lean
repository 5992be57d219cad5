/-! the answers of wave, in the class -/
def WvA (GS : List (List Nat)) (x : Int32) (v : V3) (w r : Int32) : Prop := (∃ i, i < GS.length ∧ x = nI i ∧ wB v 60 ∧ 0 ≤ w.toInt ∧ w.toInt ≤ 2 ∧ WvV (GS.getD i []) v w r) ∨ ((¬ ∃ i, i < GS.length ∧ x = nI i ∧ wB v 60 ∧ 0 ≤ w.toInt ∧ w.toInt ≤ 2) ∧ r = -1)
theorem WvA.fn {GS : List (List Nat)} {x : Int32} {v : V3} {w r r' : Int32} (hl : GS.length ≤ 60) (h : WvA GS x v w r) (h' : WvA GS x v w r') : r = r' := by
  rcases h with ⟨i, hi, rfl, b, w0, w2, fd⟩ | ⟨no, rfl⟩
  · rcases h' with ⟨i', hi', e1, _, _, _, fd'⟩ | ⟨no, rfl⟩
    · rw [nI_inj (by omega) (by omega)] at e1
      subst e1
      exact fd.fn fd'
    · exact absurd ⟨i, hi, rfl, b, w0, w2⟩ no
  · rcases h' with ⟨i', a1, a2, a3, a4, a5, _⟩ | ⟨_, rfl⟩
    · exact absurd ⟨i', a1, a2, a3, a4, a5⟩ no
    · rfl
theorem srt_nodupZ {S : List Int} (h : S.Pairwise (· < ·)) : S.Nodup := h.imp (fun q e => by omega)
theorem wv_loop {h : MH} {f : (Nat → Nat → Int32)} {l : (Nat → Nat → Int64)} {O : Nat → Nat} {t g : Nat} {S MK : List Nat} {v : V3} {w : Int32} (H : SS h) (ok : GOk S) (b : GrpB (sil h f l) O t g S MK) (hv : wB v 60) : ∀ d k (f1 : (Nat → Nat → Int32)) (T : List Int), S.length - k = d → k ≤ S.length → Fr [37, 38, 39, 40] f f1 → RowZ (sil h f1 l) 39 40 T → (∀ z, z ∈ T ↔ StK S v k z) → T.length ≤ 2 * k →
    WM k_Ho_wave p_Ho_wave_1 [.ref 5, Jv, .int (zI v.1), .int (zI v.2.1), .int (zI v.2.2), .int w, .ref g, .int (zI (wc v)), .int (abK S v k), .int (fxK S v k), .int (nI k), Jv, Jv] [] (sil h f1 l) 0 0 (fun u q => ∃ r, u = .int r ∧ WvV S v w r ∧ ∃ f', q = sil h f' l ∧ Fr [37, 38, 39, 40] f f') := by
  have wl := ok.2.1
  have vr := wc_rng (v := v) (by unfold wB at *; omega)
  intro d
  induction d with
  | zero =>
    intro k f1 T hd hk fr rz mem len
    have e : k = S.length := by omega
    subst e
    have b' := b.same (Kp.si2 H fr Fr.refl) (by decide)
    refine v_Ho_wave_1 _ _ _ _ _ _ _ _ _ _ _ _ ⟨b'.2.1.1, ?_⟩
    rw [b'.2.1.2.1, b'.2.2.1.2.2, nI_toI (by omega), R5_10, rz.2.1]
    exact ⟨b'.2.2.1.1, fun q => absurd q (by omega), fun _ => ⟨fun e => ⟨_, rfl, Or.inl ⟨e, rfl⟩, f1, rfl, fr⟩, fun n0 => ⟨fun e => ⟨Kd5, K39, ⟨_, rfl, Or.inr (Or.inl ⟨e, T, srt_nodupZ rz.2.2.2, mem, rfl⟩), f1, rfl, fr⟩⟩, fun n1 => ⟨_, rfl, Or.inr (Or.inr ⟨n0, n1, rfl⟩), f1, rfl, fr⟩⟩⟩⟩
  | succ d ih =>
    intro k f1 T hd hk fr rz mem len
    have kl : k < S.length := by omega
    have b' := b.same (Kp.si2 H fr Fr.refl) (by decide)
    have cb := cw_b (c := S.getD k 0) hv
    have cr := wc_rng cb
    have wl2 := wt_lt (S.getD k 0) v
    have own : zI (wc (cw (S.getD k 0) v)) = zI (wc v) ↔ cw (S.getD k 0) v = v := by
      rw [zI_inj (by omega) (by omega) (by omega) (by omega)]
      exact ⟨fun e => wc_inj cb (by unfold wB at *; omega) e, fun e => by rw [e]⟩
    have opp : zI (wc (cw (S.getD k 0) v)) = -zI (wc v) ↔ cw (S.getD k 0) v = wN v := by
      rw [zI_neg, ← wc_neg, zI_inj (by omega) (by omega) (by rw [wc_neg]; omega) (by rw [wc_neg]; omega)]
      exact ⟨fun e => wc_inj cb (wN_b (by unfold wB at *; omega)) e, fun e => by rw [e]⟩
    have t0 : nI (wt (S.getD k 0) v) = 0 ↔ wt (S.getD k 0) v = 0 := by
      show nI _ = nI 0 ↔ _
      rw [nI_inj (by omega) (by decide)]
    refine v_Ho_wave_1 _ _ _ _ _ _ _ _ _ _ _ _ ⟨b'.2.1.1, ?_⟩
    rw [b'.2.1.2.1, b'.2.2.1.2.2, b'.2.2.1.2.1, nI_toI (by omega), nI_toI (by omega), ix_nI (by omega), b'.2.2.2.1.2.2 k kl, R5_9]
    refine ⟨b'.2.2.1.1, fun _ => ⟨Kd5, b'.2.2.2.1.1, by rw [b'.2.2.2.1.2.1]; exact InB_nI kl (by omega), K36, SpV.mono (open_done (ok.c _ (getD_mem kl))) ?_⟩, fun q => absurd (by omega) q⟩
    rintro _ ⟨f2, rfl, fr2, m, s⟩
    rw [R5_9]
    refine ⟨Kd5, K36, SpI.mono (sp_column (j := 0) m (by decide)) ?_⟩
    rintro r g0 ⟨e0, rfl⟩
    subst g0
    rw [R5_9]
    refine ⟨Kd5, K36, SpI.mono (sp_column (j := 1) m (by decide)) ?_⟩
    rintro r g0 ⟨e0, rfl⟩
    subst g0
    rw [R5_9]
    refine ⟨Kd5, K36, SpI.mono (sp_column (j := 2) m (by decide)) ?_⟩
    rintro r g0 ⟨e0, rfl⟩
    subst g0
    refine SpI.mono (sp_waveCode (v := cw (S.getD k 0) v)) ?_
    rintro r g0 ⟨e0, rfl⟩
    subst g0
    rw [R5_9]
    refine ⟨Kd5, K36, SpI.mono (sp_turn s hv) ?_⟩
    rintro r g0 ⟨e0, rfl⟩
    subst g0
    have frB : Fr [37, 38, 39, 40] f f2 := fr.trans (fr2.mono (by decide))
    have rz2 : RowZ (sil h f2 l) 39 40 T := ⟨rz.1, by rw [mi_sil, fr2 39 (by decide)]; exact rz.2.1, fun j hj => by rw [mi_sil, fr2 40 (by decide)]; exact rz.2.2.1 j hj, rz.2.2.2⟩
    have three : WM k_Ho_wave p_Ho_wave_3 [.ref 5, Jv, .int (zI v.1), .int (zI v.2.1), .int (zI v.2.2), .int w, .ref g, .int (zI (wc v)), .int (abK S v (k + 1)), .int (fxK S v (k + 1)), .int (nI k), .int (zI (wc (cw (S.getD k 0) v))), Jv] [] (sil h f2 l) 0 0 (fun u q => ∃ r, u = .int r ∧ WvV S v w r ∧ ∃ f', q = sil h f' l ∧ Fr [37, 38, 39, 40] f f') := by
      refine v_Ho_wave_3 _ _ _ _ _ _ _ _ _ _ _ _ _ ⟨Kd5, ?_⟩
      rw [R5_10]
      refine ⟨K39, SpI.mono (row_put rz2 (by show T.length < 384; omega) _) ?_⟩
      rintro r g0 ⟨f3, T3, e3, fr3, rz3, mem3, len3⟩
      rw [si_sil] at e3
      subst g0
      rw [R5_10, zI_neg]
      refine ⟨Kd5, K39, SpI.mono (row_put rz3 (by show T3.length < 384; omega) _) ?_⟩
      rintro r g0 ⟨f4, T4, e4, fr4, rz4, mem4, len4⟩
      rw [si_sil] at e4
      subst g0
      rw [nI_1]
      refine ih (k + 1) f4 T4 (by omega) (by omega) ((frB.trans (Fr.mono fr3 (by decide))).trans (Fr.mono fr4 (by decide))) rz4 (fun z => ?_) (by omega)
      rw [mem4 z, mem3 z, mem z, zI_toI (by omega) (by omega), zI_toI (by omega) (by omega)]
      constructor
      · rintro (q | q | ⟨j, hj, e⟩)
        · exact ⟨k, by omega, Or.inr q⟩
        · exact ⟨k, by omega, Or.inl q⟩
        · exact ⟨j, by omega, e⟩
      · rintro ⟨j, hj, e⟩
        by_cases q : j = k
        · subst q
          rcases e with e | e
          · exact Or.inr (Or.inl e)
          · exact Or.inl e
        · exact Or.inr (Or.inr ⟨j, by omega, e⟩)
    have two : WM k_Ho_wave p_Ho_wave_2 [.ref 5, Jv, .int (zI v.1), .int (zI v.2.1), .int (zI v.2.2), .int w, .ref g, .int (zI (wc v)), .int (abK S v (k + 1)), .int (fxK S v k), .int (nI k), .int (zI (wc (cw (S.getD k 0) v))), .int (nI (wt (S.getD k 0) v))] [] (sil h f2 l) 0 0 (fun u q => ∃ r, u = .int r ∧ WvV S v w r ∧ ∃ f', q = sil h f' l ∧ Fr [37, 38, 39, 40] f f') := by
      refine v_Ho_wave_2 _ _ _ _ _ _ _ _ _ _ _ _ _ _ ⟨fun q => ⟨fun n => ?_, fun n => ?_⟩, fun q => ?_⟩
      · rw [← fxK_y ⟨opp.mp q, n⟩]; exact three
      · rw [← fxK_n (fun w => n w.2)]; exact three
      · rw [← fxK_n (fun w => q (opp.mpr w.1))]; exact three
    refine ⟨fun q => ⟨fun z => ?_, fun z => ?_⟩, fun q => ?_⟩
    · rw [← abK_n (fun w => w.2 (t0.mp z))]; exact two
    · rw [← abK_y ⟨own.mp q, fun w => z (t0.mpr w)⟩]; exact two
    · rw [← abK_n (fun w => q (own.mpr w.1))]; exact two
theorem sp_Ho_wave {h : MH} {O : Nat → Nat} {GS : List (List Nat)} (H : SS h) (hg : HGrp h O GS) (x a b c w : Int32) : SpI k_Ho_wave [.ref 5, .int x, .int a, .int b, .int c, .int w] h (fun r g => WvA GS x (a.toInt, b.toInt, c.toInt) w r ∧ Kp [37, 38, 39, 40] h g) := by
  have g1 := hg.1
  have t2 : (2 : Int32).toInt = 2 := rfl
  refine v_Ho_wave _ _ _ _ _ _ _ _ ⟨H.k5, SpR.mono (sp_Ho_groupAt H hg x) ?_⟩
  rintro r g0 ⟨e0, res⟩
  subst g0
  rcases res with ⟨i, hi, rfl, rfl, nz⟩ | ⟨ni, rfl⟩
  · obtain ⟨ok, ⟨MK, bb, cl⟩, _⟩ := hg.at hi
    refine ⟨fun q => absurd q nz, fun _ => ?_⟩
    rw [t2]
    refine ⟨fun q => ⟨_, rfl, Or.inr ⟨fun ⟨_, _, _, _, q1, q2⟩ => by omega, rfl⟩, Kp.refl H⟩, fun c1 => ⟨fun q => ⟨_, rfl, Or.inr ⟨fun ⟨_, _, _, _, q1, q2⟩ => by omega, rfl⟩, Kp.refl H⟩, fun c2 => SpI.mono (sp_Ho_isWave a b c) ?_⟩⟩
    rintro r g0 ⟨e0, res⟩
    subst g0
    rcases res with ⟨rfl, bw⟩ | ⟨rfl, nb⟩
    · refine ⟨fun q => absurd q (by decide), fun _ => ?_⟩
      have A := sp_waveCode (h := h) (v := (a.toInt, b.toInt, c.toInt))
      rw [zI_self, zI_self, zI_self] at A
      refine SpI.mono A ?_
      rintro r g0 ⟨e0, rfl⟩
      subst g0
      have e39 : mr h 5 10 = 39 := H.2.2.2 (5, 10, 39) (by decide)
      rw [e39]
      refine ⟨H.k5, H.k39, v_Row_clear _ _ _ ⟨H.k39, ?_⟩⟩
      rintro _ rfl
      have bs : GrpB (sil h (mi h) (ml h)) O i (mr h 29 i) (GS.getD i []) MK := by rw [← H.sil]; exact bb
      have L := wv_loop (w := w) H ok bs bw _ 0 (up2 (mi h) 39 1 0) [] rfl (Nat.zero_le _) (Fr.refl.up (by decide)) ⟨⟨K39, R39_0, K40, Nat.zero_le _, by show 384 ≤ 1000; decide, by decide⟩, by rw [mi_sil, up2_s]; rfl, fun j hj => absurd hj (Nat.not_lt_zero j), List.Pairwise.nil⟩ (fun z => ⟨fun q => absurd q List.not_mem_nil, fun ⟨j, hj, _⟩ => absurd hj (Nat.not_lt_zero j)⟩) (Nat.zero_le _)
      rw [zI_self, zI_self, zI_self] at L
      have eh : wi h 39 1 0 = sil h (up2 (mi h) 39 1 0) (ml h) := by
        rw [← wi_sil, ← H.sil]
      rw [eh]
      refine WM.mono' L ?_
      rintro u q ⟨r, rfl, wv, f', rfl, fr⟩
      exact ⟨_, rfl, Or.inl ⟨i, hi, rfl, bw, by omega, by omega, wv⟩, Kp.si3 H fr Fr.refl⟩
    · exact ⟨fun _ => ⟨_, rfl, Or.inr ⟨fun ⟨_, _, _, q1, _⟩ => nb q1, rfl⟩, Kp.refl H⟩, fun q => absurd rfl q⟩
  · refine ⟨fun _ => ⟨_, rfl, Or.inr ⟨?_, rfl⟩, Kp.refl H⟩, fun q => absurd rfl q⟩
    rintro ⟨i, hi, rfl, _⟩
    rw [nI_toI (by omega)] at ni
    omega
