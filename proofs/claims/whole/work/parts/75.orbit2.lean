/-! the answers of orbit -/
def OrbV (S : List Nat) (p : Nat) (w r : Int32) : Prop := (w = -2 ∧ r = nI (keepL S p).length) ∨ (w = -3 ∧ ∃ i, CtOK (keepL S p) i ∧ r = nI (i + 1)) ∨ (w ≠ -2 ∧ w ≠ -3 ∧ ∃ T, Orb S p T ∧ ((w = -1 ∧ r = nI T.length) ∨ (w ≠ -1 ∧ ((∃ k, k < T.length ∧ w = nI k ∧ r = zI (T.getD k 0)) ∨ ((¬ ∃ k, k < T.length ∧ w = nI k) ∧ r = -1)))))
theorem clT_inj : ∀ i, i < 32 → ∀ j, j < 32 → clT.getD i [] = clT.getD j [] → i = j := by decide
theorem CtOK.fn {B : List Nat} {i j : Nat} (h : CtOK B i) (h' : CtOK B j) : i = j := clT_inj i h.1 j h'.1 (h.2.symm.trans h'.2)
theorem OrbV.fn {S : List Nat} {p : Nat} {w r r' : Int32} (ok : GOk S) (h : OrbV S p w r) (h' : OrbV S p w r') : r = r' := by
  rcases h with ⟨rfl, rfl⟩ | ⟨rfl, i, ci, rfl⟩ | ⟨n2, n3, T, oT, h⟩
  · rcases h' with ⟨_, rfl⟩ | ⟨e, _⟩ | ⟨n2, _⟩
    · rfl
    · exact absurd e (by decide)
    · exact absurd rfl n2
  · rcases h' with ⟨e, _⟩ | ⟨_, j, cj, rfl⟩ | ⟨_, n3, _⟩
    · exact absurd e (by decide)
    · rw [ci.fn cj]
    · exact absurd rfl n3
  · rcases h' with ⟨e, _⟩ | ⟨e, _⟩ | ⟨_, _, T', oT', h'⟩
    · exact absurd e n2
    · exact absurd e n3
    · have := oT.fn oT'
      subst this
      rcases h with ⟨e, rfl⟩ | ⟨n1, h⟩
      · rcases h' with ⟨_, rfl⟩ | ⟨n1, _⟩
        · rfl
        · exact absurd e n1
      · rcases h' with ⟨e, _⟩ | ⟨_, h'⟩
        · exact absurd e n1
        · have lT : T.length < 1000000 := by
            have : T.length ≤ 13824 := by
              have := sub_len (T.map Int.toNat) (List.range 13824) ?_ ?_
              · rw [List.length_map, List.length_range] at this; exact this
              · refine List.pairwise_map.mpr ((List.Pairwise.and_mem.mp oT.1).imp ?_)
                rintro a b ⟨ha, hb, lt⟩
                have := oT.rng a ha
                have := oT.rng b hb
                omega
              · intro y hy
                obtain ⟨z, hz, e⟩ := List.mem_map.mp hy
                have := oT.rng z hz
                exact List.mem_range.mpr (by omega)
            omega
          rcases h with ⟨k, hk, rfl, rfl⟩ | ⟨no, rfl⟩
          · rcases h' with ⟨k', hk', e, rfl⟩ | ⟨no, _⟩
            · rw [nI_inj (by omega) (by omega)] at e
              rw [e]
            · exact absurd ⟨k, hk, rfl⟩ no
          · rcases h' with ⟨k', hk', e, rfl⟩ | ⟨_, rfl⟩
            · exact absurd ⟨k', hk', e⟩ no
            · rfl
def OrbA (GS : List (List Nat)) (x y w r : Int32) : Prop := (∃ i p, i < GS.length ∧ p < 13824 ∧ x = nI i ∧ y = nI p ∧ OrbV (GS.getD i []) p w r) ∨ ((¬ ∃ i p, i < GS.length ∧ p < 13824 ∧ x = nI i ∧ y = nI p) ∧ r = -1)
theorem OrbA.fn {GS : List (List Nat)} {x y w r r' : Int32} (hl : GS.length ≤ 60) (ok : ∀ S ∈ GS, GOk S) (h : OrbA GS x y w r) (h' : OrbA GS x y w r') : r = r' := by
  rcases h with ⟨i, j, hi, hj, rfl, rfl, fd⟩ | ⟨no, rfl⟩
  · rcases h' with ⟨i', j', hi', hj', e1, e2, fd'⟩ | ⟨no, rfl⟩
    · rw [nI_inj (by omega) (by omega)] at e1 e2
      subst e1 e2
      exact fd.fn (ok _ (gD_mem hi)) fd'
    · exact absurd ⟨i, j, hi, hj, rfl, rfl⟩ no
  · rcases h' with ⟨i', j', a1, a2, a3, a4, _⟩ | ⟨_, rfl⟩
    · exact absurd ⟨i', j', a1, a2, a3, a4⟩ no
    · rfl
theorem orb_no {GS : List (List Nat)} {i : Nat} (hl : GS.length ≤ 60) (hi : i < GS.length) {y : Int32} (q : ¬ (0 ≤ y.toInt ∧ y.toInt < 13824)) : ¬ ∃ i' p, i' < GS.length ∧ p < 13824 ∧ nI i = nI i' ∧ y = nI p := by
  rintro ⟨i', p, _, hp, _, rfl⟩
  rw [nI_toI (by omega)] at q
  omega
theorem orb_no2 {GS : List (List Nat)} (hl : GS.length ≤ 60) {x y : Int32} (q : ¬ (0 ≤ x.toInt ∧ x.toInt < GS.length)) : ¬ ∃ i' p, i' < GS.length ∧ p < 13824 ∧ x = nI i' ∧ y = nI p := by
  rintro ⟨i', p, hi', hp, rfl, _⟩
  rw [nI_toI (by omega)] at q
  omega
theorem w_no {T : List Int} {w : Int32} (hT : T.length ≤ 192) (q : ¬ (0 ≤ w.toInt ∧ w.toInt < T.length)) : ¬ ∃ k, k < T.length ∧ w = nI k := by
  rintro ⟨k, hk, rfl⟩
  rw [nI_toI (by omega)] at q
  omega
theorem sp_Ho_orbit {h : MH} {O : Nat → Nat} {GS : List (List Nat)} (H : SS h) (hg : HGrp h O GS) (hk : KeysAt (mi h)) (site : ∀ S ∈ GS, ∀ p, p < 13824 → ∃ i, CtOK (keepL S p) i) (x y w : Int32) : SpI k_Ho_orbit [.ref 5, .int x, .int y, .int w] h (fun r g => OrbA GS x y w r ∧ Kp [37, 38, 39, 40] h g) := by
  have g1 := hg.1
  have t : (13824 : Int32).toInt = 13824 := rfl
  refine v_Ho_orbit _ _ _ _ _ _ ⟨H.k5, SpR.mono (sp_Ho_groupAt H hg x) ?_⟩
  rintro r g0 ⟨e0, res⟩
  subst g0
  rcases res with ⟨i, hi, rfl, rfl, nz⟩ | ⟨ni, rfl⟩
  · obtain ⟨ok, ⟨MK, b, cl⟩, _⟩ := hg.at hi
    refine ⟨fun c => absurd c nz, fun _ => ⟨fun c => ⟨_, rfl, Or.inr ⟨orb_no g1 hi (by omega), rfl⟩, Kp.refl H⟩, fun c1 => ?_⟩⟩
    rw [t]
    refine ⟨fun c2 => ?_, fun c => ⟨_, rfl, Or.inr ⟨orb_no g1 hi (by omega), rfl⟩, Kp.refl H⟩⟩
    obtain ⟨p, rfl, hp⟩ := op_x (n := 13824) c1 (by omega) (by omega)
    obtain ⟨ci, ct⟩ := site _ (gD_mem hi) p hp
    have bs : GrpB (sil h (mi h) (ml h)) O i (mr h 29 i) (GS.getD i []) MK := by rw [← H.sil]; exact b
    have keep : ∀ w, w = -2 ∨ w = -3 → WM k_Ho_orbit p_Ho_orbit_1 [.ref 5, Jv, .int (nI p), .int w, .ref (mr h 29 i)] [] h 0 0 (fun v g => ∃ r, v = .int r ∧ OrbA GS (nI i) (nI p) w r ∧ Kp [37, 38, 39, 40] h g) := by
      intro w hw
      have A := sp_Ho_keepersOf (h := h) (f := mi h) (l := ml h) H ok bs hk hp ct
      rw [← H.sil] at A
      refine v_Ho_orbit_1 _ _ _ _ _ _ ⟨fun e => ⟨H.k5, SpI.mono (A 1) ?_⟩, fun n => ⟨H.k5, SpI.mono (A 0) ?_⟩⟩
      · rintro r _ ⟨_, r1, f', rfl, fr⟩
        exact ⟨_, rfl, Or.inl ⟨i, p, hi, hp, rfl, rfl, Or.inr (Or.inl ⟨e, ci, ct, r1 (by decide)⟩)⟩, Kp.si3 H (fr.mono (by decide)) Fr.refl⟩
      · rintro r _ ⟨r0, _, f', rfl, fr⟩
        have e : w = -2 := by
          rcases hw with q | q
          · exact q
          · exact absurd q n
        exact ⟨_, rfl, Or.inl ⟨i, p, hi, hp, rfl, rfl, Or.inl ⟨e, r0 rfl⟩⟩, Kp.si3 H (fr.mono (by decide)) Fr.refl⟩
    refine ⟨fun e => keep w (Or.inl e), fun n2 => ⟨fun e => keep w (Or.inr e), fun n3 => ⟨H.k5, ?_⟩⟩⟩
    have A := sp_Ho_gatherOrbit (h := h) (f := mi h) (l := ml h) H ok bs hp
    rw [← H.sil] at A
    refine SpV.mono A ?_
    rintro _ ⟨f', T, rfl, fr, rz, ob, lT⟩
    have kp : Kp [37, 38, 39, 40] h (sil h f' (ml h)) := Kp.si3 H fr Fr.refl
    rw [R5_10, R39_0, rz.2.1, nI_toI (by omega)]
    refine ⟨fun e => ⟨Kd5, K39, ⟨_, rfl, Or.inl ⟨i, p, hi, hp, rfl, rfl, Or.inr (Or.inr ⟨n2, n3, T, ob, Or.inl ⟨e, rfl⟩⟩)⟩, kp⟩⟩, fun n1 => ⟨fun c => ⟨_, rfl, Or.inl ⟨i, p, hi, hp, rfl, rfl, Or.inr (Or.inr ⟨n2, n3, T, ob, Or.inr ⟨n1, Or.inr ⟨w_no lT (by omega), rfl⟩⟩⟩)⟩, kp⟩, fun c3 => ⟨Kd5, K39, fun c4 => ?_, fun c => ⟨_, rfl, Or.inl ⟨i, p, hi, hp, rfl, rfl, Or.inr (Or.inr ⟨n2, n3, T, ob, Or.inr ⟨n1, Or.inr ⟨w_no lT (by omega), rfl⟩⟩⟩)⟩, kp⟩⟩⟩⟩
    obtain ⟨k, rfl, hk'⟩ := op_x c3 c4 (by omega)
    rw [ix_nI (by omega)]
    exact ⟨K40, InB_nI (show k < 384 by omega) (by omega), ⟨_, rfl, Or.inl ⟨i, p, hi, hp, rfl, rfl, Or.inr (Or.inr ⟨n2, n3, T, ob, Or.inr ⟨n1, Or.inl ⟨k, hk', rfl, of_toI (rz.2.2.1 k hk')⟩⟩⟩)⟩, kp⟩⟩
  · exact ⟨fun _ => ⟨_, rfl, Or.inr ⟨orb_no2 g1 ni, rfl⟩, Kp.refl H⟩, fun c => absurd rfl c⟩
theorem sp_Ref_orbit {h : MH} {f : (Nat → Nat → Int32)} {l : (Nat → Nat → Int64)} {GS : List (List Nat)} (hg : RGrp f GS) (ok : ∀ S ∈ GS, GOk S) (site : ∀ S ∈ GS, ∀ p, p < 13824 → ∃ i, CtOK (keepL S p) i) (x y w : Int32) : SpI k_Ref_orbit [.ref 54, .int x, .int y, .int w] (sil h f l) (fun r g => OrbA GS x y w r ∧ ∃ f', g = sil h f' l ∧ Fr [57, 58, 74, 75, 97] f f') := by
  have g1 := hg.1
  have t : (13824 : Int32).toInt = 13824 := rfl
  refine v_Ref_orbit _ _ _ _ _ _ ⟨K54, SpI.mono (sp_Ref_isGroup hg x) ?_⟩
  rintro r g0 ⟨e0, res⟩
  subst g0
  rcases res with ⟨i, hi, rfl, rfl⟩ | ⟨ni, rfl⟩
  · have oS := ok _ (gD_mem hi)
    have w' := oS.2.1
    refine ⟨fun c => absurd c (by decide), fun _ => ⟨fun c => ⟨_, rfl, Or.inr ⟨orb_no g1 hi (by omega), rfl⟩, f, rfl, Fr.refl⟩, fun c1 => ?_⟩⟩
    rw [t]
    refine ⟨fun c2 => ?_, fun c => ⟨_, rfl, Or.inr ⟨orb_no g1 hi (by omega), rfl⟩, f, rfl, Fr.refl⟩⟩
    obtain ⟨p, rfl, hp⟩ := op_x (n := 13824) c1 (by omega) (by omega)
    obtain ⟨ci, ct⟩ := site _ (gD_mem hi) p hp
    have keep : ∀ w, w = -2 ∨ w = -3 → ∀ d k (f1 : (Nat → Nat → Int32)), (GS.getD i []).length - k = d → k ≤ (GS.getD i []).length → Fr [57, 58, 97] f f1 → (∀ j, j < (kpK (GS.getD i []) p k).length → f1 97 j = nI ((kpK (GS.getD i []) p k).getD j 0)) →
        WM k_Ref_orbit p_Ref_orbit_1 [.ref 54, .int (nI i), .int (nI p), .int w, .int (nI (kpK (GS.getD i []) p k).length), .int (nI k)] [] (sil h f1 l) 0 0 (fun v g => ∃ r, v = .int r ∧ OrbA GS (nI i) (nI p) w r ∧ ∃ f', g = sil h f' l ∧ Fr [57, 58, 74, 75, 97] f f') := by
      intro w hw d
      induction d with
      | zero =>
        intro k f1 hd hk fr ar
        have e : k = (GS.getD i []).length := by omega
        subst e
        have gi := (hg.fr (f' := f1) (by rw [fr 54 (by decide)]) (fr 64 (by decide)) (fr 65 (by decide))).2.2.2 i hi
        have kl := kpK_len (S := GS.getD i []) (p := p) (GS.getD i []).length
        refine v_Ref_orbit_1 _ _ _ _ _ _ _ _ ⟨K54, ?_⟩
        rw [R54_16, R54_61, ix_nI (by omega), mi_sil, gi.1, nI_toI (by omega)]
        refine ⟨K65, InB_nI (show i < 60 by omega) (by omega), fun q => absurd q (by omega), fun _ => ⟨fun e => ⟨_, rfl, Or.inl ⟨i, p, hi, hp, rfl, rfl, Or.inl ⟨e, rfl⟩⟩, f1, rfl, fr.mono (by decide)⟩, fun n => ?_⟩⟩
        have e3 : w = -3 := by
          rcases hw with q | q
          · exact absurd q n
          · exact q
        have ct2 : CtOK (brK (keepL (GS.getD i []) p) (keepL (GS.getD i []) p).length) ci := by rw [keepL_br oS]; exact ct
        refine SpI.mono (sp_Ref_classOf (L := keepL (GS.getD i []) p) (a := 97) (from_ := 0) (by decide) rfl (by show 0 + (kpK (GS.getD i []) p (GS.getD i []).length).length ≤ 200; omega) (by show (kpK (GS.getD i []) p (GS.getD i []).length).length ≤ 192; omega) (by decide) (by decide) (fun j hj => by rw [Nat.zero_add]; exact ar j hj) (keepL_op oS) ct2) ?_
        rintro r _ ⟨er, f2, rfl, fr2⟩
        exact ⟨_, rfl, Or.inl ⟨i, p, hi, hp, rfl, rfl, Or.inr (Or.inl ⟨e3, ci, ct, er⟩)⟩, f2, rfl, (fr.mono (by decide)).trans (fr2.mono (by decide))⟩
      | succ d ih =>
        intro k f1 hd hk fr ar
        have kl : k < (GS.getD i []).length := by omega
        have mb := mvC_lt ((GS.getD i []).getD k 0) p
        have kn := kpK_len (S := GS.getD i []) (p := p) k
        have gi := (hg.fr (f' := f1) (by rw [fr 54 (by decide)]) (fr 64 (by decide)) (fr 65 (by decide))).2.2.2 i hi
        refine v_Ref_orbit_1 _ _ _ _ _ _ _ _ ⟨K54, ?_⟩
        rw [R54_16, R54_15, show (192 : Int32) = nI 192 from rfl, nI_mul, nI_add, ix_nI (by omega), ix_nI (by omega), mi_sil, gi.1, gi.2 k kl, nI_toI (by omega), nI_toI (by omega)]
        refine ⟨K65, InB_nI (show i < 60 by omega) (by omega), fun _ => ⟨K64, InB_nI (show 192 * i + k < 11520 by omega) (by omega), SpI.mono (sp_Ref_taken (oS.c _ (getD_mem kl)) hp) ?_⟩, fun c => absurd (by omega) c⟩
        rintro r _ ⟨rfl, f2, rfl, fr2⟩
        have gi2 := (hg.fr (f' := f2) (by rw [fr2 54 (by decide), fr 54 (by decide)]) ((fr2 64 (by decide)).trans (fr 64 (by decide))) ((fr2 65 (by decide)).trans (fr 65 (by decide)))).2.2.2 i hi
        rw [nI_inj (by omega) (by omega)]
        refine ⟨fun y => ⟨K54, ?_⟩, fun n => ?_⟩
        · rw [R54_15, R54_61, ix_nI (by omega), mi_sil, gi2.2 k kl, nI_1, nI_1]
          refine ⟨K64, InB_nI (show 192 * i + k < 11520 by omega) (by omega), K97, InB_nI (show (kpK (GS.getD i []) p k).length < 200 by omega) (by omega), ?_⟩
          rintro _ rfl
          have en : (kpK (GS.getD i []) p k).length + 1 = (kpK (GS.getD i []) p (k + 1)).length := by rw [kpK_y y, List.length_append]; rfl
          rw [wi_sil, en]
          refine ih (k + 1) _ (by omega) (by omega) ((fr.trans (fr2.mono (by decide))).up (by decide)) (fun j hj => ?_)
          rw [← en] at hj
          rw [kpK_y y]
          by_cases e : j = (kpK (GS.getD i []) p k).length
          · subst e; rw [up2_s, getD_end]
          · rw [up2_ni e, getD_left (by omega), fr2 97 (by decide)]; exact ar j (by omega)
        · rw [nI_1, ← kpK_n n]
          refine ih (k + 1) f2 (by omega) (by omega) (fr.trans (fr2.mono (by decide))) (fun j hj => ?_)
          rw [kpK_n n] at hj ⊢
          rw [fr2 97 (by decide)]; exact ar j hj
    have keep0 : ∀ w, w = -2 ∨ w = -3 → WM k_Ref_orbit p_Ref_orbit_1 [.ref 54, .int (nI i), .int (nI p), .int w, .int (0), .int (0)] [] (sil h f l) 0 0 (fun v g => ∃ r, v = .int r ∧ OrbA GS (nI i) (nI p) w r ∧ ∃ f', g = sil h f' l ∧ Fr [57, 58, 74, 75, 97] f f') := fun w hw => keep w hw _ 0 f rfl (Nat.zero_le _) Fr.refl (fun j hj => absurd hj (Nat.not_lt_zero j))
    refine ⟨fun e => ⟨K54, SpI.mono (sp_Ref_orbitOf hg hi hp) ?_⟩, fun n1 => ⟨fun e => keep0 w (Or.inl e), fun n2 => ⟨fun e => keep0 w (Or.inr e), fun n3 => ⟨K54, SpI.mono (sp_Ref_orbitOf hg hi hp) ?_⟩⟩⟩⟩
    · rintro r _ ⟨f', T, rfl, fr, rfl, ar, ob, lT⟩
      exact ⟨_, rfl, Or.inl ⟨i, p, hi, hp, rfl, rfl, Or.inr (Or.inr ⟨by rw [e]; decide, by rw [e]; decide, T, ob, Or.inl ⟨e, rfl⟩⟩)⟩, f', rfl, fr.mono (by decide)⟩
    · rintro r _ ⟨f', T, rfl, fr, rfl, ar, ob, lT⟩
      rw [nI_toI (by omega), R54_27]
      have two : ∀ q, ¬ (0 ≤ w.toInt ∧ w.toInt < T.length) → q = true → WM k_Ref_orbit p_Ref_orbit_2 [Jv, Jv, Jv, Jv, Jv, Jv] [] (sil h f' l) 0 0 (fun v g => ∃ r, v = .int r ∧ OrbA GS (nI i) (nI p) w r ∧ ∃ f', g = sil h f' l ∧ Fr [57, 58, 74, 75, 97] f f') := fun _ q _ =>
        v_Ref_orbit_2 _ _ ⟨_, rfl, Or.inl ⟨i, p, hi, hp, rfl, rfl, Or.inr (Or.inr ⟨n2, n3, T, ob, Or.inr ⟨n1, Or.inr ⟨w_no lT q, rfl⟩⟩⟩)⟩, f', rfl, fr.mono (by decide)⟩
      refine ⟨fun c => two true (by omega) rfl, fun c3 => ⟨fun c4 => ?_, fun c => two true (by omega) rfl⟩⟩
      obtain ⟨k, rfl, hk'⟩ := op_x c3 c4 (by omega)
      rw [ix_nI (by omega)]
      exact ⟨K54, K74, InB_nI (show k < 200 by omega) (by omega), ⟨_, rfl, Or.inl ⟨i, p, hi, hp, rfl, rfl, Or.inr (Or.inr ⟨n2, n3, T, ob, Or.inr ⟨n1, Or.inl ⟨k, hk', rfl, of_toI (ar k hk')⟩⟩⟩)⟩, f', rfl, fr.mono (by decide)⟩⟩
  · exact ⟨fun _ => ⟨_, rfl, Or.inr ⟨orb_no2 g1 ni, rfl⟩, f, rfl, Fr.refl⟩, fun c => absurd rfl c⟩
