/-! read, choose, phase, above -/
def RdQ (s : Sta) (r : Int32) (s' : Sta) : Prop := match rdC s.1.2.2.1 s.1.2.1 with
  | .error e => r = zI (-1) ∧ s' = ((s.1.1, 0, s.1.2.2.1, nI e.1, nI e.2), s.2)
  | .ok c => if s.2.2.1.length = 40 then r = zI (-1) ∧ s' = ((s.1.1, 0, s.1.2.2.1, nI 5, zI (-1)), s.2) else r = nI s.2.2.1.length ∧ s' = ((s.1.1, 0, s.1.2.2.1, nI 0, zI (-1)), s.2.1, s.2.2.1 ++ [c], s.2.2.2)
theorem RdQ_e {s s' : Sta} {r : Int32} {e : Nat × Nat} (h : rdC s.1.2.2.1 s.1.2.1 = .error e) : RdQ s r s' ↔ (r = zI (-1) ∧ s' = ((s.1.1, 0, s.1.2.2.1, nI e.1, nI e.2), s.2)) := by unfold RdQ; rw [h]
theorem RdQ_f {s s' : Sta} {r : Int32} {c : Nat} (h : rdC s.1.2.2.1 s.1.2.1 = .ok c) (l : s.2.2.1.length = 40) : RdQ s r s' ↔ (r = zI (-1) ∧ s' = ((s.1.1, 0, s.1.2.2.1, nI 5, zI (-1)), s.2)) := by unfold RdQ; rw [h]; dsimp only; rw [if_pos l]
theorem RdQ_k {s s' : Sta} {r : Int32} {c : Nat} (h : rdC s.1.2.2.1 s.1.2.1 = .ok c) (l : ¬ s.2.2.1.length = 40) : RdQ s r s' ↔ (r = nI s.2.2.1.length ∧ s' = ((s.1.1, 0, s.1.2.2.1, nI 0, zI (-1)), s.2.1, s.2.2.1 ++ [c], s.2.2.2)) := by unfold RdQ; rw [h]; dsimp only; rw [if_neg l]
theorem RdQ.fn {s s1 s2 : Sta} {r r' : Int32} (h : RdQ s r s1) (h' : RdQ s r' s2) : r = r' ∧ s1 = s2 := by
  cases q : rdC s.1.2.2.1 s.1.2.1 with
  | error e =>
    rw [RdQ_e q] at h h'
    exact ⟨h.1.trans h'.1.symm, h.2.trans h'.2.symm⟩
  | ok c =>
    by_cases l : s.2.2.1.length = 40
    · rw [RdQ_f q l] at h h'
      exact ⟨h.1.trans h'.1.symm, h.2.trans h'.2.symm⟩
    · rw [RdQ_k q l] at h h'
      exact ⟨h.1.trans h'.1.symm, h.2.trans h'.2.symm⟩
theorem rd_cl {h : MH} {f' : (Nat → Nat → Int32)} {X : TxS} {OU TD : List Nat} {CH : Nat → Prop} {GS : List (List Nat)} {CS : List S6} {MS : List Mdl} {PH : List Ph} {u v : Int32} (H : SS h) (cl : ClS h (X, OU, TD, CH, GS, CS, MS, PH)) (fp : FP (mi h) f') (e2 : f' 6 2 = nI 0) (e4 : f' 6 4 = u) (e5 : f' 6 5 = v) :
    ClS (sil h f' (ml h)) ((X.1, 0, X.2.2.1, u, v), OU, TD, CH, GS, CS, MS, PH) ∧ CK h (sil h f' (ml h)) := by
  obtain ⟨O, sm, _⟩ := id cl
  obtain ⟨fr, e8⟩ := fp
  refine cl.sm H (A := [6, 10, 11]) (l' := ml h) fr Fr.refl (by decide) (fun j _ => by rw [fr 5 (by decide)]) (sm.ch (fun x hx => fr x ?_) rfl ⟨⟨fun j hj => by rw [fr 7 (by decide)]; exact sm.1.1 j hj, ⟨e2, Nat.zero_le _⟩, by rw [fr 8 (by decide)]; exact sm.1.2.2.1, e4, e5⟩, sm.2.1.fr e8 (fr 12 (by decide)), sm.2.2.1.fr (by rw [fr 5 (by decide)]) (fr 13 (by decide)), sm.2.2.2.1.fr (fr 14 (by decide))⟩)
  have : ∀ x ∈ [2, 3, 4, 50, 51, 52], x ∉ [6, 10, 11] := by decide
  exact this x hx
theorem rd_rf {g : MH} {f' : (Nat → Nat → Int32)} {X : TxS} {OU TD : List Nat} {CH : Nat → Prop} {GS : List (List Nat)} {CS : List S6} {MS : List Mdl} {PH : List Ph} {u v : Int32} (r : RfS (mi g) (ml g) (X, OU, TD, CH, GS, CS, MS, PH)) (fq : FQ (mi g) f') (e2 : f' 54 9 = nI 0) (e4 : f' 54 10 = u) (e5 : f' 54 11 = v) :
    RfS f' (ml g) ((X.1, 0, X.2.2.1, u, v), OU, TD, CH, GS, CS, MS, PH) ∧ Fr RF (mi g) f' := by
  obtain ⟨r1, r2, r3, r4, r5⟩ := r.1
  obtain ⟨fr, f5⟩ := fq
  have g5 : ∀ j ∈ [1, 14, 17, 32, 35, 36, 37, 45, 50, 51, 52, 56], f' 54 j = mi g 54 j := fun j hj => by
    have : ∀ j ∈ [1, 14, 17, 32, 35, 36, 37, 45, 50, 51, 52, 56], j ≠ 9 ∧ j ≠ 10 ∧ j ≠ 11 ∧ j ≠ 12 := by decide
    obtain ⟨b1, b2, b3, b4⟩ := this j hj
    exact f5 j b1 b2 b3 b4
  refine ⟨r.ch (fun j hj => g5 j ?_) (fun x hx => fr x ?_) (fun _ _ => rfl) ⟨⟨fun j hj => by rw [fr 61 (by decide)]; exact r1.1 j hj, ⟨e2, Nat.zero_le _⟩, by rw [fr 62 (by decide)]; exact r1.2.2.1, e4, e5⟩, r2.fr (g5 14 (by decide)) (fr 63 (by decide)), r3.fr (g5 1 (by decide)) (fr 55 (by decide)), r4.fr (fr 56 (by decide)), r5.fr2 (g5 56 (by decide)) (fr 92 (by decide)) (fr 93 (by decide)) rfl⟩, fr.mono (by decide)⟩
  · have : ∀ j ∈ [17, 32, 35, 36, 37, 45, 50, 51, 52], j ∈ [1, 14, 17, 32, 35, 36, 37, 45, 50, 51, 52, 56] := by decide
    exact this j hj
  · have : ∀ x ∈ [64, 65, 67, 68, 69, 78, 81, 82, 83, 84, 85, 86, 87, 90], x ∉ [54, 95, 96] := by decide
    exact this x hx
theorem q_read : C_read IvW IvW := by
  rintro h H ⟨s, pu, cl, rf⟩
  obtain ⟨X, OU, TD, CH, GS, CS, MS, PH⟩ := s
  obtain ⟨O, sm, _⟩ := id cl
  have l40 := sm.2.2.1.1
  have n100 := sm.1.2.1.2
  have A := sp_Ho_read (h := h) (f := mi h) (l := ml h) sm.1.2.1.1 n100 sm.2.2.1.2.2.1 l40
  rw [← H.sil, sm.1.2.2.1] at A
  refine pI (Q := fun r s' => RdQ (X, OU, TD, CH, GS, CS, MS, PH) r s') (Q' := fun r s' => RdQ (X, OU, TD, CH, GS, CS, MS, PH) r s') H rf (SpI.mono A ?_) (fun g hS r => ?_) (fun s1 s2 r r' q q' => RdQ.fn q q') ?_
  · rintro r g ⟨f', rfl, hr⟩
    cases q : rdC X.2.2.1 X.2.1 with
    | error e =>
      rw [q] at hr
      obtain ⟨rfl, fp, e2, e4, e5⟩ := hr
      exact ⟨((X.1, 0, X.2.2.1, nI e.1, nI e.2), OU, TD, CH, GS, CS, MS, PH), (RdQ_e (s := (X, OU, TD, CH, GS, CS, MS, PH)) q).mpr ⟨rfl, rfl⟩, rd_cl H cl fp e2 e4 e5⟩
    | ok c =>
      rw [q] at hr
      obtain ⟨hc, hr⟩ := hr
      by_cases l : TD.length = 40
      · rw [if_pos l] at hr
        obtain ⟨rfl, fp, e2, e4, e5⟩ := hr
        exact ⟨((X.1, 0, X.2.2.1, nI 5, zI (-1)), OU, TD, CH, GS, CS, MS, PH), (RdQ_f (s := (X, OU, TD, CH, GS, CS, MS, PH)) q l).mpr ⟨rfl, rfl⟩, rd_cl H cl fp e2 e4 e5⟩
      · rw [if_neg l] at hr
        obtain ⟨rfl, f1, fp, e2, e4, e5, rfl⟩ := hr
        refine ⟨((X.1, 0, X.2.2.1, nI 0, zI (-1)), OU, TD ++ [c], CH, GS, CS, MS, PH), (RdQ_k (s := (X, OU, TD, CH, GS, CS, MS, PH)) q l).mpr ⟨rfl, rfl⟩, keep_cl H cl fp.1 (by decide) (by decide) fp.2 ?_ (rdC_op q n100) (by omega) pu.2.1⟩
        exact ⟨fun j hj => by rw [fp.1 7 (by decide)]; exact sm.1.1 j hj, ⟨e2, Nat.zero_le _⟩, by rw [fp.1 8 (by decide)]; exact sm.1.2.2.1, e4, e5⟩
  · have r1 := r.1.1
    have B := sp_Ref_read (h := g) (f := mi g) (l := ml g) r1.2.1.1 n100 r.1.2.2.1.2.2.1 l40
    rw [r1.2.2.1] at B
    refine SpI.mono B ?_
    rintro r' g' ⟨f', rfl, hr⟩
    cases q : rdC X.2.2.1 X.2.1 with
    | error e =>
      rw [q] at hr
      obtain ⟨rfl, fp, e2, e4, e5⟩ := hr
      obtain ⟨w1, w2⟩ := rd_rf r fp e2 e4 e5
      exact ⟨((X.1, 0, X.2.2.1, nI e.1, nI e.2), OU, TD, CH, GS, CS, MS, PH), f', ml g, (RdQ_e (s := (X, OU, TD, CH, GS, CS, MS, PH)) q).mpr ⟨rfl, rfl⟩, rfl, w1, w2, Fr.refl⟩
    | ok c =>
      rw [q] at hr
      have hr : if TD.length = 40 then _ else _ := hr
      by_cases l : TD.length = 40
      · rw [if_pos l] at hr
        obtain ⟨rfl, fp, e2, e4, e5⟩ := hr
        obtain ⟨w1, w2⟩ := rd_rf r fp e2 e4 e5
        exact ⟨((X.1, 0, X.2.2.1, nI 5, zI (-1)), OU, TD, CH, GS, CS, MS, PH), f', ml g, (RdQ_f (s := (X, OU, TD, CH, GS, CS, MS, PH)) q l).mpr ⟨rfl, rfl⟩, rfl, w1, w2, Fr.refl⟩
      · rw [if_neg l] at hr
        obtain ⟨rfl, f1, fp, e2, e4, e5, rfl⟩ := hr
        obtain ⟨w1, w2⟩ := keep_rf (A := [54, 95, 96]) (X' := (X.1, 0, X.2.2.1, nI 0, zI (-1))) r fp.1 (by decide) (by decide) (fun j hj => by
          have : ∀ j ∈ [1, 14, 17, 32, 35, 36, 37, 45, 50, 51, 52, 56], j ≠ 9 ∧ j ≠ 10 ∧ j ≠ 11 ∧ j ≠ 12 := by decide
          obtain ⟨b1, b2, b3, b4⟩ := this j hj
          exact fp.2 j b1 b2 b3 b4) ⟨fun j hj => by rw [fp.1 61 (by decide)]; exact r1.1 j hj, ⟨e2, Nat.zero_le _⟩, by rw [fp.1 62 (by decide)]; exact r1.2.2.1, e4, e5⟩ (rdC_op q n100) (by omega)
        exact ⟨((X.1, 0, X.2.2.1, nI 0, zI (-1)), OU, TD ++ [c], CH, GS, CS, MS, PH), _, ml g, (RdQ_k (s := (X, OU, TD, CH, GS, CS, MS, PH)) q l).mpr ⟨rfl, rfl⟩, rfl, w1, w2, Fr.refl⟩
  · intro s1 r q
    cases w : rdC X.2.2.1 X.2.1 with
    | error e =>
      obtain ⟨_, rfl⟩ := (RdQ_e (s := (X, OU, TD, CH, GS, CS, MS, PH)) w).mp q
      exact pu
    | ok c =>
      by_cases l : TD.length = 40
      · obtain ⟨_, rfl⟩ := (RdQ_f (s := (X, OU, TD, CH, GS, CS, MS, PH)) w l).mp q
        exact pu
      · obtain ⟨_, rfl⟩ := (RdQ_k (s := (X, OU, TD, CH, GS, CS, MS, PH)) w l).mp q
        exact ⟨pu.1, fun i q => by have := pu.2.1 i q; show i < (TD ++ [_]).length; rw [snoc_len]; omega, pu.2.2⟩
def tgl (CH : Nat → Prop) (k i : Nat) : Prop := (i = k ∧ ¬ CH i) ∨ (i ≠ k ∧ CH i)
def ChQ (s : Sta) (x r : Int32) (s' : Sta) : Prop := (∃ k, k < s.2.2.1.length ∧ x = nI k ∧ r = 1 ∧ s' = (s.1, s.2.1, s.2.2.1, tgl s.2.2.2.1 k, s.2.2.2.2)) ∨ (¬ (0 ≤ x.toInt ∧ x.toInt < s.2.2.1.length) ∧ r = 0 ∧ s' = s)
theorem ChQ.fn {s s1 s2 : Sta} {x r r' : Int32} (hl : s.2.2.1.length ≤ 40) (h : ChQ s x r s1) (h' : ChQ s x r' s2) : r = r' ∧ s1 = s2 := by
  rcases h with ⟨k, hk, rfl, b, c⟩ | ⟨a, b, c⟩ <;> rcases h' with ⟨k', hk', e, b', c'⟩ | ⟨a', b', c'⟩
  · rw [nI_inj (by omega) (by omega)] at e
    subst e
    exact ⟨by rw [b, b'], by rw [c, c']⟩
  · exact absurd (by rw [nI_toI (by omega)]; omega) a'
  · subst e; exact absurd (by rw [nI_toI (by omega)]; omega) a
  · exact ⟨by rw [b, b'], by rw [c, c']⟩
theorem Chs.tg {f : (Nat → Nat → Int32)} {a k : Nat} {CH : Nat → Prop} {v : Int32} (h : Chs f a CH) (hk : k < 40) (h0 : f a k = nI 0 → v = nI 1) (h1 : f a k = nI 1 → v = nI 0) : Chs (up2 f a k v) a (tgl CH k) := fun i hi => by
  by_cases e : i = k
  · subst e
    rw [up2_s]
    rcases h i hi with ⟨q, n⟩ | ⟨q, n⟩
    · exact Or.inr ⟨h0 q, Or.inl ⟨rfl, n⟩⟩
    · exact Or.inl ⟨h1 q, fun w => w.elim (fun w => w.2 n) (fun w => w.1 rfl)⟩
  · rw [up2_ni e]
    rcases h i hi with ⟨q, n⟩ | ⟨q, n⟩
    · exact Or.inl ⟨q, fun w => w.elim (fun w => e w.1) (fun w => n w.2)⟩
    · exact Or.inr ⟨q, Or.inr ⟨e, n⟩⟩
theorem q_choose : C_choose IvW IvW := by
  rintro h a H ⟨s, pu, cl, rf⟩
  obtain ⟨X, OU, TD, CH, GS, CS, MS, PH⟩ := s
  obtain ⟨O, sm, _⟩ := id cl
  have l40 := sm.2.2.1.1
  have A := sp_Ho_choose (h := h) (f := mi h) (l := ml h) sm.2.2.1.2.2.1 l40 a
  rw [← H.sil] at A
  refine pI (Q := fun r s' => ChQ (X, OU, TD, CH, GS, CS, MS, PH) a r s') (Q' := fun r s' => ChQ (X, OU, TD, CH, GS, CS, MS, PH) a r s') H rf (SpI.mono A ?_) (fun g hS r => SpI.mono (sp_Ref_choose r.1.2.2.1.2.2.1 l40 a) ?_) (fun s1 s2 r r' q q' => ChQ.fn l40 q q') ?_
  · rintro r g (⟨k, hk, rfl, rfl, rfl⟩ | ⟨no, rfl, rfl⟩)
    · have fr : Fr [14] (mi h) (up2 (mi h) 14 k (if mi h 14 k = 0 then 1 else 0)) := Fr.refl.up List.mem_cons_self
      have ch : Chs (up2 (mi h) 14 k (if mi h 14 k = 0 then 1 else 0)) 14 (tgl CH k) := sm.2.2.2.1.tg (by omega) (fun q => by rw [if_pos (by rw [q]; rfl)]; rfl) (fun q => by rw [if_neg (by rw [q]; decide)]; rfl)
      generalize up2 (mi h) 14 k (if mi h 14 k = 0 then 1 else 0) = f1 at *
      refine ⟨_, Or.inl ⟨k, hk, rfl, rfl, rfl⟩, cl.sm H (A := [14]) (l' := ml h) fr Fr.refl (by decide) (fun j _ => by rw [fr 5 (by decide)]) (sm.ch (fun x hx => fr x ?_) rfl ⟨sm.1.fr (fr 7 (by decide)) (by rw [fr 6 (by decide)]) (fr 8 (by decide)) (by rw [fr 6 (by decide)]) (by rw [fr 6 (by decide)]), sm.2.1.fr (by rw [fr 6 (by decide)]) (fr 12 (by decide)), sm.2.2.1.fr (by rw [fr 5 (by decide)]) (fr 13 (by decide)), ch⟩)⟩
      have : ∀ x ∈ [2, 3, 4, 50, 51, 52], x ∉ [14] := by decide
      exact this x hx
    · exact ⟨_, Or.inr ⟨no, rfl, rfl⟩, cl, CK.refl H⟩
  · rintro r' g' (⟨k, hk, rfl, rfl, rfl⟩ | ⟨no, rfl, rfl⟩)
    · obtain ⟨r1, r2, r3, r4, r5⟩ := r.1
      have fr : Fr [56] (mi g) (up2 (mi g) 56 k (1 - mi g 56 k)) := Fr.refl.up List.mem_cons_self
      have ch : Chs (up2 (mi g) 56 k (1 - mi g 56 k)) 56 (tgl CH k) := r4.tg (by omega) (fun q => by rw [q]; rfl) (fun q => by rw [q]; rfl)
      generalize up2 (mi g) 56 k (1 - mi g 56 k) = f1 at *
      have i54 := fr 54 (by decide)
      refine ⟨_, f1, ml g, Or.inl ⟨k, hk, rfl, rfl, rfl⟩, rfl, r.ch (fun j _ => by rw [i54]) (fun x hx => fr x ?_) (fun _ _ => rfl) ⟨r1.fr (fr 61 (by decide)) (by rw [i54]) (fr 62 (by decide)) (by rw [i54]) (by rw [i54]), r2.fr (by rw [i54]) (fr 63 (by decide)), r3.fr (by rw [i54]) (fr 55 (by decide)), ch, r5.fr2 (by rw [i54]) (fr 92 (by decide)) (fr 93 (by decide)) rfl⟩, fr.mono (by decide), Fr.refl⟩
      have : ∀ x ∈ [64, 65, 67, 68, 69, 78, 81, 82, 83, 84, 85, 86, 87, 90], x ∉ [56] := by decide
      exact this x hx
    · exact ⟨_, mi g, ml g, Or.inr ⟨no, rfl, rfl⟩, rfl, r, Fr.refl, Fr.refl⟩
  · rintro s1 r (⟨k, hk, _, _, rfl⟩ | ⟨_, _, rfl⟩)
    · refine ⟨pu.1, fun i q => ?_, pu.2.2⟩
      rcases q with ⟨e, _⟩ | ⟨_, e⟩
      · rw [e]; exact hk
      · exact pu.2.1 i e
    · exact pu
