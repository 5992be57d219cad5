/-! half, of the class -/
theorem nI_and (a b : Nat) : nI a &&& nI b = nI (a &&& b) := by
  show Int32.ofNat a &&& Int32.ofNat b = Int32.ofNat (a &&& b)
  apply Int32.toBitVec_inj.mp
  simp
def bcE (x0 : Int32) : Int32 :=
  (((((((((x0 - ((x0.toUInt32 >>> ((1 : Int32).toUInt32 &&& Int32.toUInt32 31)).toInt32 &&& (1431655765 : Int32))) &&& (858993459 : Int32)) + (((x0 - ((x0.toUInt32 >>> ((1 : Int32).toUInt32 &&& Int32.toUInt32 31)).toInt32 &&& (1431655765 : Int32))).toUInt32 >>> ((2 : Int32).toUInt32 &&& Int32.toUInt32 31)).toInt32 &&& (858993459 : Int32))) + ((((x0 - ((x0.toUInt32 >>> ((1 : Int32).toUInt32 &&& Int32.toUInt32 31)).toInt32 &&& (1431655765 : Int32))) &&& (858993459 : Int32)) + (((x0 - ((x0.toUInt32 >>> ((1 : Int32).toUInt32 &&& Int32.toUInt32 31)).toInt32 &&& (1431655765 : Int32))).toUInt32 >>> ((2 : Int32).toUInt32 &&& Int32.toUInt32 31)).toInt32 &&& (858993459 : Int32))).toUInt32 >>> ((4 : Int32).toUInt32 &&& Int32.toUInt32 31)).toInt32) &&& (252645135 : Int32)) + ((((((x0 - ((x0.toUInt32 >>> ((1 : Int32).toUInt32 &&& Int32.toUInt32 31)).toInt32 &&& (1431655765 : Int32))) &&& (858993459 : Int32)) + (((x0 - ((x0.toUInt32 >>> ((1 : Int32).toUInt32 &&& Int32.toUInt32 31)).toInt32 &&& (1431655765 : Int32))).toUInt32 >>> ((2 : Int32).toUInt32 &&& Int32.toUInt32 31)).toInt32 &&& (858993459 : Int32))) + ((((x0 - ((x0.toUInt32 >>> ((1 : Int32).toUInt32 &&& Int32.toUInt32 31)).toInt32 &&& (1431655765 : Int32))) &&& (858993459 : Int32)) + (((x0 - ((x0.toUInt32 >>> ((1 : Int32).toUInt32 &&& Int32.toUInt32 31)).toInt32 &&& (1431655765 : Int32))).toUInt32 >>> ((2 : Int32).toUInt32 &&& Int32.toUInt32 31)).toInt32 &&& (858993459 : Int32))).toUInt32 >>> ((4 : Int32).toUInt32 &&& Int32.toUInt32 31)).toInt32) &&& (252645135 : Int32)).toUInt32 >>> ((8 : Int32).toUInt32 &&& Int32.toUInt32 31)).toInt32) + (((((((x0 - ((x0.toUInt32 >>> ((1 : Int32).toUInt32 &&& Int32.toUInt32 31)).toInt32 &&& (1431655765 : Int32))) &&& (858993459 : Int32)) + (((x0 - ((x0.toUInt32 >>> ((1 : Int32).toUInt32 &&& Int32.toUInt32 31)).toInt32 &&& (1431655765 : Int32))).toUInt32 >>> ((2 : Int32).toUInt32 &&& Int32.toUInt32 31)).toInt32 &&& (858993459 : Int32))) + ((((x0 - ((x0.toUInt32 >>> ((1 : Int32).toUInt32 &&& Int32.toUInt32 31)).toInt32 &&& (1431655765 : Int32))) &&& (858993459 : Int32)) + (((x0 - ((x0.toUInt32 >>> ((1 : Int32).toUInt32 &&& Int32.toUInt32 31)).toInt32 &&& (1431655765 : Int32))).toUInt32 >>> ((2 : Int32).toUInt32 &&& Int32.toUInt32 31)).toInt32 &&& (858993459 : Int32))).toUInt32 >>> ((4 : Int32).toUInt32 &&& Int32.toUInt32 31)).toInt32) &&& (252645135 : Int32)) + ((((((x0 - ((x0.toUInt32 >>> ((1 : Int32).toUInt32 &&& Int32.toUInt32 31)).toInt32 &&& (1431655765 : Int32))) &&& (858993459 : Int32)) + (((x0 - ((x0.toUInt32 >>> ((1 : Int32).toUInt32 &&& Int32.toUInt32 31)).toInt32 &&& (1431655765 : Int32))).toUInt32 >>> ((2 : Int32).toUInt32 &&& Int32.toUInt32 31)).toInt32 &&& (858993459 : Int32))) + ((((x0 - ((x0.toUInt32 >>> ((1 : Int32).toUInt32 &&& Int32.toUInt32 31)).toInt32 &&& (1431655765 : Int32))) &&& (858993459 : Int32)) + (((x0 - ((x0.toUInt32 >>> ((1 : Int32).toUInt32 &&& Int32.toUInt32 31)).toInt32 &&& (1431655765 : Int32))).toUInt32 >>> ((2 : Int32).toUInt32 &&& Int32.toUInt32 31)).toInt32 &&& (858993459 : Int32))).toUInt32 >>> ((4 : Int32).toUInt32 &&& Int32.toUInt32 31)).toInt32) &&& (252645135 : Int32)).toUInt32 >>> ((8 : Int32).toUInt32 &&& Int32.toUInt32 31)).toInt32).toUInt32 >>> ((16 : Int32).toUInt32 &&& Int32.toUInt32 31)).toInt32) &&& (63 : Int32)))
theorem bc_ok : ∀ v, v < 128 → ((irm (bcE (nI v)) (2 : Int32) = 0) ↔ par v = false) := by decide +kernel
theorem sp_bitCount {h : MH} {v : Nat} (hv : v < 128) : SpI k_Integer_bitCount [.int (nI v)] h (fun r g => g = h ∧ ((irm r (2 : Int32) = 0) ↔ par v = false)) :=
  v_Integer_bitCount _ _ _ ⟨bcE (nI v), rfl, rfl, bc_ok v hv⟩
/-- what a half holds -/
def HfT (S : List Nat) (m : Nat → Bool) (T : List Nat) : Prop := T.Pairwise (· < ·) ∧ ∀ y, y ∈ T ↔ ∃ j, j < S.length ∧ S.getD j 0 = y ∧ m j = false
theorem HfT.fn {S : List Nat} {m : Nat → Bool} {T T' : List Nat} (h : HfT S m T) (h' : HfT S m T') : T = T' := srt_eq h.1 h'.1 (fun x => (h.2 x).trans (h'.2 x).symm)
def HalfA (GS : List (List Nat)) (x w r : Int32) (GS' : List (List Nat)) : Prop := (∃ i, i < GS.length ∧ x = nI i ∧ ((w.toInt < 0 ∧ r = -1 ∧ GS' = GS) ∨ (¬ w.toInt < 0 ∧ ∃ L, HvL (GS.getD i []) L ∧ L.length < 128 ∧ ((∃ k T, k < L.length ∧ w = nI k ∧ HfT (GS.getD i []) (L.getD k fb) T ∧ Reg GS T r GS') ∨ ((¬ ∃ k, k < L.length ∧ w = nI k) ∧ r = -1 ∧ GS' = GS))))) ∨ ((¬ ∃ i, i < GS.length ∧ x = nI i) ∧ r = -1 ∧ GS' = GS)
theorem HalfA.fn {GS G1 G2 : List (List Nat)} {x w r r' : Int32} (hl : GS.length ≤ 60) (h : HalfA GS x w r G1) (h' : HalfA GS x w r' G2) : r = r' ∧ G1 = G2 := by
  rcases h with ⟨i, hi, e, c⟩ | ⟨n, e, z⟩ <;> rcases h' with ⟨i', hi', e', c'⟩ | ⟨n', e', z'⟩
  · rw [e] at e'
    have : i = i' := (nI_inj (by omega) (by omega)).mp e'
    subst this
    rcases c with ⟨ng, e1, e2⟩ | ⟨nn, L, hv, ll, v⟩ <;> rcases c' with ⟨ng', e1', e2'⟩ | ⟨nn', L', hv', ll', v'⟩
    · exact ⟨e1.trans e1'.symm, e2.trans e2'.symm⟩
    · exact absurd ng nn'
    · exact absurd ng' nn
    have := hv.fn hv'
    subst this
    rcases v with ⟨k, T, hk, ek, ht, rg⟩ | ⟨n, e1, e2⟩ <;> rcases v' with ⟨k', T', hk', ek', ht', rg'⟩ | ⟨n', e1', e2'⟩
    · rw [ek] at ek'
      have : k = k' := (nI_inj (by omega) (by omega)).mp ek'
      subst this
      have := ht.fn ht'
      subst this
      exact rg.fn rg'
    · exact absurd ⟨k, hk, ek⟩ n'
    · exact absurd ⟨k', hk', ek'⟩ n
    · exact ⟨e1.trans e1'.symm, e2.trans e2'.symm⟩
  · exact absurd ⟨i, hi, e⟩ n'
  · exact absurd ⟨i', hi', e'⟩ n
  · exact ⟨e.trans e'.symm, z.trans z'.symm⟩
def HfIds : List Nat := [5, 29, 41, 42, 31, 32, 34, 35, 37, 38, 15, 19, 16, 17, 18, 21, 22, 24, 25, 27, 28]
def HfP2 (h : MH) (O : Nat → Nat) (GS : List (List Nat)) (x w r : Int32) (k : MH) : Prop := ∃ O' GS', HalfA GS x w r GS' ∧ StpO h k O O' HfIds (· < 60) ∧ HgFr GS.length h k ∧ HGrp k O' GS'
theorem HgFr.of {h k : MH} {A : List Nat} (H : SS h) (c : Kp A h k) (n5 : 5 ∉ A) (n29 : 29 ∉ A) {N : Nat} : HgFr N h k := by
  have h99 := H.1
  exact ⟨fun j _ => by rw [c.i (by omega) n5], c.l (by omega) n5, fun j => by rw [c.r (by omega) n5], c.i (by omega) n29, c.l (by omega) n29, fun i _ => by rw [c.r (by omega) n29]⟩
theorem HgFr.trans {N : Nat} {h k m : MH} (a : HgFr N h k) (b : HgFr N k m) : HgFr N h m := ⟨fun j hj => (b.1 j hj).trans (a.1 j hj), b.2.1.trans a.2.1, fun j => (b.2.2.1 j).trans (a.2.2.1 j), b.2.2.2.1.trans a.2.2.2.1, b.2.2.2.2.1.trans a.2.2.2.2.1, fun i hi => (b.2.2.2.2.2 i hi).trans (a.2.2.2.2.2 i hi)⟩
theorem HgFr.stp {h k : MH} {O O' : Nat → Nat} {T : List Nat} {P : Nat → Prop} (H : SS h) (s : StpO h k O O' T P) (n5 : 5 ∉ T) (n29 : 29 ∉ T) {N : Nat} : HgFr N h k := by
  obtain ⟨A, a, b, _⟩ := s
  exact HgFr.of H a (fun q => (b 5 q).elim n5 (fun z => absurd z.1 (by decide))) (fun q => (b 29 q).elim n29 (fun z => absurd z.1 (by decide)))
theorem sp_Ho_half {h : MH} {O : Nat → Nat} {GS : List (List Nat)} (H : SS h) (hg : HGrp h O GS) (x w : Int32) : SpI k_Ho_half [.ref 5, .int x, .int w] h (fun r k => HfP2 h O GS x w r k) := by
  have hl := hg.1
  refine v_Ho_half _ _ _ _ _ ⟨H.k5, SpR.mono (sp_Ho_groupAt H hg x) ?_⟩
  rintro r y ⟨rfl, ⟨i, hi, rfl, rfl, r0⟩ | ⟨no, rfl⟩⟩
  rotate_left
  · exact ⟨fun _ => ⟨_, rfl, O, GS, Or.inr ⟨grp_no hl no, rfl, rfl⟩, StpO.refl H, HgFr.of H (Kp.refl (A := []) H) (by decide) (by decide), hg⟩, fun q => absurd rfl q⟩
  obtain ⟨ok, ⟨MK, b, cl⟩, c⟩ := hg.2.2 i hi
  have w192 := ok.2.1
  refine ⟨fun q => absurd q r0, fun _ => ⟨fun neg => ?_, fun nn => ⟨H.k5, SpI.mono (sp_Ho_countHalves H ok b c) ?_⟩⟩⟩
  · exact ⟨_, rfl, O, GS, Or.inl ⟨i, hi, rfl, Or.inl ⟨neg, rfl, rfl⟩⟩, StpO.refl H, HgFr.of H (Kp.refl (A := []) H) (by decide) (by decide), hg⟩
  rintro _ k1 ⟨r1, O1, b1, s1, q1, rfl⟩
  have z1 := q1.hg H hg hi
  have hv := q1.2.2.2.2.1.hv ok
  have b7 := sd_b7 q1.2.2.2.2.1.1
  have p7 := Nat.pow_le_pow_right (show 0 < 2 by decide) b7
  have H1 := q1.1.1.1
  have fr1 : HgFr GS.length y k1 := HgFr.stp H z1.2.1 (by decide) (by decide)
  rw [nI_toI (by omega)]
  refine ⟨fun lt => ⟨H1.k5, ?_⟩, fun ge => ⟨_, rfl, O1, GS, Or.inl ⟨i, hi, rfl, Or.inr ⟨nn, _, hv, by rw [List.length_map, List.length_range]; omega, Or.inr ⟨fun ⟨k, hk, e⟩ => ge ?_, rfl, rfl⟩⟩⟩, z1.2.1.mono (by decide) (fun _ q => q), fr1, z1.1⟩⟩
  rotate_left
  · rw [List.length_map, List.length_range] at hk
    rw [e, nI_toI (by omega)]; omega
  obtain ⟨kk, rfl, hkk⟩ := op_x nn lt (by omega)
  obtain ⟨_, ⟨MK1, b1', cl1⟩, c1'⟩ := z1.1.2.2 i hi
  rw [z1.2.2] at b1' c1'
  refine SpR.mono (sp_Ho_sidesOf H1 ok b1' c1') ?_
  rintro r2 k2 ⟨O2, bb, s, q2⟩
  rw [← z1.2.2] at q2
  have z2 := q2.hg H1 z1.1 hi
  rw [z1.2.2] at z2 q2
  have hv2 := q2.2.2.2.2.1.hv ok
  have L2 := hv.fn hv2
  have H2 := q2.1.1.1
  have st2 := z1.2.1.trans z2.2.1
  have fr2 := fr1.trans (HgFr.stp H1 z2.2.1 (by decide) (by decide))
  have len := congrArg List.length L2
  simp only [List.length_map, List.length_range] at len
  have sd := q2.2.2.2.2.1
  have p2 : 2 ^ bb ≤ 128 := by
    have := Nat.one_le_two_pow (n := bb)
    omega
  obtain ⟨_, ⟨MK2, b2, cl2⟩, c2⟩ := z2.1.2.2 i hi
  rw [z2.2.2] at b2
  obtain ⟨⟨kp2, ho2, er2⟩, ⟨d1, d2, d3, d4, d5⟩, _, arr, _⟩ := q2
  have e2 := H2.sil
  have m : HomI (GS.getD i []) (mL (GS.getD i []) s (kk + 1)) := sd.hom _
  have R54 : mr k2 5 4 = 15 := H2.2.2.2 (5, 4, 15) (by decide)
  rw [R54]
  refine ⟨H2.k5, H2.k15, ?_⟩
  generalize hS : GS.getD i [] = S at *
  have b3 : GrpB (sil k2 (mi k2) (ml k2)) O2 i (mr y 29 i) S MK2 := by rw [← e2]; exact b2
  have done : ∀ (f1 : (Nat → Nat → Int32)) (L MK' : List Nat) (r : Int32) (k3 : MH), Fr TkIds (mi k2) f1 → (∀ x, x ∈ L ↔ ∃ j, j < S.length ∧ S.getD j 0 = x ∧ mL S s (kk + 1) j = false) → KeepP (sil k2 f1 (ml k2)) O2 GS L r k3 → HfP2 y O GS (nI i) (nI kk) r k3 := by
    rintro f1 L MK' r k3 fr mem ⟨O3, T, GS', kp3, f5, l5, r5, i29, l29, ho3, pw, mt, rg, hg3⟩
    have kq : Kp TkIds k2 (sil k2 f1 (ml k2)) := Kp.si3 H2 fr Fr.refl
    have s3 : StpO k2 (sil k2 f1 (ml k2)) O2 O2 HfIds (· < 60) := (StpO.of kq).mono (by decide) (fun _ q => q)
    have s4 : StpO (sil k2 f1 (ml k2)) k3 O2 O3 HfIds (· < 60) := ⟨_, kp3, fun a ha => Or.inl (by revert a; decide), ho3⟩
    refine ⟨O3, GS', Or.inl ⟨i, hi, rfl, ?_⟩, ((st2.mono (by decide) (fun _ q => q)).trans s3).trans s4, (fr2.trans (HgFr.of H2 kq (by decide) (by decide))).trans ⟨f5, l5, r5, i29, l29⟩, hg3⟩
    rw [hS]
    refine Or.inr ⟨nn, _, hv2, by rw [List.length_map, List.length_range]; omega, Or.inl ⟨kk, T, by rw [List.length_map, List.length_range]; omega, rfl, ⟨pw, fun x => ?_⟩, rg⟩⟩
    rw [mt, mem, show ((List.range (2 ^ bb - 1)).map fun k => mL S s (k + 1)).getD kk fb = mL S s (kk + 1) from gF_getD (F := fun k => mL S s (k + 1)) (by omega)]
  have main : ∀ d j (f1 : (Nat → Nat → Int32)) (L MK' : List Nat), S.length - j = d → j ≤ S.length → Fr TkIds (mi k2) f1 → ClAt f1 L MK' → Closed L MK' → (∀ g ∈ MK', ∃ u, u < S.length ∧ S.getD u 0 = g ∧ mL S s (kk + 1) u = false) → (∀ u, u < j → mL S s (kk + 1) u = false → S.getD u 0 ∈ L) →
      WM k_Ho_half p_Ho_half_1 [.ref 5, Jv, Jv, .ref (mr y 29 i), .int (nI (kk + 1)), .ref r2, .int (nI j)] [] (sil k2 f1 (ml k2)) 2 384 (fun v k => ∃ r, v = .int r ∧ HfP2 y O GS (nI i) (nI kk) r k) := by
    have up : ∀ (L MK' : List Nat), Closed L MK' → (∀ g ∈ MK', ∃ u, u < S.length ∧ S.getD u 0 = g ∧ mL S s (kk + 1) u = false) → ∀ x ∈ L, ∃ u, u < S.length ∧ S.getD u 0 = x ∧ mL S s (kk + 1) u = false := by
      intro L MK' cl' hm x hx
      refine reach_ind (G := fun g => g ∈ MK') (fun x => ∃ u, u < S.length ∧ S.getD u 0 = x ∧ mL S s (kk + 1) u = false) ?_ ?_ x ((cl'.1 x).mp hx)
      · obtain ⟨e, he, ee⟩ := mem_getD ok.2.2.2.1
        exact ⟨e, he, ee, m.id he ee⟩
      · rintro a g c _ ⟨u, hu, eu, mu⟩ hg' p
        obtain ⟨v, hv, ev, mv⟩ := hm g hg'
        have cS : c ∈ S := by
          obtain ⟨c', hc', pc⟩ := ok.2.2.2.2 a (by rw [← eu]; exact getD_mem hu) g (by rw [← ev]; exact getD_mem hv)
          rw [pc.fn p] at hc'; exact hc'
        obtain ⟨t, ht, et⟩ := mem_getD cS
        exact ⟨t, ht, et, by rw [m u v t hu hv ht (by rw [eu, ev, et]; exact p), mu, mv]; rfl⟩
    intro d
    induction d with
    | zero =>
      intro j f1 L MK' hd hj fr hc cl' hm al
      have kq : Kp TkIds k2 (sil k2 f1 (ml k2)) := Kp.si3 H2 fr Fr.refl
      have h99 := H2.1
      have b4 := b3.same (Kp.si2 H2 fr (Fr.refl (f := ml k2))) (by decide)
      have hg4 : HGrp (sil k2 f1 (ml k2)) O2 GS := z2.1.kp H2 kq (fun a ha => Or.inl (by revert a; decide)) (by rw [kq.i (by omega) (by decide)]) (fun _ _ => rfl)
      refine v_Ho_half_1 _ _ _ _ _ _ _ _ _ ⟨b4.2.1.1, ?_⟩
      rw [b4.2.1.2.1, b4.2.2.1.2.2, nI_toI (by omega), nI_toI (by omega)]
      refine ⟨b4.2.2.1.1, fun q => absurd q (by omega), fun _ => ⟨Kd5, gd_t (by decide) (gd_t (by decide) (SpI.mono (sp_Ho_keepGroup (SS_sil H2) hc cl' hg4) ?_))⟩⟩
      intro r k3 kp
      refine gd_t (by decide) (gd_t (by decide) ⟨_, rfl, done f1 L MK' r k3 fr (fun x => ⟨up L MK' cl' hm x, fun ⟨u, hu, eu, mu⟩ => ?_⟩) kp⟩)
      rw [← eu]; exact al u (by omega) mu
    | succ d ih =>
      intro j f1 L MK' hd hj fr hc cl' hm al
      have jl : j < S.length := by omega
      have b4 := b3.same (Kp.si2 H2 fr (Fr.refl (f := ml k2))) (by decide)
      have g99 := b4.1.1
      have er : f1 r2 = mi k2 r2 := fr r2 (fun q => by have : r2 < 99 := by revert q; generalize r2 = z; revert z; decide
                                                       omega)
      have l5 : ln (sil k2 f1 (ml k2)) r2 = S.length := by rw [ln_sil H2]; exact d5
      have tl : (Int32.ofNat S.length).toInt = (S.length : Int) := nI_toI (by omega)
      have sj := sd.2.1 j jl
      have sb : s j &&& (kk + 1) < 128 := Nat.lt_of_le_of_lt Nat.and_le_left (by omega)
      refine v_Ho_half_1 _ _ _ _ _ _ _ _ _ ⟨b4.2.1.1, ?_⟩
      rw [b4.2.1.2.1, b4.2.2.1.2.2, nI_toI (by omega), nI_toI (by omega), ix_nI (by omega), l5, tl, mi_sil, er, arr j jl, nI_and]
      refine ⟨b4.2.2.1.1, fun _ => ⟨by rw [kd_sil H2]; exact d4, fun _ => ⟨InB_nI jl (by omega), gd_t (by decide) (gd_t (by decide) (SpI.mono (sp_bitCount sb) ?_))⟩, fun q => absurd (by omega) q⟩, fun q => absurd (by omega) q⟩
      rintro rb _ ⟨rfl, pr⟩
      rw [nI_1, pr, ← mL_lt jl]
      refine ⟨fun mf => ⟨Kd5, b4.2.1.1, ?_⟩, fun mt => ?_⟩
      · rw [b4.2.1.2.1, b4.2.2.1.2.1, b4.2.2.2.1.2.1, R5_4, b4.2.2.2.1.2.2 j jl]
        refine ⟨b4.2.2.1.1, b4.2.2.2.1.1, InB_nI jl (by omega), K15, gd_t (by decide) (gd_t (by decide) (SpI.mono (cl_take hc cl' (ok.2.2.1 _ (getD_mem jl))) ?_))⟩
        rintro rt _ ⟨f3, rfl, fr3, res⟩
        rcases res with ⟨_, L', MK3, c', cl3, ic, old, new⟩ | ⟨_, ng⟩
        · refine ih (j + 1) f3 L' MK3 (by omega) (by omega) (fr.trans fr3) c' cl3 (fun g hg' => ?_) (fun u hu mu => ?_)
          · rcases new g hg' with q | q
            · exact hm g q
            · exact ⟨j, jl, q.symm, mf⟩
          · by_cases e : u = j
            · subst e; exact ic
            · exact (cl3.1 _).mpr (reach_mono (fun g hg => old g hg) ((cl'.1 _).mp (al u (by omega) mu)))
        · exact absurd (good_in ok (fun g hg => by
            rcases hg with q | q
            · obtain ⟨u, hu, eu, _⟩ := hm g q
              rw [← eu]; exact getD_mem hu
            · rw [q]; exact getD_mem jl)) ng
      · refine ih (j + 1) f1 L MK' (by omega) (by omega) fr hc cl' hm (fun u hu mu => ?_)
        by_cases e : u = j
        · subst e; exact absurd mu mt
        · exact al u (by omega) mu
  rw [e2, nI_1]
  refine SpV.mono cl_begin ?_
  rintro _ ⟨f1, rfl, fr1, c1, cl1⟩
  exact main _ 0 f1 [idc] [] rfl (Nat.zero_le _) fr1 c1 cl1 (fun m hm => absurd hm List.not_mem_nil) (fun j hj => absurd hj (Nat.not_lt_zero j))
