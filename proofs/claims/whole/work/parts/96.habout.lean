/-! the class: about, half -/
/-- a step of the class: what it may change -/
def StpO (h k : MH) (O O' : Nat → Nat) (T : List Nat) (P : Nat → Prop) : Prop := ∃ A, Kp A h k ∧ (∀ a ∈ A, a ∈ T ∨ (99 ≤ a ∧ P (O a))) ∧ ∀ a, a < hn h → O' a = O a
theorem StpO.refl {h : MH} {O : Nat → Nat} {T : List Nat} {P : Nat → Prop} (H : SS h) : StpO h h O O T P := ⟨[], Kp.refl H, fun a ha => absurd ha List.not_mem_nil, fun _ _ => rfl⟩
theorem StpO.of {h k : MH} {O : Nat → Nat} {T : List Nat} {P : Nat → Prop} (c : Kp T h k) : StpO h k O O T P := ⟨T, c, fun _ ha => Or.inl ha, fun _ _ => rfl⟩
theorem StpO.mono {h k : MH} {O O' : Nat → Nat} {T T' : List Nat} {P P' : Nat → Prop} (s : StpO h k O O' T P) (hT : ∀ a ∈ T, a ∈ T') (hP : ∀ a, P a → P' a) : StpO h k O O' T' P' := by
  obtain ⟨A, a, b, c⟩ := s
  exact ⟨A, a, fun x hx => (b x hx).imp (hT x) (fun q => ⟨q.1, hP _ q.2⟩), c⟩
theorem StpO.trans {h k m : MH} {O O' O'' : Nat → Nat} {T : List Nat} {P : Nat → Prop} (s : StpO h k O O' T P) (t : StpO k m O' O'' T P) : StpO h m O O'' T P := by
  obtain ⟨A, a, b, c⟩ := s
  obtain ⟨B, d, e, f⟩ := t
  have l := a.2.1
  refine ⟨A ++ B.filter (fun x => decide (x < hn h)), ⟨d.1, Nat.le_trans l d.2.1, fun x hx => ?_⟩, fun x hx => ?_, fun x hx => (f x (by omega)).trans (c x hx)⟩
  · have p := a.2.2 x hx
    have q := d.2.2 x (by omega)
    refine ⟨q.1.trans p.1, q.2.1.trans p.2.1, fun n => ?_⟩
    have n1 : x ∉ A := fun z => n (List.mem_append_left _ z)
    have n2 : x ∉ B := fun z => n (List.mem_append_right _ (List.mem_filter.mpr ⟨z, decide_eq_true hx⟩))
    exact ⟨(q.2.2 n2).1.trans (p.2.2 n1).1, (q.2.2 n2).2.1.trans (p.2.2 n1).2.1, (q.2.2 n2).2.2.trans (p.2.2 n1).2.2⟩
  · rcases List.mem_append.mp hx with q | q
    · exact b x q
    · obtain ⟨q1, q2⟩ := List.mem_filter.mp q
      have q2 := of_decide_eq_true q2
      refine (e x q1).imp id (fun z => ⟨z.1, ?_⟩)
      rw [← c x q2]; exact z.2
theorem HGrp.own {A : List Nat} {h k : MH} {O O' : Nat → Nat} {GS : List (List Nat)} {i : Nat} (H : SS h) (b : HGrp h O GS) (hi : i < GS.length) (c : Kp (mr h 29 i :: A) h k) (hA : ∀ a ∈ A, a < 99 ∧ a ≠ 29) (h5 : mi k 5 6 = mi h 5 6) (hO : ∀ a, a < hn h → O' a = O a) (m0 : mr k (mr h 29 i) 0 = mr h (mr h 29 i) 0) (m1 : mr k (mr h 29 i) 1 = mr h (mr h 29 i) 1) (gc : GrpC k O' i (mr h 29 i) (GS.getD i [])) : HGrp k O' GS := by
  have h99 := H.1
  have bi := b.2.2 i hi
  obtain ⟨_, ⟨MK, gb, cl⟩, _⟩ := bi
  have g99 := gb.1.1
  have n29 : 29 ∉ mr h 29 i :: A := fun q => by
    rcases List.mem_cons.mp q with e | e
    · omega
    · exact (hA 29 e).2 rfl
  have e29 := c.r (x := 29) (by omega) n29
  refine ⟨b.1, by rw [h5]; exact b.2.1, fun j hj => ?_⟩
  obtain ⟨g1, ⟨MK', g2, g3⟩, g4⟩ := b.2.2 j hj
  rw [e29]
  by_cases e : j = i
  · subst e
    refine ⟨g1, ⟨MK, ?_, cl⟩, gc⟩
    obtain ⟨⟨b1, b2, b3, b4, b5, b6⟩, ⟨b7, b8, b9⟩, ⟨b10, b11, b12⟩, ⟨b13, b14, b15⟩, b16, b17, b18⟩ := gb
    have l := c.2.1
    generalize mr h 29 j = g at *
    have no : ∀ x, g < x → x ∉ g :: A := fun x hx q => by
      rcases List.mem_cons.mp q with e | e
      · omega
      · have := (hA x e).1; omega
    have n1 := no (g + 1) (by omega)
    have n2 := no (g + 2) (by omega)
    have n3 := no (g + 3) (by omega)
    exact ⟨⟨b1, by omega, by rw [hO _ (by omega)]; exact b3, by rw [hO _ (by omega)]; exact b4, by rw [hO _ (by omega)]; exact b5, by rw [hO _ (by omega)]; exact b6⟩, ⟨by rw [c.k (by omega)]; exact b7, by rw [m0]; exact b8, by rw [m1]; exact b9⟩,
      ⟨by rw [c.k (by omega)]; exact b10, by rw [c.r (by omega) n1]; exact b11, by rw [c.i (by omega) n1]; exact b12⟩, ⟨by rw [c.k (by omega)]; exact b13, by rw [c.n (by omega)]; exact b14, fun j hj => by rw [c.i (by omega) n2]; exact b15 j hj⟩, by rw [c.k (by omega)]; exact b16, by rw [c.n (by omega)]; exact b17, fun j hj => by rw [c.i (by omega) n3]; exact b18 j hj⟩
  · have hA' : ∀ a ∈ mr h 29 i :: A, a < 99 ∨ O a ≠ j := fun a ha => by
      rcases List.mem_cons.mp ha with q | q
      · right; rw [q, gb.1.2.2.1]; omega
      · exact Or.inl (hA a q).1
    exact ⟨g1, ⟨MK', g2.kp c hA' hO, g3⟩, g4.kp g2.1.1 (by have := g2.1.2.1; omega) g2.1.2.2.1 c hA' hO⟩
def AbIds : List Nat := [41, 42, 31, 32, 34, 35, 37, 38, 15, 19, 16, 17, 18, 21, 22, 24, 25, 27, 28]
theorem sq_ab : ∀ a ∈ SqIds, a ∈ AbIds := by decide
theorem al_ab : ∀ a ∈ AlIds, a ∈ AbIds := by decide
theorem SdQ.hg {h k : MH} {O O' : Nat → Nat} {GS : List (List Nat)} {i r b : Nat} {s : Nat → Nat} (H : SS h) (hg : HGrp h O GS) (hi : i < GS.length) (q : SdQ h O i (mr h 29 i) (GS.getD i []) r k O' b s) : HGrp k O' GS ∧ StpO h k O O' AbIds (· < 60) ∧ mr k 29 i = mr h 29 i := by
  obtain ⟨⟨kp, ho, er⟩, c1, c2, c3, c4, c5, c6, c7⟩ := q
  have h99 := H.1
  obtain ⟨_, ⟨MK, gb, cl⟩, gc⟩ := hg.2.2 i hi
  have g99 := gb.1.1
  have no : ∀ x, x < 99 → x ∉ SqIds → x ∉ mr h 29 i :: SqIds := fun x h1 h2 q => by
    rcases List.mem_cons.mp q with e | e
    · omega
    · exact h2 e
  refine ⟨hg.own H hi kp (by decide) (by rw [kp.i (by omega) (no 5 (by decide) (by decide))]) ho (c6 0 (by decide)) (c6 1 (by decide)) ⟨by rw [c5 2 (by decide)]; exact gc.1, Or.inr ⟨b, s, by rw [← er]; exact c1, c2, by rw [← er]; exact c3, c4⟩⟩, ⟨_, kp, fun a ha => ?_, ho⟩, by rw [kp.r (by omega) (no 29 (by decide) (by decide))]⟩
  rcases List.mem_cons.mp ha with q | q
  · right; rw [q, gb.1.2.2.1]; exact ⟨g99, by have := hg.1; omega⟩
  · exact Or.inl (sq_ab a q)
theorem CaP.hg {h k : MH} {O : Nat → Nat} {GS : List (List Nat)} {i : Nat} {r : Int32} (H : SS h) (hg : HGrp h O GS) (hi : i < GS.length) (q : CaP h (mr h 29 i) (GS.getD i []) r k) : HGrp k O GS ∧ StpO h k O O AbIds (· < 60) := by
  obtain ⟨_, kp, c2, c3, c4, c5⟩ := q
  have h99 := H.1
  have l := kp.2.1
  obtain ⟨_, ⟨MK, gb, cl⟩, gc⟩ := hg.2.2 i hi
  have g99 := gb.1.1
  have no : ∀ x, x < 99 → x ∉ AlIds → x ∉ mr h 29 i :: AlIds := fun x h1 h2 q => by
    rcases List.mem_cons.mp q with e | e
    · omega
    · exact h2 e
  refine ⟨hg.own H hi kp (by decide) (by rw [kp.i (by omega) (no 5 (by decide) (by decide))]) (fun _ _ => rfl) (by rw [c5]) (by rw [c5]) ⟨Or.inr c2, ?_⟩, ⟨_, kp, fun a ha => ?_, fun _ _ => rfl⟩⟩
  · rcases gc.2 with z | ⟨b, s, ⟨d1, d2, d3, d4, d5⟩, e1, e2, e3⟩
    · exact Or.inl (by rw [c5]; exact z)
    · have nr : mr h (mr h 29 i) 3 ∉ mr h 29 i :: AlIds := fun q => by
        rcases List.mem_cons.mp q with e | e
        · have := gb.2.1.1
          rw [e] at d4; omega
        · have := al_99 _ e; omega
      refine Or.inr ⟨b, s, ?_, by rw [c3 4 (by decide)]; exact e1, ?_, e3⟩
      · rw [c5]; exact ⟨d1, by omega, d3, by rw [kp.k d2]; exact d4, by rw [kp.n d2]; exact d5⟩
      · rw [c5, kp.i d2 nr]; exact e2
  · rcases List.mem_cons.mp ha with q | q
    · right; rw [q, gb.1.2.2.1]; exact ⟨g99, by have := hg.1; omega⟩
    · exact Or.inl (al_ab a q)
theorem sh1m : ∀ k, k < 8 → ((1 : Int32) <<< ((nI k) &&& (31 : Int32))) - (1 : Int32) = nI (2 ^ k - 1) := by decide +kernel
theorem sp_Ho_countHalves {h : MH} {O : Nat → Nat} {t g : Nat} {S MK : List Nat} (H : SS h) (ok : GOk S) (b : GrpB h O t g S MK) (c : GrpC h O t g S) : SpI k_Ho_countHalves [.ref 5, .ref g] h (fun r k => ∃ r0 O' b s, SdQ h O t g S r0 k O' b s ∧ r = nI (2 ^ b - 1)) := by
  have g3 := b.1.2.1
  refine v_Ho_countHalves _ _ _ _ ⟨H.k5, SpR.mono (sp_Ho_sidesOf H ok b c) ?_⟩
  rintro r k ⟨O', b', s, q⟩
  have q0 := q
  obtain ⟨⟨kp, ho, er⟩, c1, c2, c3, c4, c5, c6, c7⟩ := q
  rw [c2, sh1m _ (by have := sd_b7 c4.1; omega)]
  exact ⟨by rw [kp.k (by omega)]; exact b.2.1.1, _, rfl, r, O', b', s, q0, rfl⟩
def AboV (S : List Nat) (w r : Int32) : Prop := (w = 0 ∧ r = nI S.length) ∨ (w = 1 ∧ r = nI (brK S S.length).length) ∨ (w = 2 ∧ r = nI (cenK S S.length)) ∨ (w = 3 ∧ r = nI (letN S (cenK S S.length))) ∨ (w = 4 ∧ ∃ i, CtOK (brK S S.length) i ∧ r = nI (i + 1)) ∨ (w = 5 ∧ r = nI (alikeN S)) ∨ (w = 6 ∧ ∃ L, HvL S L ∧ r = nI L.length) ∨ ((w ≠ 0 ∧ w ≠ 1 ∧ w ≠ 2 ∧ w ≠ 3 ∧ w ≠ 4 ∧ w ≠ 5 ∧ w ≠ 6) ∧ r = -1)
theorem AboV.fn {S : List Nat} {w r r' : Int32} (h : AboV S w r) (h' : AboV S w r') : r = r' := by
  rcases h with ⟨rfl, h⟩ | ⟨rfl, h⟩ | ⟨rfl, h⟩ | ⟨rfl, h⟩ | ⟨rfl, i, c, h⟩ | ⟨rfl, h⟩ | ⟨rfl, L, c, h⟩ | ⟨⟨n0, n1, n2, n3, n4, n5, n6⟩, h⟩ <;> rcases h' with ⟨e, h'⟩ | ⟨e, h'⟩ | ⟨e, h'⟩ | ⟨e, h'⟩ | ⟨e, i', c', h'⟩ | ⟨e, h'⟩ | ⟨e, L', c', h'⟩ | ⟨⟨m0, m1, m2, m3, m4, m5, m6⟩, h'⟩ <;> first | (exact h.trans h'.symm) | (exact absurd e (by decide)) | contradiction | skip
  · rw [h, h', c.fn c']
  · rw [h, h', c.fn c']
def AboA (GS : List (List Nat)) (x w r : Int32) : Prop := (∃ i, i < GS.length ∧ x = nI i ∧ AboV (GS.getD i []) w r) ∨ ((¬ ∃ i, i < GS.length ∧ x = nI i) ∧ r = -1)
theorem AboA.fn {GS : List (List Nat)} {x w r r' : Int32} (hl : GS.length ≤ 60) (h : AboA GS x w r) (h' : AboA GS x w r') : r = r' := by
  rcases h with ⟨i, hi, e, v⟩ | ⟨n, e⟩ <;> rcases h' with ⟨i', hi', e', v'⟩ | ⟨n', e'⟩
  · rw [e] at e'
    have : i = i' := (nI_inj (by omega) (by omega)).mp e'
    subst this
    exact v.fn v'
  · exact absurd ⟨i, hi, e⟩ n'
  · exact absurd ⟨i', hi', e'⟩ n
  · exact e.trans e'.symm
theorem grp_no {GS : List (List Nat)} (hl : GS.length ≤ 60) {x : Int32} (q : ¬ (0 ≤ x.toInt ∧ x.toInt < GS.length)) : ¬ ∃ i, i < GS.length ∧ x = nI i := fun ⟨i, hi, e⟩ => q (by rw [e, nI_toI (by omega)]; omega)
theorem sp_Ho_about {h : MH} {O : Nat → Nat} {GS : List (List Nat)} (H : SS h) (hg : HGrp h O GS) (hk : KeysAt (mi h)) (cls : ∀ S ∈ GS, ∃ i, CtOK (brK S S.length) i) (x w : Int32) : SpI k_Ho_about [.ref 5, .int x, .int w] h (fun r k => AboA GS x w r ∧ ∃ O', StpO h k O O' AbIds (· < 60) ∧ HGrp k O' GS) := by
  have hl := hg.1
  refine v_Ho_about _ _ _ _ _ ⟨H.k5, SpR.mono (sp_Ho_groupAt H hg x) ?_⟩
  rintro r y ⟨rfl, ⟨i, hi, rfl, rfl, r0⟩ | ⟨no, rfl⟩⟩
  rotate_left
  · exact ⟨fun _ => ⟨_, rfl, Or.inr ⟨grp_no hl no, rfl⟩, O, StpO.refl H, hg⟩, fun q => absurd rfl q⟩
  obtain ⟨ok, ⟨MK, b, cl⟩, c⟩ := hg.2.2 i hi
  have put : ∀ {w r : Int32} {k : MH} {O' : Nat → Nat}, AboV (GS.getD i []) w r → StpO y k O O' AbIds (· < 60) → HGrp k O' GS → ∃ r', (.int r : Value) = .int r' ∧ AboA GS (nI i) w r' ∧ ∃ O', StpO y k O O' AbIds (· < 60) ∧ HGrp k O' GS := fun a b c => ⟨_, rfl, Or.inl ⟨i, hi, rfl, a⟩, _, b, c⟩
  refine ⟨fun q => absurd q r0, fun _ => ⟨fun e => ?_, fun n0 => ⟨fun e => ?_, fun n1 => ⟨fun e => ?_, fun n2 => ⟨fun e => ?_, fun n3 => ⟨fun e => ?_, fun n4 => ⟨fun e => ?_, fun n5 => ⟨fun e => ?_, fun n6 => ?_⟩⟩⟩⟩⟩⟩⟩⟩
  · rw [b.2.1.2.1]
    exact ⟨b.2.1.1, b.2.2.1.1, put (Or.inl ⟨e, b.2.2.1.2.2⟩) (StpO.refl H) hg⟩
  · refine ⟨b.2.1.1, SpI.mono (sp_countMatrices ok b) ?_⟩
    rintro _ _ ⟨rfl, rfl⟩
    exact put (Or.inr (Or.inl ⟨e, rfl⟩)) (StpO.refl H) hg
  · refine ⟨b.2.1.1, SpI.mono (sp_countCentrings ok b) ?_⟩
    rintro _ _ ⟨rfl, rfl⟩
    exact put (Or.inr (Or.inr (Or.inl ⟨e, rfl⟩))) (StpO.refl H) hg
  · refine ⟨b.2.1.1, SpI.mono (sp_centringLetter ok b) ?_⟩
    rintro _ _ ⟨rfl, rfl⟩
    exact put (Or.inr (Or.inr (Or.inr (Or.inl ⟨e, rfl⟩)))) (StpO.refl H) hg
  · obtain ⟨ci, ct⟩ := cls _ (gD_mem hi)
    have e0 := H.sil
    have b0 : GrpB (sil y (mi y) (ml y)) O i (mr y 29 i) (GS.getD i []) MK := by rw [← e0]; exact b
    have := sp_Ho_classOf (f := mi y) (l := ml y) H ok b0 hk ct
    rw [← e0] at this
    refine ⟨H.k5, SpI.mono this ?_⟩
    rintro _ _ ⟨rfl, f', rfl, fr⟩
    have kp : Kp [37, 38] y (sil y f' (ml y)) := Kp.si3 H fr Fr.refl
    have h99 := H.1
    exact put (Or.inr (Or.inr (Or.inr (Or.inr (Or.inl ⟨e, ci, ct, rfl⟩))))) ((StpO.of kp).mono (by decide) (fun _ q => q)) (hg.kp H kp (fun a ha => Or.inl (by revert a; decide)) (by rw [kp.i (by omega) (by decide)]) (fun _ _ => rfl))
  · refine ⟨H.k5, SpI.mono (sp_Ho_countAlike H ok b cl c.1) ?_⟩
    intro r k q
    have z := q.hg H hg hi
    exact put (Or.inr (Or.inr (Or.inr (Or.inr (Or.inr (Or.inl ⟨e, q.1⟩)))))) z.2 z.1
  · refine ⟨H.k5, SpI.mono (sp_Ho_countHalves H ok b c) ?_⟩
    rintro _ k ⟨r0, O', b', s, q, rfl⟩
    have z := q.hg H hg hi
    have hv := q.2.2.2.2.1.hv ok
    exact put (Or.inr (Or.inr (Or.inr (Or.inr (Or.inr (Or.inr (Or.inl ⟨e, _, hv, by rw [List.length_map, List.length_range]⟩))))))) z.2.1 z.1
  · exact put (Or.inr (Or.inr (Or.inr (Or.inr (Or.inr (Or.inr (Or.inr ⟨⟨n0, n1, n2, n3, n4, n5, n6⟩, rfl⟩))))))) (StpO.refl H) hg
