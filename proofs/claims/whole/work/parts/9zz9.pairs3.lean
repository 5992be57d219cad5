/-! end, fault, letter, tell, tellOf -/
theorem SmC.ch {f f' : (Nat → Nat → Int32)} {l l' : (Nat → Nat → Int64)} {X X' : TxS} {OU OU' TD TD' : List Nat} {CH CH' : Nat → Prop} {PH : List Ph} (s : SmC f l X OU TD CH PH) (e : ∀ a ∈ [2, 3, 4, 50, 51, 52], f' a = f a) (e53 : l' 53 = l 53) (n : TxA f' 7 6 2 8 4 5 X' ∧ OutC f' OU' ∧ HTold f' TD' ∧ Chs f' 14 CH') : SmC f' l' X' OU' TD' CH' PH := by
  obtain ⟨s1, s2, s3, s4, s5, s6, s7, s8⟩ := s
  obtain ⟨n1, n2, n3, n4⟩ := n
  exact ⟨n1, n2, n3, n4, s5.fr2 (by rw [e 50 (by decide)]) (e 51 (by decide)) (e 52 (by decide)) e53, fun j hj => by rw [e 2 (by decide)]; exact s6 j hj, fun j hj => by rw [e 3 (by decide)]; exact s7 j hj, fun j hj => by rw [e 4 (by decide)]; exact s8 j hj⟩
theorem endT_eq {T w W : Nat → Int32} {n m : Nat} (h : ∀ j, j < 20 → w j = W j) (hm : m ≤ 20) : endT T w n m = endT T W n m := by
  funext j
  unfold endT
  by_cases q : n ≤ j ∧ j < n + m
  · rw [if_pos q, if_pos q, h _ (by omega)]
  · rw [if_neg q, if_neg q]
theorem EndPost.tx {f f' : (Nat → Nat → Int32)} {o p w t q r n m : Nat} {X : TxS} (x : TxA f w o p t q r X) (e : EndPost f f' o p w t X.2.1 m) (hm : m ≤ 20) (hn : X.2.1 + m ≤ 100) (nq : q ≠ p) (nr : r ≠ p) : TxA f' w o p t q r (fun _ => nI 0, X.2.1 + m, endT X.2.2.1 X.1 X.2.1 m, X.2.2.2) := by
  obtain ⟨e1, e2, e3, e4, e5⟩ := e
  exact ⟨e4, ⟨e3, hn⟩, by rw [e5, x.2.2.1]; exact endT_eq x.1 hm, (e2 q nq).trans x.2.2.2.1, (e2 r nr).trans x.2.2.2.2⟩
def EnQ (s : Sta) (x r : Int32) (s' : Sta) : Prop := (endOk s.1.2.1 x ∧ r = nI (s.1.2.1 + ix x) ∧ s' = ((fun _ => nI 0, s.1.2.1 + ix x, endT s.1.2.2.1 s.1.1 s.1.2.1 (ix x), s.1.2.2.2), s.2)) ∨ (¬ endOk s.1.2.1 x ∧ r = zI (-1) ∧ s' = s)
theorem EnQ.fn {s s1 s2 : Sta} {x r r' : Int32} (h : EnQ s x r s1) (h' : EnQ s x r' s2) : r = r' ∧ s1 = s2 := by
  rcases h with ⟨a, b, c⟩ | ⟨a, b, c⟩ <;> rcases h' with ⟨a', b', c'⟩ | ⟨a', b', c'⟩
  · exact ⟨by rw [b, b'], by rw [c, c']⟩
  · exact absurd a a'
  · exact absurd a' a
  · exact ⟨by rw [b, b'], by rw [c, c']⟩
theorem endOk.m {n : Nat} {x : Int32} (h : endOk n x) : ix x ≤ 20 ∧ n + ix x ≤ 100 := by
  obtain ⟨h1, h2, h3⟩ := h
  have := hb_ix (i := x) (by omega)
  omega
theorem q_end : C_end IvW IvW := by
  rintro h a H ⟨s, pu, cl, rf⟩
  have A : SpI k_Ho_end (.ref 5 :: [.int a]) h (fun r g => ClP h (EnQ s a r) g) := by
    obtain ⟨X, OU, TD, CH, GS, CS, MS, PH⟩ := s
    obtain ⟨O, sm, _⟩ := id cl
    have A := sp_Ho_end (h := h) (f := mi h) (l := ml h) (n := X.2.1) sm.1.2.1.1 sm.1.2.1.2 a
    rw [← H.sil] at A
    refine SpI.mono A ?_
    rintro r g (⟨ok, f', rfl, ep, rfl⟩ | ⟨ok, rfl, rfl⟩)
    · have m := ok.m
      have p1 := ep.1
      have tx := ep.tx (n := 0) sm.1 m.1 m.2 (by decide) (by decide)
      refine ⟨_, Or.inl ⟨ok, rfl, rfl⟩, cl.sm H (A := [6, 7, 8]) (l' := ml h) (fun x hx => ?_) Fr.refl (by decide) (fun j _ => by rw [p1 5 (by decide) (by decide) (by decide)]) ?_⟩
      · simp only [List.mem_cons, List.not_mem_nil, or_false, not_or] at hx
        exact p1 x hx.1 hx.2.1 hx.2.2
      · refine sm.ch (fun x hx => ?_) rfl ⟨tx, sm.2.1.fr (ep.2.1 8 (by decide)) (p1 12 (by decide) (by decide) (by decide)), sm.2.2.1.fr (by rw [p1 5 (by decide) (by decide) (by decide)]) (p1 13 (by decide) (by decide) (by decide)), sm.2.2.2.1.fr (p1 14 (by decide) (by decide) (by decide))⟩
        have : ∀ x ∈ [2, 3, 4, 50, 51, 52], x ≠ 6 ∧ x ≠ 7 ∧ x ≠ 8 := by decide
        obtain ⟨b1, b2, b3⟩ := this x hx
        exact p1 x b1 b2 b3
    · exact ⟨_, Or.inr ⟨ok, rfl, rfl⟩, cl, CK.refl H⟩
  refine pI H rf A (fun g hS r => ?_) (fun s1 s2 r r' q q' => EnQ.fn q q') (fun s1 r q => ?_)
  · obtain ⟨X, OU, TD, CH, GS, CS, MS, PH⟩ := s
    obtain ⟨r1, r2, r3, r4, r5⟩ := r.1
    refine SpI.mono (sp_Ref_end r1.2.1.1 r1.2.1.2 a) ?_
    rintro r' g' (⟨ok, f', rfl, ep, rfl⟩ | ⟨ok, rfl, rfl⟩)
    · have m := ok.m
      have p1 := ep.1
      have tx := ep.tx (n := 0) r1 m.1 m.2 (by decide) (by decide)
      have fr : Fr [54, 61, 62] (mi g) f' := fun x hx => by
        simp only [List.mem_cons, List.not_mem_nil, or_false, not_or] at hx
        exact p1 x hx.1 hx.2.1 hx.2.2
      refine ⟨_, f', ml g, Or.inl ⟨ok, rfl, rfl⟩, rfl, r.ch (fun j hj => ep.2.1 j ?_) (fun x hx => fr x ?_) (fun _ _ => rfl) ⟨tx, r2.fr (ep.2.1 14 (by decide)) (fr 63 (by decide)), r3.fr (ep.2.1 1 (by decide)) (fr 55 (by decide)), r4.fr (fr 56 (by decide)), r5.fr2 (ep.2.1 56 (by decide)) (fr 92 (by decide)) (fr 93 (by decide)) rfl⟩, fr.mono (by decide), Fr.refl⟩
      · have : ∀ j ∈ [17, 32, 35, 36, 37, 45, 50, 51, 52], j ≠ 9 := by decide
        exact this j hj
      · have : ∀ x ∈ [64, 65, 67, 68, 69, 78, 81, 82, 83, 84, 85, 86, 87, 90], x ∉ [54, 61, 62] := by decide
        exact this x hx
    · exact ⟨_, mi g, ml g, Or.inr ⟨ok, rfl, rfl⟩, rfl, r, Fr.refl, Fr.refl⟩
  · obtain ⟨X, OU, TD, CH, GS, CS, MS, PH⟩ := s
    rcases q with ⟨_, _, rfl⟩ | ⟨_, _, rfl⟩ <;> exact pu
theorem q_fault : C_fault IvW IvW := by
  rintro h a H ⟨⟨X, OU, TD, CH, GS, CS, MS, PH⟩, pu, cl, rf⟩
  obtain ⟨O, sm, _⟩ := id cl
  have A := sp_Ho_fault (h := h) (f := mi h) (l := ml h) a
  rw [← H.sil] at A
  refine pI0 (P := fun r => r = if a = 0 then X.2.2.2.1 else if a = 1 then X.2.2.2.2 else -1) (P' := fun r => r = if a = 0 then X.2.2.2.1 else if a = 1 then X.2.2.2.2 else -1) (T := []) H pu cl rf (by decide) (SpI.mono A ?_) (fun g hS r => SpI.mono (sp_Ref_fault a) ?_) (fun r r' p p' => p.trans p'.symm)
  · rintro r _ ⟨rfl, e⟩
    rw [sm.1.2.2.2.1, sm.1.2.2.2.2] at e
    exact ⟨e, Kp.refl H⟩
  · rintro r _ ⟨rfl, e⟩
    rw [‹RfS (mi g) (ml g) _›.1.1.2.2.2.1, ‹RfS (mi g) (ml g) _›.1.1.2.2.2.2] at e
    exact ⟨e, Rf0.same ‹_›⟩
theorem q_letter : C_letter IvW IvW := by
  rintro h a H ⟨⟨X, OU, TD, CH, GS, CS, MS, PH⟩, pu, cl, rf⟩
  obtain ⟨O, sm, _⟩ := id cl
  have A := sp_Ho_letter (h := h) (f := mi h) (l := ml h) sm.2.1 pu.1 a
  rw [← H.sil] at A
  refine pI0 (P := fun r => LtA OU a r) (P' := fun r => LtA OU a r) (T := []) H pu cl rf (by decide) (SpI.mono A ?_) (fun g hS r => SpI.mono (sp_Ref_letter r.1.2.1 pu.1 a) ?_) (fun r r' p p' => p.fn pu.1 p')
  · rintro r _ ⟨p, rfl⟩
    exact ⟨p, Kp.refl H⟩
  · rintro r _ ⟨p, rfl⟩
    exact ⟨p, Rf0.same ‹_›⟩
theorem tl_cl {h g : MH} {X : TxS} {OU OU' TD : List Nat} {CH : Nat → Prop} {GS : List (List Nat)} {CS : List S6} {MS : List Mdl} {PH : List Ph} (H : SS h) (cl : ClS h (X, OU, TD, CH, GS, CS, MS, PH)) (t : TlC h (mi h) (ml h) OU' g) : ClS g (X, OU', TD, CH, GS, CS, MS, PH) ∧ CK h g := by
  obtain ⟨O, sm, _⟩ := id cl
  obtain ⟨f', rfl, fr, f6, oc⟩ := t
  refine cl.sm H (A := [6, 12, 37, 38]) (l' := ml h) fr Fr.refl (by decide) (fun j _ => by rw [fr 5 (by decide)]) (sm.ch (fun x hx => fr x ?_) rfl ⟨sm.1.fr (fr 7 (by decide)) (f6 2 (by decide)) (fr 8 (by decide)) (f6 4 (by decide)) (f6 5 (by decide)), oc, sm.2.2.1.fr (by rw [fr 5 (by decide)]) (fr 13 (by decide)), sm.2.2.2.1.fr (fr 14 (by decide))⟩)
  have : ∀ x ∈ [2, 3, 4, 50, 51, 52], x ∉ [6, 12, 37, 38] := by decide
  exact this x hx
theorem tl_rf {g g' : MH} {X : TxS} {OU OU' TD : List Nat} {CH : Nat → Prop} {GS : List (List Nat)} {CS : List S6} {MS : List Mdl} {PH : List Ph} (r : RfS (mi g) (ml g) (X, OU, TD, CH, GS, CS, MS, PH)) (t : TlR g (mi g) (ml g) OU' g') : Rf0 g (X, OU', TD, CH, GS, CS, MS, PH) g' := by
  obtain ⟨r1, r2, r3, r4, r5⟩ := r.1
  obtain ⟨f', rfl, fr, f5, oc⟩ := t
  refine ⟨f', ml g, rfl, r.ch (fun j hj => f5 j ?_) (fun x hx => fr x ?_) (fun _ _ => rfl) ⟨r1.fr (fr 61 (by decide)) (f5 9 (by decide)) (fr 62 (by decide)) (f5 10 (by decide)) (f5 11 (by decide)), oc, r3.fr (f5 1 (by decide)) (fr 55 (by decide)), r4.fr (fr 56 (by decide)), r5.fr2 (f5 56 (by decide)) (fr 92 (by decide)) (fr 93 (by decide)) rfl⟩, fr.mono (by decide), Fr.refl⟩
  · have : ∀ j ∈ [17, 32, 35, 36, 37, 45, 50, 51, 52], j ≠ 14 := by decide
    exact this j hj
  · have : ∀ x ∈ [64, 65, 67, 68, 69, 78, 81, 82, 83, 84, 85, 86, 87, 90], x ∉ [54, 57, 58, 63] := by decide
    exact this x hx
theorem q_tell : C_tell IvW IvW := by
  rintro h a H ⟨⟨X, OU, TD, CH, GS, CS, MS, PH⟩, pu, cl, rf⟩
  obtain ⟨O, sm, _⟩ := id cl
  have A := sp_Ho_tell (h := h) (f := mi h) (l := ml h) sm.2.2.1 sm.2.1 a
  rw [← H.sil] at A
  refine pI (Q := fun r s => ∃ OU', TlA TD OU a r OU' ∧ s = (X, OU', TD, CH, GS, CS, MS, PH)) (Q' := fun r s => ∃ OU', TlA TD OU a r OU' ∧ s = (X, OU', TD, CH, GS, CS, MS, PH)) H rf (SpI.mono A ?_) (fun g hS r => SpI.mono (sp_Ref_tell r.1.2.2.1 r.1.2.1 a) ?_) ?_ ?_
  · rintro r g ⟨OU', t, w⟩
    exact ⟨_, ⟨OU', t, rfl⟩, tl_cl H cl w⟩
  · rintro r' g' ⟨OU', t, w⟩
    obtain ⟨f', l', w'⟩ := tl_rf r w
    exact ⟨_, f', l', ⟨OU', t, rfl⟩, w'⟩
  · rintro s1 s2 r r' ⟨O1, t1, rfl⟩ ⟨O2, t2, rfl⟩
    obtain ⟨e1, e2⟩ := t1.fn sm.2.2.1.1 t2
    exact ⟨e1, by rw [e2]⟩
  · rintro s1 r ⟨O1, t1, rfl⟩
    refine ⟨?_, pu.2⟩
    rcases t1 with ⟨k, _, _, _, rfl⟩ | ⟨_, _, rfl⟩
    · exact tellL_len _
    · exact pu.1
theorem q_tellOf : C_tellOf IvW IvW := by
  rintro h a b H ⟨⟨X, OU, TD, CH, GS, CS, MS, PH⟩, pu, cl, rf⟩
  obtain ⟨O, sm, hg, _⟩ := id cl
  refine pI (Q := fun r s => ∃ OU', ToA GS OU a b r OU' ∧ s = (X, OU', TD, CH, GS, CS, MS, PH)) (Q' := fun r s => ∃ OU', ToA GS OU a b r OU' ∧ s = (X, OU', TD, CH, GS, CS, MS, PH)) H rf (SpI.mono (sp_Ho_tellOf H hg sm.2.1 a b) ?_) (fun g hS r => SpI.mono (sp_Ref_tellOf r.2.1.1 hg.ok r.1.2.1 a b) ?_) ?_ ?_
  · rintro r g ⟨OU', t, w⟩
    exact ⟨_, ⟨OU', t, rfl⟩, tl_cl H cl w⟩
  · rintro r' g' ⟨OU', t, w⟩
    obtain ⟨f', l', w'⟩ := tl_rf r w
    exact ⟨_, f', l', ⟨OU', t, rfl⟩, w'⟩
  · rintro s1 s2 r r' ⟨O1, t1, rfl⟩ ⟨O2, t2, rfl⟩
    obtain ⟨e1, e2⟩ := t1.fn hg.1 hg.ok t2
    exact ⟨e1, by rw [e2]⟩
  · rintro s1 r ⟨O1, t1, rfl⟩
    refine ⟨?_, pu.2⟩
    rcases t1 with ⟨i, j, _, _, _, _, _, rfl⟩ | ⟨_, _, rfl⟩
    · exact tellL_len _
    · exact pu.1
