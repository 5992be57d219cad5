/-! what both sides stand for -/
abbrev TxS := (Nat → Int32) × Nat × (Nat → Int32) × Int32 × Int32
abbrev Sta := TxS × List Nat × List Nat × (Nat → Prop) × List (List Nat) × List S6 × List Mdl × List Ph
def TxA (f : (Nat → Nat → Int32)) (w o p t q r : Nat) (X : TxS) : Prop := (∀ j, j < 20 → f w j = X.1 j) ∧ (f o p = nI X.2.1 ∧ X.2.1 ≤ 100) ∧ f t = X.2.2.1 ∧ f o q = X.2.2.2.1 ∧ f o r = X.2.2.2.2
def SmC (f : (Nat → Nat → Int32)) (l : (Nat → Nat → Int64)) (X : TxS) (OU TD : List Nat) (CH : Nat → Prop) (PH : List Ph) : Prop := TxA f 7 6 2 8 4 5 X ∧ OutC f OU ∧ HTold f TD ∧ Chs f 14 CH ∧ PhA f l 51 52 53 50 3 PH ∧ KeysAt f ∧ CosAt f ∧ LatAt f
def ClS (h : MH) : Sta → Prop := fun (X, OU, TD, CH, GS, CS, MS, PH) => ∃ O, SmC (mi h) (ml h) X OU TD CH PH ∧ HGrp h O GS ∧ HCel h O CS ∧ HMdl h O GS.length CS MS
def RfS (f : (Nat → Nat → Int32)) (l : (Nat → Nat → Int64)) : Sta → Prop := fun (X, OU, TD, CH, GS, CS, MS, PH) => (TxA f 61 54 9 62 10 11 X ∧ OutR f OU ∧ RTold f TD ∧ Chs f 56 CH ∧ PhA f l 92 93 94 54 56 PH) ∧ (RGrp f GS ∧ RKn f l GS) ∧ (RCel f l CS ∧ RMu f l CS) ∧ RMdl f MS ∧ RLin f l CS MS
def PuS : Sta → Prop := fun (_, OU, TD, CH, _, _, _, PH) => OU.length ≤ 48 ∧ (∀ i, CH i → i < TD.length) ∧ okPh PH
def IvW (h : MH) : Prop := ∃ s, PuS s ∧ ClS h s ∧ RfS (mi h) (ml h) s
/-! small parts -/
theorem TxA.fr {f f' : (Nat → Nat → Int32)} {w o p t q r : Nat} {X : TxS} (a : TxA f w o p t q r X) (e1 : f' w = f w) (e2 : f' o p = f o p) (e3 : f' t = f t) (e4 : f' o q = f o q) (e5 : f' o r = f o r) : TxA f' w o p t q r X := by
  unfold TxA at *
  rw [e1, e2, e3, e4, e5]
  exact a
theorem OutC.fr {f f' : (Nat → Nat → Int32)} {OU : List Nat} (a : OutC f OU) (e1 : f' 6 8 = f 6 8) (e2 : f' 12 = f 12) : OutC f' OU := by
  unfold OutC at *
  rw [e1, e2]
  exact a
theorem OutR.fr {f f' : (Nat → Nat → Int32)} {OU : List Nat} (a : OutR f OU) (e1 : f' 54 14 = f 54 14) (e2 : f' 63 = f 63) : OutR f' OU := by
  unfold OutR at *
  rw [e1, e2]
  exact a
theorem HTold.fr {f f' : (Nat → Nat → Int32)} {TD : List Nat} (a : HTold f TD) (e1 : f' 5 3 = f 5 3) (e2 : f' 13 = f 13) : HTold f' TD := by
  unfold HTold at *
  rw [e1, e2]
  exact a
theorem RTold.fr {f f' : (Nat → Nat → Int32)} {TD : List Nat} (a : RTold f TD) (e1 : f' 54 1 = f 54 1) (e2 : f' 55 = f 55) : RTold f' TD := by
  unfold RTold at *
  rw [e1, e2]
  exact a
theorem Chs.fr {f f' : (Nat → Nat → Int32)} {a : Nat} {CH : Nat → Prop} (c : Chs f a CH) (e : f' a = f a) : Chs f' a CH := by
  unfold Chs at *
  rw [e]
  exact c
theorem PhA.fr2 {f f' : (Nat → Nat → Int32)} {l l' : (Nat → Nat → Int64)} {a b c o v : Nat} {PH : List Ph} (p : PhA f l a b c o v PH) (e1 : f' o v = f o v) (e2 : f' a = f a) (e3 : f' b = f b) (e4 : l' c = l c) : PhA f' l' a b c o v PH := by
  unfold PhA at *
  rw [e1, e2, e3, e4]
  exact p
theorem RLin.fr {f f' : (Nat → Nat → Int32)} {l l' : (Nat → Nat → Int64)} {CS : List S6} {MS : List Mdl} (p : RLin f l CS MS) (e0 : f' 54 50 = f 54 50) (e1 : f' 54 51 = f 54 51) (e2 : f' 54 52 = f 54 52) (e3 : f' 90 = f 90) (e4 : l' 89 = l 89) (e5 : l' 91 = l 91) : RLin f' l' CS MS := by
  unfold RLin RLAt RLn at *
  rw [e0, e1, e2, e3, e4, e5]
  exact p
theorem SmC.fr {f f' : (Nat → Nat → Int32)} {l l' : (Nat → Nat → Int64)} {X : TxS} {OU TD : List Nat} {CH : Nat → Prop} {PH : List Ph} (s : SmC f l X OU TD CH PH) (e5 : f' 5 3 = f 5 3) (e : ∀ a ∈ [2, 3, 4, 6, 7, 8, 12, 13, 14, 50, 51, 52], f' a = f a) (e53 : l' 53 = l 53) : SmC f' l' X OU TD CH PH := by
  obtain ⟨s1, s2, s3, s4, s5, s6, s7, s8⟩ := s
  have e6 := e 6 (by decide)
  refine ⟨s1.fr (e 7 (by decide)) (by rw [e6]) (e 8 (by decide)) (by rw [e6]) (by rw [e6]), s2.fr (by rw [e6]) (e 12 (by decide)), s3.fr e5 (e 13 (by decide)), s4.fr (e 14 (by decide)), s5.fr2 (by rw [e 50 (by decide)]) (e 51 (by decide)) (e 52 (by decide)) e53, ?_, ?_, ?_⟩
  · intro j hj; rw [e 2 (by decide)]; exact s6 j hj
  · intro j hj; rw [e 3 (by decide)]; exact s7 j hj
  · intro j hj; rw [e 4 (by decide)]; exact s8 j hj
/-- what a call of the class leaves alone -/
def CK (h g : MH) : Prop := Sc h g ∧ ∀ a, 54 ≤ a → a < 99 → mi g a = mi h a ∧ ml g a = ml h a
theorem CK.refl {h : MH} (H : SS h) : CK h h := ⟨⟨H, rfl, rfl⟩, fun _ _ _ => ⟨rfl, rfl⟩⟩
theorem CK.kp {A : List Nat} {h g : MH} (H : SS h) (c : Kp A h g) (hA : ∀ a ∈ A, (2 ≤ a ∧ a < 54) ∨ 99 ≤ a) : CK h g := by
  have h99 := H.1
  have no : ∀ a, a < 99 → (a < 2 ∨ 54 ≤ a) → a ∉ A := fun a h1 h2 q => by
    have := hA a q
    omega
  refine ⟨⟨c.1, c.n (by omega), c.i (by omega) (no 1 (by omega) (by omega))⟩, fun a h1 h2 => ⟨c.i (by omega) (no a h2 (by omega)), c.l (by omega) (no a h2 (by omega))⟩⟩
theorem CK.stp {h g : MH} {O O' : Nat → Nat} {T : List Nat} {P : Nat → Prop} (H : SS h) (c : StpO h g O O' T P) (hT : ∀ a ∈ T, 2 ≤ a ∧ a < 54) : CK h g := by
  obtain ⟨A, k, a, _⟩ := c
  exact CK.kp H k (fun x hx => (a x hx).elim (fun q => Or.inl (hT x q)) (fun q => Or.inr q.1))
theorem RfS.fr {f f' : (Nat → Nat → Int32)} {l l' : (Nat → Nat → Int64)} {s : Sta} (r : RfS f l s) (e : ∀ a, 54 ≤ a → a < 99 → f' a = f a ∧ l' a = l a) : RfS f' l' s := by
  obtain ⟨X, OU, TD, CH, GS, CS, MS, PH⟩ := s
  obtain ⟨⟨r1, r2, r3, r4, r5⟩, ⟨r6, r7⟩, ⟨r8, r9⟩, r10, r11⟩ := r
  have i : ∀ a, 54 ≤ a ∧ a < 99 → f' a = f a := fun a h => (e a h.1 h.2).1
  have j : ∀ a, 54 ≤ a ∧ a < 99 → l' a = l a := fun a h => (e a h.1 h.2).2
  have i54 := i 54 (by decide)
  refine ⟨⟨r1.fr (i 61 (by decide)) (by rw [i54]) (i 62 (by decide)) (by rw [i54]) (by rw [i54]), r2.fr (by rw [i54]) (i 63 (by decide)), r3.fr (by rw [i54]) (i 55 (by decide)), r4.fr (i 56 (by decide)), r5.fr2 (by rw [i54]) (i 92 (by decide)) (i 93 (by decide)) (j 94 (by decide))⟩, ⟨r6.fr (by rw [i54]) (i 64 (by decide)) (i 65 (by decide)), r7.fr (i 67 (by decide)) (i 68 (by decide)) (i 69 (by decide)) (j 70 (by decide))⟩, ⟨r8.fr (by rw [i54]) (j 76 (by decide)) (j 77 (by decide)) (i 78 (by decide)), r9.fr (by rw [i54]) (by rw [i54]) (by rw [i54]) (j 80 (by decide))⟩, r10.fr (by rw [i54]) (fun a ha => i a ?_), r11.fr (by rw [i54]) (by rw [i54]) (by rw [i54]) (i 90 (by decide)) (j 89 (by decide)) (j 91 (by decide))⟩
  have : ∀ a ∈ MdIds, 54 ≤ a ∧ a < 99 := by decide
  exact this a ha
def KeepIds : List Nat := [1, 2, 3, 4, 5, 6, 7, 8, 12, 13, 14, 29, 43, 44, 50, 51, 52, 53]
theorem ClS.kp {A : List Nat} {h k : MH} {s : Sta} (H : SS h) (c : ClS h s) (K : Kp A h k) (hA : ∀ a ∈ A, a < 99 ∧ a ∉ KeepIds) : ClS k s := by
  obtain ⟨X, OU, TD, CH, GS, CS, MS, PH⟩ := s
  obtain ⟨O, sm, hg, hc, hm⟩ := c
  have h99 := H.1
  have no : ∀ a ∈ KeepIds, a ∉ A := fun a ha q => (hA a q).2 ha
  have lt : ∀ a ∈ KeepIds, a < 99 := by decide
  have i : ∀ a ∈ KeepIds, mi k a = mi h a := fun a ha => K.i (by have := lt a ha; omega) (no a ha)
  have r : ∀ a ∈ KeepIds, mr k a = mr h a := fun a ha => K.r (by have := lt a ha; omega) (no a ha)
  have i5 := i 5 (by decide)
  have sub : ∀ a ∈ [2, 3, 4, 6, 7, 8, 12, 13, 14, 50, 51, 52], a ∈ KeepIds := by decide
  refine ⟨O, sm.fr (by rw [i5]) (fun a ha => i a (sub a ha)) (K.l (by omega) (no 53 (by decide))), hg.kp H K (fun a ha => Or.inl ⟨(hA a ha).1, fun e => (hA a ha).2 (by rw [e]; decide)⟩) (by rw [i5]) (fun _ _ => rfl), hc.kp H K (fun a ha => Or.inl ⟨(hA a ha).1, fun e => (hA a ha).2 (by rw [e]; decide)⟩) (by rw [i5]) (fun _ _ => rfl), hm.kp H K (fun a ha => Or.inl ⟨(hA a ha).1, fun e => (hA a ha).2 (by rw [e]; decide)⟩) (by rw [i5]) (fun _ _ => rfl) (fun j _ => by rw [r 29 (by decide)]) (fun j _ => by rw [r 43 (by decide)]) (Nat.le_refl _) (Nat.le_refl _) (fun _ _ => rfl)⟩
def RF : List Nat := [54, 55, 56, 57, 58, 59, 60, 61, 62, 63, 64, 65, 66, 67, 68, 69, 70, 71, 72, 73, 74, 75, 76, 77, 78, 79, 80, 81, 82, 83, 84, 85, 86, 87, 88, 89, 90, 91, 92, 93, 94, 95, 96, 97, 98]
theorem RF_k : ∀ a ∈ RF, a < 99 ∧ a ∉ KeepIds := by decide
/-- what the pairs of calls need -/
def RfP (g : MH) (Q : Sta → Prop) (g' : MH) : Prop := ∃ s f' l', Q s ∧ g' = sil g f' l' ∧ RfS f' l' s ∧ Fr RF (mi g) f' ∧ Fr RF (ml g) l'
def ClP (h : MH) (Q : Sta → Prop) (g : MH) : Prop := ∃ s, Q s ∧ ClS g s ∧ CK h g
theorem pair_end {h g : MH} {s : Sta} {f' : (Nat → Nat → Int32)} {l' : (Nat → Nat → Int64)} (H : SS h) (ck : CK h g) (c : ClS g s) (r : RfS f' l' s) (pu : PuS s) (fr1 : Fr RF (mi g) f') (fr2 : Fr RF (ml g) l') : Sc h (sil g f' l') ∧ IvW (sil g f' l') := by
  have K : Kp RF g (sil g f' l') := Kp.si3 ck.1.1 fr1 fr2
  have h99 := ck.1.1.1
  refine ⟨ck.1.trans ⟨K.1, K.n (by omega), K.i (by omega) (by decide)⟩, s, pu, c.kp ck.1.1 K RF_k, ?_⟩
  rw [mi_sil, ml_sil]
  exact r
theorem pI {kH kR : Nat} {as : List Value} {h : MH} {s : Sta} {Q Q' : Int32 → Sta → Prop} (H : SS h) (rf : RfS (mi h) (ml h) s)
    (A : SpI kH (.ref 5 :: as) h (fun r g => ClP h (Q r) g))
    (B : ∀ g, SS g → RfS (mi g) (ml g) s → SpI kR (.ref 54 :: as) (sil g (mi g) (ml g)) (fun r g' => RfP g (Q' r) g'))
    (fn : ∀ s1 s2 r r', Q r s1 → Q' r' s2 → r = r' ∧ s1 = s2) (pu : ∀ s1 r, Q r s1 → PuS s1) : PaI kH kR as h IvW := by
  refine SpI.mono A ?_
  rintro r g ⟨s1, q, c1, ck⟩
  have B' := B g ck.1.1 (rf.fr ck.2)
  rw [← ck.1.1.sil] at B'
  refine ⟨ck.1, SpI.mono B' ?_⟩
  rintro r' _ ⟨s2, f', l', q', rfl, r2, fr1, fr2⟩
  obtain ⟨e1, e2⟩ := fn s1 s2 r r' q q'
  subst e2
  exact ⟨e1, pair_end H ck c1 r2 (pu s1 r q) fr1 fr2⟩
theorem pL {kH kR : Nat} {as : List Value} {h : MH} {s : Sta} {Q Q' : Int64 → Sta → Prop} (H : SS h) (rf : RfS (mi h) (ml h) s)
    (A : SpL kH (.ref 5 :: as) h (fun r g => ClP h (Q r) g))
    (B : ∀ g, SS g → RfS (mi g) (ml g) s → SpL kR (.ref 54 :: as) (sil g (mi g) (ml g)) (fun r g' => RfP g (Q' r) g'))
    (fn : ∀ s1 s2 r r', Q r s1 → Q' r' s2 → r = r' ∧ s1 = s2) (pu : ∀ s1 r, Q r s1 → PuS s1) : PaL kH kR as h IvW := by
  refine SpL.mono A ?_
  rintro r g ⟨s1, q, c1, ck⟩
  have B' := B g ck.1.1 (rf.fr ck.2)
  rw [← ck.1.1.sil] at B'
  refine ⟨ck.1, SpL.mono B' ?_⟩
  rintro r' _ ⟨s2, f', l', q', rfl, r2, fr1, fr2⟩
  obtain ⟨e1, e2⟩ := fn s1 s2 r r' q q'
  subst e2
  exact ⟨e1, pair_end H ck c1 r2 (pu s1 r q) fr1 fr2⟩
