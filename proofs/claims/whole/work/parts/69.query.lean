/-! what is asked of a group: its product, what is within it -/
def MoIds : List Nat := [31, 32, 34, 35, 37, 38]
theorem joined_fr {h : MH} {f : (Nat → Nat → Int32)} {l : (Nat → Nat → Int64)} {p q : Nat} (hp : cOK p) (hq : cOK q) : SpI k_Ho_joined [.ref 5, .int (nI p), .int (nI q)] (sil h f l) (fun r g => r = zI (prod p q) ∧ ∃ f', g = sil h f' l ∧ Fr MoIds f f') :=
  SpI.mono (sp_Ho_joined hp hq) (fun r g q => ⟨q.1, by
    obtain ⟨f', e, fr⟩ := q.2
    exact ⟨f', e, fun a ha => fr a (fun q => ha (by rw [q]; decide)) (fun q => ha (by rw [q]; decide)) (fun q => ha (by rw [q]; decide)) (fun q => ha (by rw [q]; decide)) (fun q => ha (by rw [q]; decide)) (fun q => ha (by rw [q]; decide))⟩⟩)
/-- the group of a number, in the class -/
theorem sp_Ho_groupAt {h : MH} {O : Nat → Nat} {GS : List (List Nat)} (H : SS h) (hg : HGrp h O GS) (x : Int32) : SpR k_Ho_groupAt [.ref 5, .int x] h (fun r g => g = h ∧ ((∃ i, i < GS.length ∧ x = nI i ∧ r = mr h 29 i ∧ r ≠ 0) ∨ (¬ (0 ≤ x.toInt ∧ x.toInt < GS.length) ∧ r = 0))) := by
  obtain ⟨g1, g2, g3⟩ := hg
  have e29 : mr h 5 5 = 29 := H.2.2.2 (5, 5, 29) (by decide)
  refine v_Ho_groupAt _ _ _ _ ?_
  rw [g2, nI_toI (by omega), e29]
  refine ⟨fun c => ⟨_, rfl, rfl, Or.inr ⟨fun q => by omega, rfl⟩⟩, fun c1 => ⟨H.k5, fun c2 => ?_, fun c => ⟨_, rfl, rfl, Or.inr ⟨fun q => by omega, rfl⟩⟩⟩⟩
  obtain ⟨i, rfl, hi⟩ := op_x c1 c2 (by omega)
  obtain ⟨_, ⟨MK, b, _⟩, _⟩ := g3 i hi
  have := b.1.1
  rw [ix_nI (by omega)]
  exact ⟨H.k29, by rw [H.2.2.1 (29, 60) (by decide)]; exact InB_nI (by omega) (by omega), ⟨_, rfl, rfl, Or.inl ⟨i, hi, rfl, rfl, by omega⟩⟩⟩
theorem sp_Ref_isGroup {h : MH} {f : (Nat → Nat → Int32)} {l : (Nat → Nat → Int64)} {GS : List (List Nat)} (hg : RGrp f GS) (x : Int32) : SpI k_Ref_isGroup [.ref 54, .int x] (sil h f l) (fun r g => g = sil h f l ∧ ((∃ i, i < GS.length ∧ x = nI i ∧ r = 1) ∨ (¬ (0 ≤ x.toInt ∧ x.toInt < GS.length) ∧ r = 0))) := by
  obtain ⟨g1, g2, g3, g4⟩ := hg
  refine v_Ref_isGroup _ _ _ _ ?_
  rw [mi_sil, g3, nI_toI (by omega)]
  refine ⟨fun c => ⟨_, rfl, rfl, Or.inr ⟨fun q => by omega, rfl⟩⟩, fun c1 => ⟨K54, fun c2 => ?_, fun c => ⟨_, rfl, rfl, Or.inr ⟨fun q => by omega, rfl⟩⟩⟩⟩
  obtain ⟨i, rfl, hi⟩ := op_x c1 c2 (by omega)
  exact ⟨_, rfl, rfl, Or.inl ⟨i, hi, rfl, rfl⟩⟩
theorem sp_Ref_isMember {h : MH} {f : (Nat → Nat → Int32)} {l : (Nat → Nat → Int64)} {GS : List (List Nat)} (hg : RGrp f GS) (x y : Int32) : SpI k_Ref_isMember [.ref 54, .int x, .int y] (sil h f l) (fun r g => g = sil h f l ∧ ((∃ i j, i < GS.length ∧ j < (GS.getD i []).length ∧ x = nI i ∧ y = nI j ∧ r = 1) ∨ ((¬ ∃ i j, i < GS.length ∧ j < (GS.getD i []).length ∧ x = nI i ∧ y = nI j) ∧ r = 0))) := by
  have g1 := hg.1
  refine v_Ref_isMember _ _ _ _ _ ⟨K54, SpI.mono (sp_Ref_isGroup hg x) ?_⟩
  rintro r _ ⟨rfl, (⟨i, hi, rfl, rfl⟩ | ⟨ni, rfl⟩)⟩
  · have w := (hg.2.1 _ (gD_mem hi)).1
    refine ⟨fun c => absurd c (by decide), fun _ => ?_⟩
    rw [R54_16, ix_nI (by omega), mi_sil, (hg.2.2.2 i hi).1, nI_toI (by omega)]
    have no : ∀ y : Int32, ¬ (0 ≤ y.toInt ∧ y.toInt < ((GS.getD i []).length : Int)) → ¬ ∃ i' j, i' < GS.length ∧ j < (GS.getD i' []).length ∧ nI i = nI i' ∧ y = nI j := by
      rintro y q ⟨i', j, hi', hj, e, rfl⟩
      rw [nI_inj (by omega) (by omega)] at e
      subst e
      rw [nI_toI (by omega)] at q
      omega
    refine ⟨fun c => ⟨_, rfl, rfl, Or.inr ⟨no y (by omega), rfl⟩⟩, fun c1 => ⟨K54, K65, InB_nI (show i < 60 by omega) (by omega), fun c2 => ?_, fun c => ⟨_, rfl, rfl, Or.inr ⟨no y (by omega), rfl⟩⟩⟩⟩
    obtain ⟨j, rfl, hj⟩ := op_x c1 c2 (by omega)
    exact ⟨_, rfl, rfl, Or.inl ⟨i, j, hi, hj, rfl, rfl, rfl⟩⟩
  · refine ⟨fun _ => ⟨_, rfl, rfl, Or.inr ⟨?_, rfl⟩⟩, fun c => absurd rfl c⟩
    rintro ⟨i, j, hi, _, rfl, _⟩
    rw [nI_toI (by omega)] at ni
    omega
/-- where a number stands among the members -/
def Fnd (S : List Nat) (y : Int) (r : Int32) : Prop := (∃ k, k < S.length ∧ (S.getD k 0 : Int) = y ∧ r = nI k) ∨ (r = -1 ∧ ∀ k, k < S.length → (S.getD k 0 : Int) ≠ y)
theorem Fnd.fn {S : List Nat} {y : Int} {r r' : Int32} (s : S.Pairwise (· < ·)) (h : Fnd S y r) (h' : Fnd S y r') : r = r' := by
  rcases h with ⟨k, hk, e, rfl⟩ | ⟨rfl, n⟩
  · rcases h' with ⟨k', hk', e', rfl⟩ | ⟨rfl, n⟩
    · have : k = k' := by
        rcases Nat.lt_trichotomy k k' with q | q | q
        · have := srt_lt s q hk'; omega
        · exact q
        · have := srt_lt s q hk; omega
      rw [this]
    · exact absurd e (n k hk)
  · rcases h' with ⟨k', hk', e', rfl⟩ | ⟨rfl, _⟩
    · exact absurd e' (n k' hk')
    · rfl
theorem sp_Ref_find {h : MH} {f : (Nat → Nat → Int32)} {l : (Nat → Nat → Int64)} {GS : List (List Nat)} {i : Nat} (hg : RGrp f GS) (hi : i < GS.length) (srt : (GS.getD i []).Pairwise (· < ·)) (ne : 0 < (GS.getD i []).length) (y : Int32) :
    SpI k_Ref_find [.ref 54, .int (nI i), .int y] (sil h f l) (fun r g => g = sil h f l ∧ Fnd (GS.getD i []) y.toInt r) := by
  obtain ⟨g1, g2, g3, g4⟩ := hg
  have w := (g2 _ (gD_mem hi)).1
  have cs := (g2 _ (gD_mem hi)).2
  have gi := g4 i hi
  generalize GS.getD i [] = S at *
  have main : ∀ d lo hg : Nat, hg - lo = d → lo ≤ hg → hg < S.length → (∀ j, j < lo → (S.getD j 0 : Int) < y.toInt) → (hg + 1 = S.length ∨ y.toInt ≤ (S.getD hg 0 : Int)) →
      WM k_Ref_find p_Ref_find_1 [.ref 54, .int (nI i), .int y, .int (nI lo), .int (nI hg), Jv] [] (sil h f l) 0 0 (fun v g => ∃ r, v = .int r ∧ g = sil h f l ∧ Fnd S y.toInt r) := by
    intro d
    induction d using Nat.strongRecOn with
    | ind d ih =>
      intro lo hg hd hl hh below above
      have c := cOK_mem cs (show lo < S.length by omega)
      refine v_Ref_find_1 _ _ _ _ _ _ _ ?_
      rw [nI_toI (by omega), nI_toI (by omega), R54_15, nI_add, show (2 : Int32) = nI 2 from rfl, div_nI (by omega) (by decide) (by decide), show (192 : Int32) = nI 192 from rfl, nI_mul, nI_add, nI_add]
      refine ⟨fun lt => ?_, fun nlt => ?_⟩
      · have mb : (lo + hg) / 2 < S.length := by omega
        have cm := cOK_mem cs mb
        rw [ix_nI (by omega), mi_sil, gi.2 _ mb, nI_toI (by omega), nI_1]
        refine ⟨K54, K64, InB_nI (show 192 * i + (lo + hg) / 2 < 11520 by omega) (by omega), fun q => ?_, fun q => ?_⟩
        · refine ih (hg - ((lo + hg) / 2 + 1)) (by omega) _ _ rfl (by omega) hh (fun j hj => ?_) above
          by_cases e : j = (lo + hg) / 2
          · rw [e]; exact q
          · have := srt_lt srt (show j < (lo + hg) / 2 by omega) mb
            omega
        · exact ih ((lo + hg) / 2 - lo) (by omega) _ _ rfl (by omega) mb below (Or.inr (by omega))
      · have e : lo = hg := by omega
        subst e
        rw [ix_nI (by omega), mi_sil, gi.2 _ hh]
        refine ⟨K54, K64, InB_nI (show 192 * i + lo < 11520 by omega) (by omega), fun q => ⟨_, rfl, rfl, Or.inl ⟨lo, hh, ?_, rfl⟩⟩, fun q => ⟨_, rfl, rfl, Or.inr ⟨rfl, fun k hk e => ?_⟩⟩⟩
        · rw [← q, nI_toI (by omega)]
        · rcases Nat.lt_trichotomy k lo with t | t | t
          · have := below k t; omega
          · subst t
            exact q (hb_eq (by rw [nI_toI (by omega)]; exact e))
          · rcases above with a | a
            · omega
            · have := srt_lt srt t hk
              omega
  refine v_Ref_find _ _ _ _ _ ⟨K54, ?_⟩
  rw [R54_16, ix_nI (by omega), mi_sil, gi.1, show nI S.length - (1 : Int32) = nI (S.length - 1) by show nI S.length - nI 1 = _; rw [pk_sub (by omega)]]
  exact ⟨K65, InB_nI (show i < 60 by omega) (by omega), main _ 0 (S.length - 1) rfl (by omega) (by omega) (fun j hj => absurd hj (Nat.not_lt_zero j)) (Or.inl (by omega))⟩
theorem GOk.ne {S : List Nat} (h : GOk S) : 0 < S.length := List.length_pos_of_mem h.2.2.2.1
theorem GOk.c {S : List Nat} (h : GOk S) : ∀ x ∈ S, cOK x := fun x hx => (h.2.2.1 x hx).1
/-- the answer of product -/
def ProdA (GS : List (List Nat)) (x y z : Int32) (r : Int32) : Prop := (∃ i j k, i < GS.length ∧ j < (GS.getD i []).length ∧ k < (GS.getD i []).length ∧ x = nI i ∧ y = nI j ∧ z = nI k ∧ Fnd (GS.getD i []) (prod ((GS.getD i []).getD j 0) ((GS.getD i []).getD k 0)) r) ∨
  ((¬ ∃ i j k, i < GS.length ∧ j < (GS.getD i []).length ∧ k < (GS.getD i []).length ∧ x = nI i ∧ y = nI j ∧ z = nI k) ∧ r = -1)
theorem sp_Ref_product {h : MH} {f : (Nat → Nat → Int32)} {l : (Nat → Nat → Int64)} {GS : List (List Nat)} (hg : RGrp f GS) (ok : ∀ S ∈ GS, GOk S) (x y z : Int32) : SpI k_Ref_product [.ref 54, .int x, .int y, .int z] (sil h f l) (fun r g => ProdA GS x y z r ∧ ∃ f', g = sil h f' l ∧ Fr RtIds f f') := by
  have g1 := hg.1
  refine v_Ref_product _ _ _ _ _ _ ⟨K54, SpI.mono (sp_Ref_isMember hg x y) ?_⟩
  rintro r _ ⟨rfl, (⟨i, j, hi, hj, rfl, rfl, rfl⟩ | ⟨ni, rfl⟩)⟩
  · refine ⟨fun c => absurd c (by decide), fun _ => ⟨K54, SpI.mono (sp_Ref_isMember hg (nI i) z) ?_⟩⟩
    rintro r _ ⟨rfl, (⟨i', k, hi', hk, e, rfl, rfl⟩ | ⟨ni, rfl⟩)⟩
    · rw [nI_inj (by omega) (by omega)] at e
      subst e
      have w := (hg.2.1 _ (gD_mem hi)).1
      have gi := hg.2.2.2 i hi
      have oS := ok _ (gD_mem hi)
      refine ⟨fun c => absurd c (by decide), fun _ => ⟨K54, ?_⟩⟩
      rw [R54_15, show (192 : Int32) = nI 192 from rfl, nI_mul, nI_add, nI_add, ix_nI (by omega), ix_nI (by omega), mi_sil, gi.2 j hj, gi.2 k hk]
      refine ⟨K64, InB_nI (show 192 * i + j < 11520 by omega) (by omega), InB_nI (show 192 * i + k < 11520 by omega) (by omega), SpI.mono (times_fr (oS.c _ (getD_mem hj)) (oS.c _ (getD_mem hk))) ?_⟩
      rintro r _ ⟨rfl, f', rfl, fr⟩
      have hg' : RGrp f' GS := ⟨hg.1, hg.2.1, by rw [fr 54 (by decide)]; exact hg.2.2.1, fun i hi => by rw [fr 65 (by decide), fr 64 (by decide)]; exact hg.2.2.2 i hi⟩
      refine ⟨K54, SpI.mono (sp_Ref_find hg' hi oS.1 oS.ne _) ?_⟩
      rintro r _ ⟨rfl, fd⟩
      refine ⟨_, rfl, Or.inl ⟨i, j, k, hi, hj, hk, rfl, rfl, rfl, ?_⟩, f', rfl, fr⟩
      have pr := prod_rng ((GS.getD i []).getD j 0) ((GS.getD i []).getD k 0)
      rw [zI_toI (by omega) (by omega)] at fd
      exact fd
    · refine ⟨fun _ => ⟨_, rfl, Or.inr ⟨?_, rfl⟩, f, rfl, Fr.refl⟩, fun c => absurd rfl c⟩
      rintro ⟨i', j', k', a1, a2, a3, a4, a5, a6⟩
      exact ni ⟨i', k', a1, a3, a4, a6⟩
  · refine ⟨fun _ => ⟨_, rfl, Or.inr ⟨?_, rfl⟩, f, rfl, Fr.refl⟩, fun c => absurd rfl c⟩
    rintro ⟨i', j', k', a1, a2, a3, a4, a5, a6⟩
    exact ni ⟨i', j', a1, a2, a4, a5⟩
theorem HGrp.at {h : MH} {O : Nat → Nat} {GS : List (List Nat)} (hg : HGrp h O GS) {i : Nat} (hi : i < GS.length) : GOk (GS.getD i []) ∧ (∃ MK, GrpB h O i (mr h 29 i) (GS.getD i []) MK ∧ Closed (GS.getD i []) MK) ∧ GrpC h O i (mr h 29 i) (GS.getD i []) := hg.2.2 i hi
theorem mo_lt {t : Nat} {O : Nat → Nat} : ∀ a ∈ MoIds, a < 99 ∨ O a ≠ t := fun a ha => Or.inl (by revert a; decide)
theorem sp_Ho_product {h : MH} {O : Nat → Nat} {GS : List (List Nat)} (H : SS h) (hg : HGrp h O GS) (x y z : Int32) : SpI k_Ho_product [.ref 5, .int x, .int y, .int z] h (fun r g => ProdA GS x y z r ∧ Kp MoIds h g) := by
  have g1 := hg.1
  refine v_Ho_product _ _ _ _ _ _ ⟨H.k5, SpR.mono (sp_Ho_groupAt H hg x) ?_⟩
  rintro r g0 ⟨e0, res⟩
  subst g0
  rcases res with ⟨i, hi, rfl, rfl, nz⟩ | ⟨ni, rfl⟩
  · obtain ⟨ok, ⟨MK, b, cl⟩, _⟩ := hg.at hi
    have w := ok.2.1
    obtain ⟨b0, ⟨b1, b2, _⟩, ⟨b3, b4, b5⟩, ⟨b6, b7, b8⟩, _⟩ := id b
    have no : ∀ y z : Int32, ¬ (0 ≤ y.toInt ∧ y.toInt < ((GS.getD i []).length : Int)) ∨ ¬ (0 ≤ z.toInt ∧ z.toInt < ((GS.getD i []).length : Int)) → ¬ ∃ i' j k, i' < GS.length ∧ j < (GS.getD i' []).length ∧ k < (GS.getD i' []).length ∧ nI i = nI i' ∧ y = nI j ∧ z = nI k := by
      rintro y z q ⟨i', j, k, hi', hj, hk, e, rfl, rfl⟩
      rw [nI_inj (by omega) (by omega)] at e
      subst e
      rw [nI_toI (by omega), nI_toI (by omega)] at q
      omega
    refine ⟨fun c => absurd c nz, fun _ => ?_⟩
    rw [b2, b4, b5, nI_toI (by omega)]
    refine ⟨fun c => ⟨_, rfl, Or.inr ⟨no y z (by omega), rfl⟩, Kp.refl H⟩, fun c1 => ⟨b1, b3, fun c2 => ⟨fun c => ⟨_, rfl, Or.inr ⟨no y z (by omega), rfl⟩, Kp.refl H⟩, fun c3 => ⟨fun c4 => ?_, fun c => ⟨_, rfl, Or.inr ⟨no y z (by omega), rfl⟩, Kp.refl H⟩⟩⟩, fun c => ⟨_, rfl, Or.inr ⟨no y z (by omega), rfl⟩, Kp.refl H⟩⟩⟩
    obtain ⟨j, rfl, hj⟩ := op_x c1 c2 (by omega)
    obtain ⟨k, rfl, hk⟩ := op_x c3 c4 (by omega)
    rw [ix_nI (by omega), ix_nI (by omega), b8 j hj, b8 k hk]
    refine ⟨b6, by rw [b7]; exact InB_nI hj (by omega), by rw [b7]; exact InB_nI hk (by omega), H.k5, ?_⟩
    have A := joined_fr (h := h) (f := mi h) (l := ml h) (ok.c _ (getD_mem hj)) (ok.c _ (getD_mem hk))
    rw [← H.sil] at A
    refine SpI.mono A ?_
    rintro r _ ⟨rfl, f', rfl, fr⟩
    have kp : Kp MoIds h (sil h f' (ml h)) := Kp.si3 H fr Fr.refl
    have b' := b.kp kp mo_lt (fun _ _ => rfl)
    refine ⟨b'.2.2.1.1, SpI.mono (sp_Row_find _ (b'.row ok.1 ok.2.1 ok.c)) ?_⟩
    have pr := prod_rng ((GS.getD i []).getD j 0) ((GS.getD i []).getD k 0)
    rw [zI_toI (by omega) (by omega)]
    rintro r _ ⟨rfl, fd⟩
    exact ⟨_, rfl, Or.inl ⟨i, j, k, hi, hj, hk, rfl, rfl, rfl, fd⟩, kp⟩
  · refine ⟨fun _ => ⟨_, rfl, Or.inr ⟨?_, rfl⟩, Kp.refl H⟩, fun c => absurd rfl c⟩
    rintro ⟨i, j, k, hi, _, _, rfl, _⟩
    rw [nI_toI (by omega)] at ni
    omega
theorem ProdA.fn {GS : List (List Nat)} {x y z r r' : Int32} (hl : GS.length ≤ 60) (ok : ∀ S ∈ GS, GOk S) (h : ProdA GS x y z r) (h' : ProdA GS x y z r') : r = r' := by
  rcases h with ⟨i, j, k, hi, hj, hk, rfl, rfl, rfl, fd⟩ | ⟨no, rfl⟩
  · rcases h' with ⟨i', j', k', hi', hj', hk', e1, e2, e3, fd'⟩ | ⟨no, rfl⟩
    · rw [nI_inj (by omega) (by omega)] at e1
      subst e1
      have w := (ok _ (gD_mem hi)).2.1
      rw [nI_inj (by omega) (by omega)] at e2 e3
      subst e2 e3
      exact fd.fn (ok _ (gD_mem hi)).1 fd'
    · exact absurd ⟨i, j, k, hi, hj, hk, rfl, rfl, rfl⟩ no
  · rcases h' with ⟨i', j', k', a1, a2, a3, a4, a5, a6, _⟩ | ⟨_, rfl⟩
    · exact absurd ⟨i', j', k', a1, a2, a3, a4, a5, a6⟩ no
    · rfl
