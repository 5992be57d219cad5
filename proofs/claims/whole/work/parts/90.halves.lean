/-! the reference gathers the halves -/
theorem sh1 : ∀ k, k < 8 → ((1 : Int32) <<< ((nI k) &&& (31 : Int32))).toInt = ((2 ^ k : Nat) : Int) := by decide +kernel
theorem gc_in {S GN : List Nat} (hG : ∀ i ∈ GN, i < S.length) {g : Nat} (h : GC S GN g) : g ∈ S := by
  obtain ⟨i, hi, e⟩ := h
  rw [← e]; exact getD_mem (hG i hi)
theorem gc_reach {S GN : List Nat} (ok : GOk S) (hG : ∀ i ∈ GN, i < S.length) : ∀ y, reach (GC S GN) y → y ∈ S := by
  refine reach_ind _ ok.2.2.2.1 ?_
  rintro x g y _ hx hg p
  obtain ⟨y', hy, py⟩ := ok.2.2.2.2 x hx g (gc_in hG hg)
  rw [py.fn p] at hy
  exact hy
theorem gc_ops {S GN : List Nat} (ok : GOk S) (hG : ∀ i ∈ GN, i < S.length) : Ops (GC S GN) := fun g hg => ok.2.2.1 g (gc_in hG hg)
theorem gc_tot {S GN : List Nat} (ok : GOk S) (hG : ∀ i ∈ GN, i < S.length) : Total (GC S GN) := fun x hx g hg => by
  obtain ⟨y, _, p⟩ := ok.2.2.2.2 x (gc_reach ok hG x hx) g (gc_in hG hg)
  exact ⟨y, p⟩
theorem gc_add {S GN : List Nat} {k g : Nat} : GC S (GN ++ [k]) g ↔ (GC S GN g ∨ g = S.getD k 0) := by
  constructor
  · rintro ⟨i, hi, e⟩
    rcases ls_mem.mp hi with q | q
    · exact Or.inl ⟨i, q, e⟩
    · subst q; exact Or.inr e.symm
  · rintro (⟨i, hi, e⟩ | e)
    · exact ⟨i, ls_mem.mpr (Or.inl hi), e⟩
    · exact ⟨k, ls_mem.mpr (Or.inr rfl), e.symm⟩
/-- the list of the places of all that some make -/
def Rq (S GN Q : List Nat) : Prop := Q.Nodup ∧ (∀ q ∈ Q, q < S.length) ∧ ∀ j, j < S.length → (j ∈ Q ↔ reach (GC S GN) (S.getD j 0))
theorem Rq.full {S GN Q : List Nat} (h : Rq S GN Q) (l : S.length ≤ Q.length) : ∀ j, j < S.length → reach (GC S GN) (S.getD j 0) := fun j hj => by
  refine (h.2.2 j hj).mp (Classical.byContradiction fun nj => ?_)
  have := qlen (j :: Q) (List.nodup_cons.mpr ⟨nj, h.1⟩) (fun x hx => (List.mem_cons.mp hx).elim (fun e => e ▸ hj) (h.2.1 x))
  rw [List.length_cons] at this
  omega
theorem Rq.same {S GN Q Q' : List Nat} {k : Nat} (ok : GOk S) (hG : ∀ i ∈ GN, i < S.length) (hk : k < S.length) (h : Rq S GN Q) (h' : Rq S (GN ++ [k]) Q') : (reach (GC S GN) (S.getD k 0) ∧ Q'.length = Q.length) ∨ (¬ reach (GC S GN) (S.getD k 0) ∧ 2 * Q.length ≤ Q'.length) := by
  have hG' : ∀ i ∈ GN ++ [k], i < S.length := fun i hi => (ls_mem.mp hi).elim (hG i) (fun e => e ▸ hk)
  by_cases q : reach (GC S GN) (S.getD k 0)
  · refine Or.inl ⟨q, ?_⟩
    have := (reach_same (G := GC S (GN ++ [k])) (gc_ops ok hG) (gc_tot ok hG) (fun g hg => gc_add.mpr (Or.inl hg)) (fun g hg => (gc_add.mp hg).elim (fun z => reach_gen (gc_ops ok hG) z) (fun z => z ▸ q))).1
    refine len_eq h'.1 h.1 (fun x => ⟨fun hx => ?_, fun hx => ?_⟩)
    · have xl := h'.2.1 x hx
      exact (h.2.2 x xl).mpr ((this _).mp ((h'.2.2 x xl).mp hx))
    · have xl := h.2.1 x hx
      exact (h'.2.2 x xl).mpr ((this _).mpr ((h.2.2 x xl).mp hx))
  · refine Or.inr ⟨q, ?_⟩
    have e : (fun g => GC S GN g ∨ g = S.getD k 0) = GC S (GN ++ [k]) := funext fun g => propext gc_add.symm
    have memM : ∀ {R : Nat → Prop} {P : List Nat}, (∀ y, R y → y ∈ S) → (∀ q ∈ P, q < S.length) → (∀ j, j < S.length → (j ∈ P ↔ R (S.getD j 0))) → ∀ y, y ∈ P.map (fun j => S.getD j 0) ↔ R y := by
      intro R P h1 h2 h3 y
      rw [List.mem_map]
      constructor
      · rintro ⟨j, hj, e⟩
        rw [← e]; exact (h3 j (h2 j hj)).mp hj
      · intro r
        obtain ⟨j, hj, e⟩ := mem_getD (h1 y r)
        exact ⟨j, (h3 j hj).mpr (by rw [e]; exact r), e⟩
    have := doubles (G := GC S GN) (L := Q.map (fun j => S.getD j 0)) (M := Q'.map (fun j => S.getD j 0)) (c := S.getD k 0) (gc_ops ok hG) (ok.2.2.1 _ (getD_mem hk)) (gc_tot ok hG) (map_nodup h.1 (fun x hx y hy e => srt_ix ok.1 (h.2.1 x hx) (h.2.1 y hy) e)) (memM (gc_reach ok hG) h.2.1 h.2.2) (by rw [e]; exact gc_tot ok hG') (fun y hy => by rw [e] at hy; exact (memM (gc_reach ok hG') h'.2.1 h'.2.2 y).mpr hy) q
    rw [List.length_map, List.length_map] at this
    exact this
/-- a character is known by what it says of makers -/
theorem hom_uniq {S GN : List Nat} (ok : GOk S) (hG : ∀ i ∈ GN, i < S.length) {m m' : Nat → Bool} (h : HomI S m) (h' : HomI S m') (e : ∀ i ∈ GN, m i = m' i) : ∀ y, reach (GC S GN) y → ∀ j, j < S.length → S.getD j 0 = y → m j = m' j := by
  refine reach_ind _ ?_ ?_
  · intro j hj ej; rw [h.id hj ej, h'.id hj ej]
  · rintro x g y rx ih ⟨i, hi, ei⟩ p j hj ej
    obtain ⟨u, hu, eu⟩ := mem_getD (gc_reach ok hG x rx)
    have pr : Pr (S.getD u 0) (S.getD i 0) (S.getD j 0) := by rw [eu, ei, ej]; exact p
    rw [h u i j hu (hG i hi) hj pr, h' u i j hu (hG i hi) hj pr, ih u hu eu, e i hi]
def HsL (S GN : List Nat) (c : Nat) (L : List (Nat → Bool)) : Prop := L.Pairwise (Ahd S.length) ∧ L.length + 1 ≤ c ∧ ∀ m, m ∈ L ↔ ((∀ i, S.length ≤ i → m i = false) ∧ ∃ d, 1 ≤ d ∧ d < c ∧ Agr S GN d m)
theorem HsL.fin {S GN : List Nat} {L : List (Nat → Bool)} (ok : GOk S) (hG : ∀ i ∈ GN, i < S.length) (all : ∀ j, j < S.length → reach (GC S GN) (S.getD j 0)) (h : HsL S GN (2 ^ GN.length) L) : HvL S L := by
  refine ⟨h.1, fun m => (h.2.2 m).trans ⟨?_, ?_⟩⟩
  · rintro ⟨z, d, d1, d2, hm⟩
    obtain ⟨q, hq⟩ := Nat.exists_testBit_of_ne_zero (show d ≠ 0 by omega)
    have ql : q < GN.length := by
      rcases Nat.lt_or_ge q GN.length with w | w
      · exact w
      · have p := Nat.pow_le_pow_right (show 0 < 2 by decide) w
        rw [Nat.testBit_lt_two_pow (by omega)] at hq
        exact absurd hq (by decide)
    exact ⟨z, hm.1, _, hG _ (getD_mem ql), by rw [hm.2 q ql, hq]⟩
  · rintro ⟨z, hm, i1, h1, t1⟩
    obtain ⟨d, dl, db⟩ := bits_of GN.length (fun i => m (GN.getD i 0))
    refine ⟨z, d, ?_, dl, hm, fun i hi => (db i hi).symm⟩
    rcases Nat.eq_zero_or_pos d with q | q
    · exfalso
      have zero : HomI S (fun _ => false) := fun _ _ _ _ _ _ _ => rfl
      have := hom_uniq ok hG hm zero (fun i hi => by
        obtain ⟨a, ha, ea⟩ := mem_getD hi
        have := db a ha
        rw [q, Nat.zero_testBit, ea] at this
        exact this.symm) _ (all i1 h1) i1 h1 rfl
      rw [t1] at this
      exact absurd this (by decide)
    · exact q
def GhP (h : MH) (f : (Nat → Nat → Int32)) (l : (Nat → Nat → Int64)) (S : List Nat) (i : Nat) (y : MH) : Prop := ∃ f' l' L, y = sil h f' l' ∧ Fr [68, 72, 73, 74] f f' ∧ (∀ j, j ≠ i → f' 68 j = f 68 j) ∧ LFr i l l' ∧ HvL S L ∧ L.length < 128 ∧ f' 68 i = nI L.length ∧ HbR l' i S.length L
theorem sp_Ref_gatherHalves {h : MH} {f : (Nat → Nat → Int32)} {l : (Nat → Nat → Int64)} {GS : List (List Nat)} {i : Nat} (hg : RGrp f GS) (hi : i < GS.length) (ok : GOk (GS.getD i [])) (tb : TbAt f (GS.getD i [])) :
    SpV k_Ref_gatherHalves [.ref 54, .int (nI i), .int (nI (GS.getD i []).length)] (sil h f l) (fun y => GhP h f l (GS.getD i []) i y) := by
  have i60 := hg.1
  have w := ok.2.1
  have ne := ok.ne
  refine v_Ref_gatherHalves _ _ _ _ _ (SpI.mono sp_Ref_identity ?_)
  rintro r0 y0 ⟨rfl, rfl⟩
  refine ⟨K54, SpI.mono (sp_Ref_find hg hi ok.1 ne _) ?_⟩
  rintro r y ⟨rfl, fd⟩
  rw [nI_toI (by decide)] at fd
  rcases fd with ⟨e, he, ee, rfl⟩ | ⟨_, no⟩
  rotate_left
  · obtain ⟨j, hj, ej⟩ := mem_getD ok.2.2.2.1
    exact absurd (by rw [ej]; rfl) (no j hj)
  generalize GS.getD i [] = S at *
  have ee : S.getD e 0 = idc := by unfold idc; omega
  -- the choices, one by one
  have cho : ∀ (GN : List Nat), (∀ q ∈ GN, q < S.length) → GN.length ≤ 7 → (∀ j, j < S.length → reach (GC S GN) (S.getD j 0)) → ∀ d c (f1 : (Nat → Nat → Int32)) (l1 : (Nat → Nat → Int64)) (L : List (Nat → Bool)), 2 ^ GN.length - c = d → 1 ≤ c → c ≤ 2 ^ GN.length → Fr [68, 72, 73, 74] f f1 → (∀ j, j ≠ i → f1 68 j = f 68 j) → LFr i l l1 → GnAt f1 S.length GN → HsL S GN c L → f1 68 i = nI L.length → HbR l1 i S.length L →
      WM k_Ref_gatherHalves p_Ref_gatherHalves_3 [.ref 54, .int (nI i), .int (nI S.length), .int (nI e), .int (nI GN.length), Jv, .int (nI c), Jv] [] (sil h f1 l1) 0 0 (fun _ y => GhP h f l S i y) := by
    intro GN hG g7 all
    have p7 : 2 ^ GN.length ≤ 128 := by
      have := Nat.pow_le_pow_right (show 0 < 2 by decide) g7
      omega
    intro d
    induction d with
    | zero =>
      intro c f1 l1 L hd c1 c2 fr f68 lf gn hs h68 hb
      have e1 : c = 2 ^ GN.length := by omega
      refine v_Ref_gatherHalves_3 _ _ _ _ _ _ _ _ ?_
      rw [nI_toI (by omega), sh1 _ (by omega)]
      refine ⟨fun q => absurd q (by omega), fun _ => ⟨f1, l1, L, rfl, fr, f68, lf, ?_, by have := hs.2.1; omega, h68, hb⟩⟩
      rw [e1] at hs
      exact hs.fin ok hG all
    | succ d ih =>
      intro c f1 l1 L hd c1 c2 fr f68 lf gn hs h68 hb
      refine v_Ref_gatherHalves_3 _ _ _ _ _ _ _ _ ?_
      rw [nI_toI (by omega), sh1 _ (by omega)]
      simp only [nI_1]
      refine ⟨fun _ => ⟨K54, SpI.mono (sp_Ref_isHalf ok (tb.fr (fr 71 (by decide))) gn g7 (by omega) he ee all) ?_⟩, fun q => absurd (by omega) q⟩
      rintro r y ⟨f2, rfl, fr2, ⟨rfl, m, hm, mz, mk⟩ | ⟨rfl, no⟩⟩
      · refine ⟨fun q => absurd q (by decide), fun _ => ⟨K54, ?_⟩⟩
        have ll := hs.2.1
        have e68 : f2 68 = f1 68 := fr2 68 (by decide)
        refine SpV.mono (sp_Ref_keepHalf (L := L) (m := m) w (by omega) mk (by rw [e68]; exact h68) (by omega) hb hs.1 (fun x hx => ?_)) ?_
        · obtain ⟨_, d, d1, d2, hx⟩ := (hs.2.2 x).mp hx
          refine Classical.byContradiction fun none => ?_
          have : d = c := Nat.eq_of_testBit_eq (fun t => by
            rcases Nat.lt_or_ge t GN.length with q | q
            · rw [← hx.2 t q, ← hm.2 t q]
              exact Classical.byContradiction fun z => none ⟨_, hG _ (getD_mem q), z⟩
            · have p := Nat.pow_le_pow_right (show 0 < 2 by decide) q
              rw [Nat.testBit_lt_two_pow (by omega), Nat.testBit_lt_two_pow (by omega)])
          omega
        · rintro _ ⟨l2, L2, rfl, lf2, hb2, pw2, mem2, len2⟩
          have fr3 : Fr [68, 72, 73, 74] f (up2 f2 68 i (nI L2.length)) := (fr.trans (fr2.mono (by decide))).up (by decide)
          refine ih (c + 1) _ l2 L2 (by omega) (by omega) (by omega) fr3 (fun j hj => ?_) (lf.trans lf2) ?_ ⟨pw2, by omega, fun x => ?_⟩ up2_s hb2
          · rw [up2_ni hj, e68]; exact f68 j hj
          · refine gn.fr ?_
            rw [up2_row (by decide)]; exact fr2 73 (by decide)
          · rw [mem2 x, hs.2.2 x]
            constructor
            · rintro (q | ⟨z, d, d1, d2, hx⟩)
              · subst q; exact ⟨mz, c, c1, by omega, hm⟩
              · exact ⟨z, d, d1, by omega, hx⟩
            · rintro ⟨z, d, d1, d2, hx⟩
              by_cases q : d = c
              · subst q
                refine Or.inl (funext fun t => ?_)
                rcases Nat.lt_or_ge t S.length with tl | tl
                · exact hom_uniq ok hG hx.1 hm.1 (fun a ha => by
                    obtain ⟨b, hb, eb⟩ := mem_getD ha
                    rw [← eb, hx.2 b hb, hm.2 b hb]) _ (all t tl) t tl rfl
                · rw [z t tl, mz t tl]
              · exact Or.inr ⟨z, d, d1, by omega, hx⟩
      · refine ⟨fun _ => ?_, fun q => absurd rfl q⟩
        have e68 : f2 68 = f1 68 := fr2 68 (by decide)
        refine ih (c + 1) f2 l1 L (by omega) (by omega) (by omega) (fr.trans (fr2.mono (by decide))) (fun j hj => by rw [e68]; exact f68 j hj) lf (gn.fr (fr2 73 (by decide))) ⟨hs.1, by have := hs.2.1; omega, fun x => ?_⟩ (by rw [e68]; exact h68) hb
        rw [hs.2.2 x]
        constructor
        · rintro ⟨z, d, d1, d2, hx⟩; exact ⟨z, d, d1, by omega, hx⟩
        · rintro ⟨z, d, d1, d2, hx⟩
          by_cases q : d = c
          · subst q; exact absurd ⟨x, hx⟩ no
          · exact ⟨z, d, d1, by omega, hx⟩
  have fin : ∀ (GN : List Nat) (f1 : (Nat → Nat → Int32)), (∀ q ∈ GN, q < S.length) → GN.length ≤ 7 → (∀ j, j < S.length → reach (GC S GN) (S.getD j 0)) → Fr [72, 73, 74] f f1 → GnAt f1 S.length GN →
      WM k_Ref_gatherHalves p_Ref_gatherHalves_3 [.ref 54, .int (nI i), .int (nI S.length), .int (nI e), .int (nI GN.length), Jv, .int (1 : Int32), Jv] [] (wi (sil h f1 l) 68 i 0) 0 0 (fun _ y => GhP h f l S i y) := by
    intro GN f1 hG g7 all fr gn
    rw [wi_sil]
    refine cho GN hG g7 all _ 1 _ l [] rfl (Nat.le_refl _) (Nat.one_le_two_pow) ((fr.mono (by decide)).up (by decide)) (fun j hj => ?_) LFr.refl ?_ ⟨List.Pairwise.nil, by simp, fun m => ⟨fun q => absurd q List.not_mem_nil, fun ⟨_, d, d1, d2, _⟩ => by omega⟩⟩ up2_s (fun k hk => absurd hk (Nat.not_lt_zero k))
    · rw [up2_ni hj]; rw [fr 68 (by decide)]
    · refine gn.fr ?_
      rw [up2_row (by decide)]
  have gens : ∀ d k (GN Q : List Nat) (f1 : (Nat → Nat → Int32)), S.length - k = d → k ≤ S.length → Fr [72, 73, 74] f f1 → GnAt f1 S.length GN → (∀ q ∈ GN, q < S.length) → 2 ^ GN.length ≤ Q.length → Rq S GN Q → (∀ k', k' < k → reach (GC S GN) (S.getD k' 0)) →
      WM k_Ref_gatherHalves p_Ref_gatherHalves_1 [.ref 54, .int (nI i), .int (nI S.length), .int (nI e), .int (nI GN.length), .int (nI Q.length), .int (nI k), Jv] [] (sil h f1 l) 0 0 (fun _ y => GhP h f l S i y) := by
    have g7 : ∀ {GN Q : List Nat}, 2 ^ GN.length ≤ Q.length → Rq S GN Q → GN.length ≤ 7 := fun h1 h2 => sd_b7 (by have := qlen _ h2.1 h2.2.1; omega)
    intro d
    induction d with
    | zero =>
      intro k GN Q f1 hd hk fr gn hG pw rq dn
      have gl := g7 pw rq
      refine v_Ref_gatherHalves_1 _ _ _ _ _ _ _ _ _ ?_
      rw [nI_toI (by omega), nI_toI (by omega), R54_21, ix_nI (by omega)]
      refine ⟨fun q => absurd q (by omega), fun _ => ⟨K54, K68, InB_nI (show i < 60 by omega) (by omega), ?_⟩⟩
      rintro _ rfl
      exact fin GN f1 hG gl (fun j hj => dn j (by omega)) fr gn
    | succ d ih =>
      intro k GN Q f1 hd hk fr gn hG pw rq dn
      have gl := g7 pw rq
      have ql := qlen _ rq.1 rq.2.1
      refine v_Ref_gatherHalves_1 _ _ _ _ _ _ _ _ _ ?_
      rw [nI_toI (by omega), nI_toI (by omega), nI_toI (by omega), R54_21, ix_nI (by omega)]
      refine ⟨fun _ => ⟨fun qa => ?_, fun qa => ⟨K54, K68, InB_nI (show i < 60 by omega) (by omega), ?_⟩⟩, fun q => absurd (by omega) q⟩
      · have clr : ∀ b t (f2 : (Nat → Nat → Int32)), S.length - t = b → t ≤ S.length → Fr [72, 73, 74] f f2 → GnAt f2 S.length GN → (∀ j, j < t → f2 72 j = nI 0) →
            WM k_Ref_gatherHalves p_Ref_gatherHalves_2 [.ref 54, .int (nI i), .int (nI S.length), .int (nI e), .int (nI GN.length), .int (nI Q.length), .int (nI k), .int (nI t)] [] (sil h f2 l) 0 0 (fun _ y => GhP h f l S i y) := by
          intro b
          induction b with
          | zero =>
            intro t f2 hb ht fr2 gn2 z
            refine v_Ref_gatherHalves_2 _ _ _ _ _ _ _ _ _ _ ?_
            rw [nI_toI (by omega), nI_toI (by omega), R54_26, ix_nI (show GN.length < 2147483648 by omega)]
            simp only [nI_1]
            refine ⟨fun q => absurd q (by omega), fun _ => ⟨K54, K73, InB_nI (show GN.length < 16 by omega) (by omega), ?_⟩⟩
            rintro _ rfl
            rw [wi_sil, ← ls_len GN k]
            have gn3 : GnAt (up2 f2 73 GN.length (nI k)) S.length (GN ++ [k]) := fun a ha => by
              rw [ls_len] at ha
              by_cases q : a = GN.length
              · subst q; rw [up2_s, getD_end]; exact ⟨rfl, by omega⟩
              · rw [up2_ni q, getD_left (by omega)]; exact gn2 a (by omega)
            have hG3 : ∀ a ∈ GN ++ [k], a < S.length := fun a ha => (ls_mem.mp ha).elim (hG a) (fun q => by omega)
            have fr3 : Fr [72, 73, 74] f (up2 f2 73 GN.length (nI k)) := fr2.up (by decide)
            refine SpI.mono (sp_Ref_made ok (tb.fr (fr3 71 (by decide))) gn3 (by rw [ls_len]; omega) he ee (fun j hj => by rw [up2_ne (by decide)]; exact z j (by omega))) ?_
            rintro r y ⟨⟨Q', n1, n2, n3, rfl⟩, f4, rfl, fr4⟩
            have rq' : Rq S (GN ++ [k]) Q' := ⟨n1, n2, n3⟩
            have ql' := qlen _ n1 n2
            have gn4 := gn3.fr (fr4 73 (by decide))
            rcases rq.same ok hG (by omega) rq' with ⟨a, b⟩ | ⟨a, b⟩
            · rw [b]
              refine ⟨fun _ => ih (k + 1) GN Q f4 (by omega) (by omega) (fr3.trans (fr4.mono (by decide))) (fun j hj => ?_) hG pw rq (fun k' hk' => ?_), fun q => absurd rfl q⟩
              · have := gn4 j (by rw [ls_len]; omega)
                rw [getD_left hj] at this
                exact this
              · by_cases q : k' = k
                · subst q; exact a
                · exact dn k' (by omega)
            · have q0 : 0 < Q.length := by
                have := Nat.one_le_two_pow (n := GN.length)
                omega
              rw [nI_inj (by omega) (by omega)]
              refine ⟨fun q => absurd q (by omega), fun _ => ih (k + 1) (GN ++ [k]) Q' f4 (by omega) (by omega) (fr3.trans (fr4.mono (by decide))) gn4 hG3 (by rw [ls_len, Nat.pow_succ]; omega) rq' (fun k' hk' => ?_)⟩
              by_cases q : k' = k
              · subst q; exact reach_gen (gc_ops ok hG3) (gc_add.mpr (Or.inr rfl))
              · exact reach_mono (fun g hg => gc_add.mpr (Or.inl hg)) (dn k' (by omega))
          | succ b ihb =>
            intro t f2 hb ht fr2 gn2 z
            refine v_Ref_gatherHalves_2 _ _ _ _ _ _ _ _ _ _ ?_
            rw [nI_toI (by omega), nI_toI (by omega), R54_25, ix_nI (show t < 2147483648 by omega)]
            simp only [nI_1]
            refine ⟨fun _ => ⟨K54, K72, InB_nI (show t < 200 by omega) (by omega), ?_⟩, fun q => absurd (by omega) q⟩
            rintro _ rfl
            rw [wi_sil]
            refine ihb (t + 1) _ (by omega) (by omega) (fr2.up (by decide)) (gn2.fr (up2_row (by decide))) (fun j hj => ?_)
            by_cases q : j = t
            · subst q; rw [up2_s]; rfl
            · rw [up2_ni q]; exact z j (by omega)
        exact clr _ 0 f1 rfl (Nat.zero_le _) fr gn (fun j hj => absurd hj (Nat.not_lt_zero j))
      · rintro _ rfl
        exact fin GN f1 hG gl (rq.full (by omega)) fr gn
  refine gens _ 0 [] [e] f rfl (Nat.zero_le _) Fr.refl (fun a ha => absurd ha (Nat.not_lt_zero a)) (fun a ha => absurd ha List.not_mem_nil) (Nat.le_refl 1) ⟨by simp, fun q hq => ?_, fun j hj => ⟨fun hq => ?_, fun r => ?_⟩⟩ (fun k' hk' => absurd hk' (Nat.not_lt_zero k'))
  · rw [List.mem_singleton] at hq; rw [hq]; exact he
  · rw [List.mem_singleton] at hq; rw [hq, ee]; exact reach_id
  · have key : ∀ y, reach (GC S []) y → y = idc := reach_ind _ rfl (fun _ g _ _ _ ⟨a, ha, _⟩ _ => absurd ha List.not_mem_nil)
    exact List.mem_singleton.mpr (srt_ix ok.1 hj he ((key _ r).trans ee.symm))
