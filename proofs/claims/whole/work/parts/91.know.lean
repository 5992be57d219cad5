/-! what the reference knows of a group -/
def KnIds : List Nat := [57, 58, 59, 60, 95, 96, 67, 68, 69, 71, 72, 73, 74]
def KnI (f : (Nat → Nat → Int32)) (l : (Nat → Nat → Int64)) (S : List Nat) (i : Nat) : Prop := f 67 i = nI (alikeN S) ∧ ∃ L, HvL S L ∧ L.length < 128 ∧ f 68 i = nI L.length ∧ HbR l i S.length L
def RKn (f : (Nat → Nat → Int32)) (l : (Nat → Nat → Int64)) (GS : List (List Nat)) : Prop := (∀ i, GS.length ≤ i → i < 60 → f 69 i = 0) ∧ ∀ i, i < GS.length → f 69 i = 0 ∨ (f 69 i = 1 ∧ KnI f l (GS.getD i []) i)
theorem RKn.fr {f f' : (Nat → Nat → Int32)} {l l' : (Nat → Nat → Int64)} {GS : List (List Nat)} (h : RKn f l GS) (e7 : f' 67 = f 67) (e8 : f' 68 = f 68) (e9 : f' 69 = f 69) (e0 : l' 70 = l 70) : RKn f' l' GS := by
  unfold RKn KnI HbR WdR at *
  rw [e7, e8, e9, e0]
  exact h
theorem HbR.other {i j n : Nat} {l l' : (Nat → Nat → Int64)} {L : List (Nat → Bool)} (h : HbR l i n L) (ll : L.length < 128) (fr : LFr j l l') (ne : i ≠ j) : HbR l' i n L := fun k hk => by
  have := h k hk
  unfold WdR at *
  rw [fr.2 _ (by omega), fr.2 _ (by omega), fr.2 _ (by omega)]
  exact this
def TbK (f : (Nat → Nat → Int32)) (S : List Nat) (a b : Nat) : Prop := ∀ i j, i < S.length → j < S.length → (i < a ∨ (i = a ∧ j < b)) → ∃ k, k < S.length ∧ f 71 (192 * i + j) = nI k ∧ Pr (S.getD i 0) (S.getD j 0) (S.getD k 0)
theorem sp_Ref_know {h : MH} {f : (Nat → Nat → Int32)} {l : (Nat → Nat → Int64)} {GS : List (List Nat)} {i : Nat} (hg : RGrp f GS) (ok : ∀ S ∈ GS, GOk S) (hi : i < GS.length) (kn : RKn f l GS) :
    SpV k_Ref_know [.ref 54, .int (nI i)] (sil h f l) (fun y => ∃ f' l', y = sil h f' l' ∧ Fr KnIds f f' ∧ Fr [70] l l' ∧ RKn f' l' GS ∧ KnI f' l' (GS.getD i []) i) := by
  have i60 := hg.1
  have okS := ok _ (gD_mem hi)
  have w := okS.2.1
  have mem := hg.2.2.2 i hi
  have t192 : (192 : Int32) = nI 192 := rfl
  refine v_Ref_know _ _ _ _ ⟨K54, ?_⟩
  rw [R54_22, R54_16, ix_nI (by omega)]
  refine ⟨K69, InB_nI (show i < 60 by omega) (by omega), fun q0 => ?_, fun q1 => ?_⟩
  rotate_left
  · rcases kn.2 i hi with q | q
    · exact absurd q q1
    · exact ⟨f, l, rfl, Fr.refl, Fr.refl, kn, q.2⟩
  rintro _ rfl
  rw [wi_sil, mi_sil, up2_ne (by decide), mem.1]
  refine ⟨K65, InB_nI (show i < 60 by omega) (by omega), ?_⟩
  have memT := mem.2
  -- the table stands
  have fin : ∀ f1 : (Nat → Nat → Int32), Fr KnIds f f1 → f1 67 = f 67 → f1 68 = f 68 → f1 69 = up2 f 69 i 1 69 → TbAt f1 (GS.getD i []) →
      WM k_Ref_know p_Ref_know_1 [.ref 54, .int (nI i), .int (nI (GS.getD i []).length), .int (nI (GS.getD i []).length), Jv] [] (sil h f1 l) 0 0 (fun _ y => ∃ f' l', y = sil h f' l' ∧ Fr KnIds f f' ∧ Fr [70] l l' ∧ RKn f' l' GS ∧ KnI f' l' (GS.getD i []) i) := by
    intro f1 fr e67 e68 e69 tb
    refine v_Ref_know_1 _ _ _ _ _ _ ⟨fun q => absurd q (by omega), fun _ => ⟨K54, SpI.mono (sp_Ref_countAlike okS tb) ?_⟩⟩
    rintro _ _ ⟨rfl, f2, rfl, fr2⟩
    rw [R54_20, ix_nI (by omega)]
    refine ⟨K67, InB_nI (show i < 60 by omega) (by omega), ?_⟩
    rintro _ rfl
    rw [wi_sil]
    have fr3 : Fr KnIds f (up2 f2 67 i (nI (alikeN (GS.getD i [])))) := (fr.trans (fr2.mono (by decide))).up (by decide)
    have hg3 : RGrp (up2 f2 67 i (nI (alikeN (GS.getD i [])))) GS := hg.fr (by rw [fr3 54 (by decide)]) (fr3 64 (by decide)) (fr3 65 (by decide))
    refine ⟨K54, SpV.mono (sp_Ref_gatherHalves hg3 hi okS (tb.fr (by rw [up2_row (by decide)]; exact fr2 71 (by decide)))) ?_⟩
    rintro _ ⟨f4, l4, L, rfl, fr4, f68, lf, hv, ll, h68, hb⟩
    have ki : KnI f4 l4 (GS.getD i []) i := ⟨by rw [fr4 67 (by decide), up2_s], L, hv, ll, h68, hb⟩
    have e9 : ∀ j, f4 69 j = up2 f 69 i 1 69 j := fun j => by rw [fr4 69 (by decide), up2_ne (by decide), fr2 69 (by decide), e69]
    have e7 : ∀ j, j ≠ i → f4 67 j = f 67 j := fun j hj => by rw [fr4 67 (by decide), up2_ni hj, fr2 67 (by decide), e67]
    have e8 : ∀ j, j ≠ i → f4 68 j = f 68 j := fun j hj => by rw [f68 j hj, up2_ne (by decide), fr2 68 (by decide), e68]
    refine ⟨f4, l4, rfl, fr3.trans (fr4.mono (by decide)), fun a ha => lf.1 a (fun e => ha (by rw [e]; decide)), ⟨fun j h1 h2 => ?_, fun j hj => ?_⟩, ki⟩
    · rw [e9, up2_ni (by omega)]; exact kn.1 j h1 h2
    · by_cases e : j = i
      · subst e; exact Or.inr ⟨by rw [e9, up2_s], ki⟩
      · rw [e9, up2_ni e]
        refine (kn.2 j hj).imp id (fun ⟨a, b, L', c1, c2, c3, c4⟩ => ⟨a, ?_, L', c1, c2, ?_, c4.other c2 lf e⟩)
        · rw [e7 j e]; exact b
        · rw [e8 j e]; exact c3
  generalize hS : GS.getD i [] = S at *
  have rows : ∀ d a (f1 : (Nat → Nat → Int32)), S.length - a = d → a ≤ S.length → Fr (71 :: RtIds) (up2 f 69 i 1) f1 → TbK f1 S a 0 →
      WM k_Ref_know p_Ref_know_1 [.ref 54, .int (nI i), .int (nI S.length), .int (nI a), Jv] [] (sil h f1 l) 0 0 (fun _ y => ∃ f' l', y = sil h f' l' ∧ Fr KnIds f f' ∧ Fr [70] l l' ∧ RKn f' l' GS ∧ KnI f' l' S i) := by
    intro d
    induction d with
    | zero =>
      intro a f1 hd ha fr tk
      have e : a = S.length := by omega
      subst e
      refine fin f1 (fun x hx => ?_) (by rw [fr 67 (by decide)]; exact up2_row (by decide)) (by rw [fr 68 (by decide)]; exact up2_row (by decide)) (fr 69 (by decide)) (fun x y hx hy => tk x y hx hy (Or.inl hx))
      have sub : ∀ x ∈ 71 :: RtIds, x ∈ KnIds := by decide
      rw [fr x (fun q => hx (sub x q)), up2_row (fun q => hx (by rw [q]; decide))]
    | succ d ih =>
      intro a f1 hd ha fr tk
      have al : a < S.length := by omega
      refine v_Ref_know_1 _ _ _ _ _ _ ⟨fun _ => ?_, fun q => absurd (by rw [nI_toI (by omega), nI_toI (by omega)]; omega) q⟩
      have cols : ∀ c b (f1 : (Nat → Nat → Int32)), S.length - b = c → b ≤ S.length → Fr (71 :: RtIds) (up2 f 69 i 1) f1 → TbK f1 S a b →
          WM k_Ref_know p_Ref_know_2 [.ref 54, .int (nI i), .int (nI S.length), .int (nI a), .int (nI b)] [] (sil h f1 l) 0 0 (fun _ y => ∃ f' l', y = sil h f' l' ∧ Fr KnIds f f' ∧ Fr [70] l l' ∧ RKn f' l' GS ∧ KnI f' l' S i) := by
        intro c
        induction c with
        | zero =>
          intro b f1 hc hb fr tk
          refine v_Ref_know_2 _ _ _ _ _ _ _ ⟨fun q => absurd q (by rw [nI_toI (by omega), nI_toI (by omega)]; omega), fun _ => ?_⟩
          rw [nI_1]
          exact ih (a + 1) f1 (by omega) (by omega) fr (fun x y hx hy o => tk x y hx hy (by omega))
        | succ c ihc =>
          intro b f1 hc hb fr tk
          have bl : b < S.length := by omega
          have e64 : f1 64 = f 64 := (fr 64 (by decide)).trans (up2_row (by decide))
          have aS := getD_mem al
          have bS := getD_mem bl
          obtain ⟨pz, zS, ez⟩ := okS.pr aS bS
          refine v_Ref_know_2 _ _ _ _ _ _ _ ?_
          rw [nI_toI (by omega), nI_toI (by omega), R54_15, R54_24, t192, nI_mul, nI_mul, nI_add, nI_add, nI_add, ix_nI (by omega), ix_nI (by omega), ix_nI (by omega), mi_sil, e64, memT a al, memT b bl, nI_1]
          refine ⟨fun _ => ⟨K54, K64, InB_nI (show 192 * i + a < 11520 by omega) (by omega), InB_nI (show 192 * i + b < 11520 by omega) (by omega), SpI.mono (times_fr (okS.c _ aS) (okS.c _ bS)) ?_⟩, fun q => absurd (by omega) q⟩
          rintro r _ ⟨rfl, f2, rfl, fr2⟩
          have fr2' : Fr (71 :: RtIds) (up2 f 69 i 1) f2 := fr.trans (fr2.mono (fun x hx => List.mem_cons_of_mem _ hx))
          have hg2 : RGrp f2 GS := hg.fr (by rw [fr2' 54 (by decide)]; exact up2_ne (by decide)) ((fr2' 64 (by decide)).trans (up2_row (by decide))) ((fr2' 65 (by decide)).trans (up2_row (by decide)))
          rw [ez, zI_nat]
          generalize (prod (S.getD a 0) (S.getD b 0)).toNat = z at *
          have zb : z < 272097792 := okS.c _ zS
          refine ⟨K54, SpI.mono (sp_Ref_find hg2 hi (by rw [hS]; exact okS.1) (by rw [hS]; exact okS.ne) _) ?_⟩
          rw [hS, nI_toI (by omega)]
          rintro r y ⟨rfl, fd⟩
          rcases fd with ⟨k, hk, ek, rfl⟩ | ⟨_, no⟩
          rotate_left
          · obtain ⟨j, hj, ej⟩ := mem_getD zS
            exact absurd (by rw [ej]) (no j hj)
          have ek : S.getD k 0 = z := by omega
          refine ⟨K71, InB_nI (show 192 * a + b < 36864 by omega) (by omega), ?_⟩
          rintro _ rfl
          rw [wi_sil]
          refine ihc (b + 1) _ (by omega) (by omega) (fr2'.up (by decide)) (fun x y hx hy o => ?_)
          by_cases e : x = a ∧ y = b
          · obtain ⟨rfl, rfl⟩ := e
            exact ⟨k, hk, up2_s, by rw [ek]; exact pz⟩
          · rw [up2_ni (by omega), fr2 71 (by decide)]
            exact tk x y hx hy (by omega)
      exact cols _ 0 f1 rfl (Nat.zero_le _) fr tk
  exact rows _ 0 _ rfl (Nat.zero_le _) Fr.refl (fun x y hx hy o => by omega)
