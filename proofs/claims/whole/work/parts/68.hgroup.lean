/-! the class's group -/
def HTold (f : (Nat → Nat → Int32)) (TD : List Nat) : Prop := TD.length ≤ 40 ∧ (∀ x ∈ TD, isOp x) ∧ f 5 3 = nI TD.length ∧ ∀ i, i < TD.length → f 13 i = nI (TD.getD i 0)
def HgIds : List Nat := 5 :: 14 :: 29 :: TkIds
/-- a call of the class that may keep a group: what stays -/
def HgFr (N : Nat) (h g : MH) : Prop := (∀ j, j ≠ 6 → mi g 5 j = mi h 5 j) ∧ ml g 5 = ml h 5 ∧ (∀ j, mr g 5 j = mr h 5 j) ∧ mi g 29 = mi h 29 ∧ (ml g 29 = ml h 29 ∧ ∀ i, i < N → mr g 29 i = mr h 29 i)
def HGrpP (h : MH) (O : Nat → Nat) (G : Nat → Prop) (GS : List (List Nat)) (r : Int32) (g : MH) : Prop := ∃ O' GS', Kp HgIds h g ∧ HgFr GS.length h g ∧ (∀ a, a < hn h → O' a = O a) ∧ Chs (mi g) 14 (fun _ => False) ∧ HGrp g O' GS' ∧
  ((¬ Good G ∧ r = -1 ∧ GS' = GS) ∨ (Good G ∧ ∃ S, S.Pairwise (· < ·) ∧ (∀ x, x ∈ S ↔ reach G x) ∧ Reg GS S r GS'))
theorem Fr.self {α : Type} {A : List Nat} {f f' : Nat → Nat → α} (h : f' = f) : Fr A f f' := fun a _ => by rw [h]
theorem sp_Ho_group {h : MH} {O : Nat → Nat} {TD : List Nat} {CH : Nat → Prop} {GS : List (List Nat)} (H : SS h) (ht : HTold (mi h) TD) (hc : Chs (mi h) 14 CH) (hC : ∀ i, CH i → i < TD.length) (hg : HGrp h O GS) :
    SpI k_Ho_group [.ref 5] h (fun r g => HGrpP h O (GOf TD CH) GS r g) := by
  have h99 := H.1
  obtain ⟨t1, t2, t3, t4⟩ := ht
  have eH := H.sil
  rw [eH]
  generalize ef : mi h = f at *
  generalize el : ml h = l at *
  have hG : Ops (GOf TD CH) := fun g ⟨i, hi, _, e⟩ => by rw [← e]; exact t2 _ (getD_mem hi)
  -- what an end leaves
  have fin : ∀ (f2 : (Nat → Nat → Int32)), Fr (14 :: TkIds) f f2 → Chs f2 14 (fun _ => False) → ∀ (r : Int32) (g : MH) (L : List Nat), (∀ y, y ∈ L ↔ reach (GOf TD CH) y) → Good (GOf TD CH) → KeepP (sil h f2 l) O GS L r g → HGrpP (sil h f l) O (GOf TD CH) GS r g := by
    rintro f2 fr ch r g L hL gd ⟨O', S, GS', kp, k5, l5, r5, i29, l29, hO, srt, mem, reg, hg2⟩
    have e5 : f2 5 = f 5 := fr 5 (by decide)
    refine ⟨O', GS', ?_, ⟨fun j hj => ?_, l5, r5, ?_, l29⟩, hO, ?_, hg2, Or.inr ⟨gd, S, srt, fun x => (mem x).trans (hL x), reg⟩⟩
    · exact (Kp.si2 (A := HgIds) H (fr.mono (by decide)) Fr.refl).trans (kp.mono (by decide))
    · rw [k5 j hj, mi_sil, mi_sil, e5]
    · rw [i29, mi_sil, mi_sil, fr 29 (by decide)]
    · unfold Chs
      rw [kp.i (x := 14) (show 14 < hn h by omega) (by decide)]
      exact ch
  have none : ∀ (f2 : (Nat → Nat → Int32)), Fr (14 :: TkIds) f f2 → Chs f2 14 (fun _ => False) → ¬ Good (GOf TD CH) → HGrpP (sil h f l) O (GOf TD CH) GS (-1) (sil h f2 l) := fun f2 fr ch ng => by
    have kp : Kp HgIds (sil h f l) (sil h f2 l) := Kp.si2 H (fr.mono (by decide)) Fr.refl
    have e5 : f2 5 = f 5 := fr 5 (by decide)
    refine ⟨O, GS, kp, ⟨fun j _ => by rw [mi_sil, mi_sil, e5], rfl, fun _ => rfl, by rw [mi_sil, mi_sil, fr 29 (by decide)], rfl, fun _ _ => rfl⟩, fun _ _ => rfl, ch, ?_, Or.inl ⟨ng, rfl, rfl⟩⟩
    rw [eH] at hg
    refine hg.kp (A := 14 :: TkIds) (SS_sil H) (Kp.si2 H fr Fr.refl) ?_ (by rw [mi_sil, mi_sil, e5]) (fun _ _ => rfl)
    intro a ha
    refine Or.inl ?_
    revert a
    decide
  have chs : ∀ (f2 : (Nat → Nat → Int32)) (i : Nat), i = TD.length → (∀ j, j < 40 → (f2 14 j = nI 0 ∧ (j < i ∨ ¬ CH j)) ∨ (f2 14 j = nI 1 ∧ i ≤ j ∧ CH j)) → Chs f2 14 (fun _ => False) := fun f2 i hi ch j hj => by
    rcases ch j hj with q | q
    · exact Or.inl ⟨q.1, fun w => w⟩
    · have := hC j q.2.2
      omega
  have set0 : ∀ (f2 : (Nat → Nat → Int32)) (i : Nat), i < 40 → (∀ j, j < 40 → (f2 14 j = nI 0 ∧ (j < i ∨ ¬ CH j)) ∨ (f2 14 j = nI 1 ∧ i ≤ j ∧ CH j)) → (∀ j, j < 40 → (up2 f2 14 i (0 : Int32) 14 j = nI 0 ∧ (j < i + 1 ∨ ¬ CH j)) ∨ (up2 f2 14 i (0 : Int32) 14 j = nI 1 ∧ i + 1 ≤ j ∧ CH j)) := fun f2 i hi ch j hj => by
    by_cases e : j = i
    · subst e; exact Or.inl ⟨by rw [up2_s]; rfl, Or.inl (by omega)⟩
    · rw [up2_ni e]
      rcases ch j hj with q | q
      · exact Or.inl ⟨q.1, q.2.imp (fun w => by omega) id⟩
      · exact Or.inr ⟨q.1, by omega, q.2.2⟩
  have bad : ¬ Good (GOf TD CH) → ∀ d i (f2 : (Nat → Nat → Int32)), TD.length - i = d → i ≤ TD.length → Fr (14 :: TkIds) f f2 → (∀ j, j < 40 → (f2 14 j = nI 0 ∧ (j < i ∨ ¬ CH j)) ∨ (f2 14 j = nI 1 ∧ i ≤ j ∧ CH j)) →
      WM k_Ho_group p_Ho_group_1 [.ref 5, .int 0, .int (nI i)] [] (sil h f2 l) 0 0 (fun v g => ∃ r, v = .int r ∧ HGrpP (sil h f l) O (GOf TD CH) GS r g) := by
    intro ng d
    induction d with
    | zero =>
      intro i f2 hd hi fr ch
      have n5 : f2 5 3 = nI TD.length := by rw [fr 5 (by decide)]; exact t3
      refine v_Ho_group_1 _ _ _ _ _ _ _ ⟨Kd5, ?_⟩
      rw [mi_sil, n5, nI_toI (by omega), nI_toI (by omega)]
      exact ⟨fun c => absurd c (by omega), fun _ => ⟨fun _ => gd_i rfl (gd_i rfl ⟨_, rfl, none f2 fr (chs f2 i (by omega) ch) ng⟩), fun c => absurd rfl c⟩⟩
    | succ d ih =>
      intro i f2 hd hi fr ch
      have n5 : f2 5 3 = nI TD.length := by rw [fr 5 (by decide)]; exact t3
      refine v_Ho_group_1 _ _ _ _ _ _ _ ⟨Kd5, ?_⟩
      rw [mi_sil, n5, nI_toI (by omega), nI_toI (by omega), R5_2, ix_nI (by omega)]
      refine ⟨fun _ => ⟨K14, InB_nI (show i < 40 by omega) (by omega), fun c => ?_, fun c => ⟨fun _ => ?_, fun c => absurd rfl c⟩⟩, fun c => absurd (by omega) c⟩
      · rw [nI_1]
        refine ih (i + 1) f2 (by omega) (by omega) fr (fun j hj => ?_)
        rcases ch j hj with q | q
        · exact Or.inl ⟨q.1, q.2.imp (fun w => by omega) id⟩
        · refine Or.inr ⟨q.1, ?_, q.2.2⟩
          by_cases e : j = i
          · rw [← e, q.1] at c; exact absurd c (by decide)
          · omega
      · rintro _ rfl
        rw [wi_sil, nI_1]
        exact ih (i + 1) _ (by omega) (by omega) (fr.up (by decide)) (set0 f2 i (by omega) ch)
  have good : ∀ d i (f2 : (Nat → Nat → Int32)) (L MK : List Nat), TD.length - i = d → i ≤ TD.length → Fr (14 :: TkIds) f f2 → (∀ j, j < 40 → (f2 14 j = nI 0 ∧ (j < i ∨ ¬ CH j)) ∨ (f2 14 j = nI 1 ∧ i ≤ j ∧ CH j)) → ClAt f2 L MK → Closed L MK → (∀ m ∈ MK, GOf TD CH m) → (∀ j, j < i → CH j → TD.getD j 0 ∈ L) →
      WM k_Ho_group p_Ho_group_1 [.ref 5, .int 1, .int (nI i)] [] (sil h f2 l) 0 0 (fun v g => ∃ r, v = .int r ∧ HGrpP (sil h f l) O (GOf TD CH) GS r g) := by
    intro d
    induction d with
    | zero =>
      intro i f2 L MK hd hi fr ch hcl cl hm ht
      have n5 : f2 5 3 = nI TD.length := by rw [fr 5 (by decide)]; exact t3
      refine v_Ho_group_1 _ _ _ _ _ _ _ ⟨Kd5, ?_⟩
      rw [mi_sil, n5, nI_toI (by omega), nI_toI (by omega)]
      refine ⟨fun c => absurd c (by omega), fun _ => ⟨fun c => absurd c (by decide), fun _ => gd_i rfl (gd_i rfl ?_)⟩⟩
      have e5 : f2 5 = f 5 := fr 5 (by decide)
      have hg2 : HGrp (sil h f2 l) O GS := by
        rw [eH] at hg
        refine hg.kp (A := 14 :: TkIds) (SS_sil H) (Kp.si2 H fr Fr.refl) ?_ (by rw [mi_sil, mi_sil, e5]) (fun _ _ => rfl)
        intro a ha
        refine Or.inl ?_
        revert a
        decide
      have same := reach_same (G := GOf TD CH) (G' := fun g => g ∈ MK) cl.2.2.2 cl.2.1 hm (fun g hg => by
        obtain ⟨j, hj, cj, e⟩ := hg
        rw [← e]
        exact (cl.1 _).mp (ht j (by omega) cj))
      have hL : ∀ y, y ∈ L ↔ reach (GOf TD CH) y := fun y => (cl.1 y).trans (same.1 y).symm
      have gd : Good (GOf TD CH) := ⟨same.2, fun M hn hM => Nat.le_trans (sub_len M L hn (fun x hx => (hL x).mpr (hM x hx))) hcl.1.2.1⟩
      refine SpI.mono (sp_Ho_keepGroup (SS_sil H) hcl cl hg2) ?_
      intro r g kq
      exact gd_i rfl (gd_i rfl ⟨_, rfl, fin f2 fr (chs f2 i (by omega) ch) r g L hL gd kq⟩)
    | succ d ih =>
      intro i f2 L MK hd hi fr ch hcl cl hm ht
      have n5 : f2 5 3 = nI TD.length := by rw [fr 5 (by decide)]; exact t3
      have il : i < TD.length := by omega
      have e13 : f2 13 i = nI (TD.getD i 0) := by rw [fr 13 (by decide)]; exact t4 i il
      refine v_Ho_group_1 _ _ _ _ _ _ _ ⟨Kd5, ?_⟩
      rw [mi_sil, n5, nI_toI (by omega), nI_toI (by omega), R5_2, R5_1, R5_4, ix_nI (by omega), e13]
      refine ⟨fun _ => ⟨K14, InB_nI (show i < 40 by omega) (by omega), fun c => ?_, fun c => ⟨fun c => absurd c (by decide), fun _ => ⟨K13, InB_nI (show i < 40 by omega) (by omega), K15, gd_i rfl (gd_i rfl ?_)⟩⟩⟩, fun c => absurd (by omega) c⟩
      · rw [nI_1]
        have nc : ¬ CH i := by
          rcases ch i (by omega) with q | q
          · rcases q.2 with w | w
            · omega
            · exact w
          · rw [q.1] at c; exact absurd c (by decide)
        refine ih (i + 1) f2 L MK (by omega) (by omega) fr (fun j hj => ?_) hcl cl hm (fun j hj cj => ?_)
        · rcases ch j hj with q | q
          · exact Or.inl ⟨q.1, q.2.imp (fun w => by omega) id⟩
          · refine Or.inr ⟨q.1, ?_, q.2.2⟩
            by_cases e : j = i
            · rw [← e, q.1] at c; exact absurd c (by decide)
            · omega
        · by_cases e : j = i
          · rw [e] at cj; exact absurd cj nc
          · exact ht j (by omega) cj
      · have ci : CH i := by
          rcases ch i (by omega) with q | q
          · rw [q.1] at c; exact absurd rfl c
          · exact q.2.2
        have gi : GOf TD CH (TD.getD i 0) := ⟨i, il, ci, rfl⟩
        refine SpI.mono (cl_take hcl cl (t2 _ (getD_mem il))) ?_
        rintro r _ ⟨f3, rfl, fr3, res⟩
        have fr3' : Fr (14 :: TkIds) f f3 := fr.trans (fr3.mono (by decide))
        have e14 : f3 14 = f2 14 := fr3 14 (by decide)
        have ch3 : ∀ j, j < 40 → (f3 14 j = nI 0 ∧ (j < i ∨ ¬ CH j)) ∨ (f3 14 j = nI 1 ∧ i ≤ j ∧ CH j) := by rw [e14]; exact ch
        rw [R5_2]
        refine ⟨fun c => ⟨Kd5, K14, InB_nI (show i < 40 by omega) (by omega), ?_⟩, fun c => ⟨Kd5, K14, InB_nI (show i < 40 by omega) (by omega), ?_⟩⟩
        · rintro _ rfl
          rcases res with ⟨rfl, _⟩ | ⟨_, ng⟩
          · exact absurd c (by decide)
          · rw [wi_sil, nI_1]
            refine bad (fun gd => ng (gd.mono (fun g hg => ?_))) d (i + 1) _ (by omega) (by omega) (fr3'.up (by decide)) (set0 f3 i (by omega) ch3)
            rcases hg with hg | hg
            · exact hm g hg
            · rw [hg]; exact gi
        · rintro _ rfl
          rcases res with ⟨_, L', MK', c', cl', ic, old, new⟩ | ⟨rfl, _⟩
          · rw [wi_sil, nI_1]
            refine ih (i + 1) _ L' MK' (by omega) (by omega) (fr3'.up (by decide)) (set0 f3 i (by omega) ch3) (c'.fr (fun a ha => up2_row (by omega))) cl' (fun m hm' => ?_) (fun j hj cj => ?_)
            · rcases new m hm' with q | q
              · exact hm m q
              · rw [q]; exact gi
            · by_cases e : j = i
              · rw [e]; exact ic
              · exact (cl'.1 _).mpr (reach_mono (fun g hg => old g hg) ((cl.1 _).mp (ht j (by omega) cj)))
          · exact absurd rfl c
  refine v_Ho_group _ _ _ ⟨Kd5, ?_⟩
  rw [R5_4]
  refine ⟨K15, SpV.mono cl_begin ?_⟩
  rintro _ ⟨f1, rfl, fr1, c1, cl1⟩
  refine good _ 0 f1 [idc] [] rfl (Nat.zero_le _) (fr1.mono (by decide)) (fun j hj => ?_) c1 cl1 (fun m hm => absurd hm List.not_mem_nil) (fun j hj => absurd hj (Nat.not_lt_zero j))
  rw [fr1 14 (by decide)]
  rcases hc j hj with q | q
  · exact Or.inl ⟨q.1, Or.inr q.2⟩
  · exact Or.inr ⟨q.1, Nat.zero_le _, q.2⟩
