/-! the reference's group -/
def GOf (TD : List Nat) (CH : Nat → Prop) (g : Nat) : Prop := ∃ i, i < TD.length ∧ CH i ∧ TD.getD i 0 = g
def Chs (f : (Nat → Nat → Int32)) (a : Nat) (CH : Nat → Prop) : Prop := ∀ i, i < 40 → (f a i = nI 0 ∧ ¬ CH i) ∨ (f a i = nI 1 ∧ CH i)
def RTold (f : (Nat → Nat → Int32)) (TD : List Nat) : Prop := TD.length ≤ 40 ∧ (∀ x ∈ TD, isOp x) ∧ f 54 1 = nI TD.length ∧ ∀ i, i < TD.length → f 55 i = nI (TD.getD i 0)
def RtIds : List Nat := [57, 58, 59, 60, 95, 96]
def RgIds : List Nat := [54, 57, 58, 59, 60, 66, 95, 96]
theorem times_fr {h : MH} {f : (Nat → Nat → Int32)} {l : (Nat → Nat → Int64)} {p q : Nat} (hp : cOK p) (hq : cOK q) : SpI k_Ref_times [.ref 54, .int (nI p), .int (nI q)] (sil h f l) (fun r g => r = zI (prod p q) ∧ ∃ f', g = sil h f' l ∧ Fr RtIds f f') :=
  SpI.mono (sp_Ref_times hp hq) (fun r g q => ⟨q.1, by
    obtain ⟨f', e, fr⟩ := q.2
    exact ⟨f', e, fun a ha => fr a (fun q => ha (by rw [q]; decide)) (fun q => ha (by rw [q]; decide)) (fun q => ha (by rw [q]; decide)) (fun q => ha (by rw [q]; decide)) (fun q => ha (by rw [q]; decide)) (fun q => ha (by rw [q]; decide))⟩⟩)
theorem LsAt.fr {f f' : (Nat → Nat → Int32)} {L : List Nat} (h : LsAt f L) (e1 : f' 54 19 = f 54 19) (e2 : f' 66 = f 66) : LsAt f' L := ⟨h.1, e1.trans h.2.1, fun j hj => by rw [e2]; exact h.2.2 j hj⟩
theorem LsAt.add {f : (Nat → Nat → Int32)} {L : List Nat} {y : Nat} (h : LsAt f L) (hy : cOK y) (ny : y ∉ L) (hl : L.length < 192) : LsAt (up2 (up2 f 66 L.length (nI y)) 54 19 (nI (L.length + 1))) (L ++ [y]) := by
  obtain ⟨⟨l1, l2, l3⟩, l4, l5⟩ := h
  have len : (L ++ [y]).length = L.length + 1 := by rw [List.length_append]; rfl
  refine ⟨⟨by rw [len]; omega, ?_, fun x hx => ?_⟩, by rw [up2_s, len], fun j hj => ?_⟩
  · exact List.nodup_append.mpr ⟨l2, List.nodup_cons.mpr ⟨by simp, List.nodup_nil⟩, fun a ha b hb e => by
      rw [List.mem_singleton] at hb
      exact ny (by rw [← hb, ← e]; exact ha)⟩
  · rcases List.mem_append.mp hx with hx | hx
    · exact l3 x hx
    · rw [List.mem_singleton] at hx; rw [hx]; exact hy
  · rw [up2_ne (by decide)]
    rw [len] at hj
    by_cases e : j = L.length
    · subst e; rw [up2_s, getD_end]
    · rw [up2_ni e, getD_left (by omega)]; exact l5 j (by omega)
/-- what the reference's group comes to: the chosen are given up; the group is numbered if it is one -/
def RGrpP (h : MH) (f0 : (Nat → Nat → Int32)) (l : (Nat → Nat → Int64)) (G : Nat → Prop) (GS : List (List Nat)) (r : Int32) (g : MH) : Prop := ∃ f' GS', g = sil h f' l ∧ Fr (56 :: 64 :: 65 :: RgIds) f0 f' ∧ (∀ j, j ≠ 17 → j ≠ 19 → f' 54 j = f0 54 j) ∧ Chs f' 56 (fun _ => False) ∧ RGrp f' GS' ∧
  ((¬ Good G ∧ r = -1 ∧ GS' = GS) ∨ (Good G ∧ ∃ S, S.Pairwise (· < ·) ∧ (∀ x, x ∈ S ↔ reach G x) ∧ Reg GS S r GS'))
theorem sp_Ref_group {h : MH} {f : (Nat → Nat → Int32)} {l : (Nat → Nat → Int64)} {TD : List Nat} {CH : Nat → Prop} {GS : List (List Nat)} (ht : RTold f TD) (hc : Chs f 56 CH) (hC : ∀ i, CH i → i < TD.length) (hg : RGrp f GS) :
    SpI k_Ref_group [.ref 54] (sil h f l) (fun r g => RGrpP h f l (GOf TD CH) GS r g) := by
  obtain ⟨t1, t2, t3, t4⟩ := ht
  have hG : Ops (GOf TD CH) := fun g ⟨i, hi, _, e⟩ => by rw [← e]; exact t2 _ (getD_mem hi)
  -- the chosen are given up
  have clear : ∀ (b : Nat) (f1 : (Nat → Nat → Int32)) (L : List Nat), Fr RgIds f f1 → (∀ j, j ≠ 19 → f1 54 j = f 54 j) → LsAt f1 L → ((b = 0 ∧ ¬ Good (GOf TD CH)) ∨ (b = 1 ∧ Good (GOf TD CH) ∧ ∀ x, x ∈ L ↔ reach (GOf TD CH) x)) →
      ∀ d i (f2 : (Nat → Nat → Int32)), TD.length - i = d → i ≤ TD.length → Fr [56] f1 f2 → (∀ j, j < 40 → (f2 56 j = nI 0 ∧ (j < i ∨ ¬ CH j)) ∨ (f2 56 j = nI 1 ∧ i ≤ j ∧ CH j)) →
      WM k_Ref_group p_Ref_group_5 [.ref 54, .int (nI b), .int (nI i), Jv, Jv] [] (sil h f2 l) 0 0 (fun v g => ∃ r, v = .int r ∧ RGrpP h f l (GOf TD CH) GS r g) := by
    intro b f1 L fr1 k1 ls res d
    induction d with
    | zero =>
      intro i f2 hd hi fr2 ch
      have q54 : f2 54 = f1 54 := fr2 54 (by decide)
      have n1 : f2 54 1 = nI TD.length := by rw [q54, k1 1 (by decide)]; exact t3
      have fr3 : Fr (56 :: 64 :: 65 :: RgIds) f f2 := (fr1.mono (by decide)).trans (fr2.mono (by decide))
      have g0 : RGrp f2 GS := ⟨hg.1, hg.2.1, by rw [q54, k1 17 (by decide)]; exact hg.2.2.1, fun i hi => by rw [fr3 65 |> fun _ => (fr2 65 (by decide)).trans (fr1 65 (by decide)), (fr2 64 (by decide)).trans (fr1 64 (by decide))]; exact hg.2.2.2 i hi⟩
      have ch0 : Chs f2 56 (fun _ => False) := fun j hj => by
        rcases ch j hj with q | q
        · exact Or.inl ⟨q.1, fun w => w⟩
        · have := hC j q.2.2
          omega
      refine v_Ref_group_5 _ _ _ _ _ ⟨K54, ?_⟩
      rw [mi_sil, n1, nI_toI (by omega), nI_toI (by omega)]
      refine ⟨fun c => absurd c (by omega), fun _ => ⟨fun c => ?_, fun c => ?_⟩⟩
      · rcases res with ⟨rfl, q⟩ | ⟨rfl, _⟩
        · exact ⟨_, rfl, f2, GS, rfl, fr3, fun j h1 h2 => by rw [q54]; exact k1 j h2, ch0, g0, Or.inl ⟨q, rfl, rfl⟩⟩
        · exact absurd c (by decide)
      · rcases res with ⟨rfl, _⟩ | ⟨rfl, gd, mem⟩
        · exact absurd rfl c
        · refine SpI.mono (sp_Ref_numbered (ls.fr (by rw [q54]) (fr2 66 (by decide))) g0) ?_
          rintro r g ⟨f3, S, GS', rfl, fr4, k4, srt, ms, rg, g3⟩
          refine ⟨_, rfl, f3, GS', rfl, fr3.trans (fr4.mono (by decide)), fun j h1 h2 => by rw [k4 j h1, q54]; exact k1 j h2, ?_, g3, Or.inr ⟨gd, S, srt, fun x => (ms x).trans (mem x), rg⟩⟩
          unfold Chs
          rw [fr4 56 (by decide)]
          exact ch0
    | succ d ih =>
      intro i f2 hd hi fr2 ch
      have n1 : f2 54 1 = nI TD.length := by rw [fr2 54 (by decide), k1 1 (by decide)]; exact t3
      refine v_Ref_group_5 _ _ _ _ _ ⟨K54, ?_⟩
      rw [mi_sil, n1, nI_toI (by omega), nI_toI (by omega), R54_2, ix_nI (by omega)]
      refine ⟨fun _ => ⟨K56, InB_nI (show i < 40 by omega) (by omega), ?_⟩, fun c => absurd (by omega) c⟩
      rintro _ rfl
      rw [wi_sil, nI_1]
      refine ih (i + 1) _ (by omega) (by omega) (fr2.up (by decide)) (fun j hj => ?_)
      by_cases e : j = i
      · subst e; exact Or.inl ⟨by rw [up2_s]; rfl, Or.inl (by omega)⟩
      · rw [up2_ni e]
        rcases ch j hj with q | q
        · exact Or.inl ⟨q.1, q.2.imp (fun w => by omega) id⟩
        · exact Or.inr ⟨q.1, by omega, q.2.2⟩
  have clear0 : ∀ (b : Nat) (f1 : (Nat → Nat → Int32)) (L : List Nat), Fr RgIds f f1 → (∀ j, j ≠ 19 → f1 54 j = f 54 j) → LsAt f1 L → ((b = 0 ∧ ¬ Good (GOf TD CH)) ∨ (b = 1 ∧ Good (GOf TD CH) ∧ ∀ x, x ∈ L ↔ reach (GOf TD CH) x)) →
      WM k_Ref_group p_Ref_group_5 [.ref 54, .int (nI b), .int (nI 0), Jv, Jv] [] (sil h f1 l) 0 0 (fun v g => ∃ r, v = .int r ∧ RGrpP h f l (GOf TD CH) GS r g) := fun b f1 L fr1 k1 ls res =>
    clear b f1 L fr1 k1 ls res _ 0 f1 rfl (Nat.zero_le _) Fr.refl (fun j hj => by
      rw [fr1 56 (by decide)]
      rcases hc j hj with q | q
      · exact Or.inl ⟨q.1, Or.inr q.2⟩
      · exact Or.inr ⟨q.1, Nat.zero_le _, q.2⟩)
  -- no group comes of it
  have bad : ∀ (k i : Nat) (f1 : (Nat → Nat → Int32)) (L : List Nat), Fr RgIds f f1 → (∀ j, j ≠ 19 → f1 54 j = f 54 j) → LsAt f1 L → ¬ Good (GOf TD CH) → k < 200 → i < 200 →
      WM k_Ref_group p_Ref_group_2 [.ref 54, .int 0, .int (nI k), .int (nI i), Jv] [] (sil h f1 l) 0 0 (fun v g => ∃ r, v = .int r ∧ RGrpP h f l (GOf TD CH) GS r g) := by
    intro k i f1 L fr1 k1 ls ng hk hi
    have one : WM k_Ref_group p_Ref_group_1 [.ref 54, .int 0, .int (nI k + 1), Jv, Jv] [] (sil h f1 l) 0 0 (fun v g => ∃ r, v = .int r ∧ RGrpP h f l (GOf TD CH) GS r g) := by
      refine v_Ref_group_1 _ _ _ _ _ ⟨K54, fun _ => ⟨fun _ => ?_, fun c => absurd rfl c⟩, fun _ => ?_⟩
      · exact clear0 0 f1 L fr1 k1 ls (Or.inl ⟨rfl, ng⟩)
      · exact clear0 0 f1 L fr1 k1 ls (Or.inl ⟨rfl, ng⟩)
    exact v_Ref_group_2 _ _ _ _ _ _ ⟨K54, fun _ => ⟨fun _ => one, fun c => absurd rfl c⟩, fun _ => one⟩
  -- the list grows
  have main : ∀ d k (f1 : (Nat → Nat → Int32)) (L : List Nat), 192 - k = d → k ≤ L.length → Fr RgIds f f1 → (∀ j, j ≠ 19 → f1 54 j = f 54 j) → LsAt f1 L → idc ∈ L → (∀ x ∈ L, reach (GOf TD CH) x) → (∀ k', k' < k → ∀ g, GOf TD CH g → ∃ y ∈ L, Pr (L.getD k' 0) g y) →
      WM k_Ref_group p_Ref_group_1 [.ref 54, .int 1, .int (nI k), Jv, Jv] [] (sil h f1 l) 0 0 (fun v g => ∃ r, v = .int r ∧ RGrpP h f l (GOf TD CH) GS r g) := by
    have stop : ∀ k (f1 : (Nat → Nat → Int32)) (L : List Nat), k = L.length → Fr RgIds f f1 → (∀ j, j ≠ 19 → f1 54 j = f 54 j) → LsAt f1 L → idc ∈ L → (∀ x ∈ L, reach (GOf TD CH) x) → (∀ k', k' < k → ∀ g, GOf TD CH g → ∃ y ∈ L, Pr (L.getD k' 0) g y) →
        WM k_Ref_group p_Ref_group_1 [.ref 54, .int 1, .int (nI k), Jv, Jv] [] (sil h f1 l) 0 0 (fun v g => ∃ r, v = .int r ∧ RGrpP h f l (GOf TD CH) GS r g) := by
      intro k f1 L hk fr1 k1 ls hid hL done
      have l192 := ls.1.1
      have step : ∀ x ∈ L, ∀ g, GOf TD CH g → ∃ y ∈ L, Pr x g y := fun x hx g hg => by
        obtain ⟨i, hi, e⟩ := mem_getD hx
        rw [← e]; exact done i (by omega) g hg
      have sub : ∀ y, reach (GOf TD CH) y → y ∈ L := reach_ind _ hid (fun x g y _ hx hg hp => by
        obtain ⟨z, hz, pz⟩ := step x hx g hg
        rw [hp.fn pz]; exact hz)
      have gd : Good (GOf TD CH) := ⟨fun x hx g hg => by
        obtain ⟨y, _, py⟩ := step x (sub x hx) g hg
        exact ⟨y, py⟩, fun M hn hM => Nat.le_trans (sub_len M L hn (fun x hx => sub x (hM x hx))) l192⟩
      refine v_Ref_group_1 _ _ _ _ _ ⟨K54, ?_⟩
      rw [mi_sil, ls.2.1, nI_toI (by omega), nI_toI (by omega)]
      refine ⟨fun c => absurd c (by omega), fun _ => ?_⟩
      exact clear0 1 f1 L fr1 k1 ls (Or.inr ⟨rfl, gd, fun x => ⟨hL x, sub x⟩⟩)
    intro d
    induction d with
    | zero =>
      intro k f1 L hd hk fr1 k1 ls hid hL done
      have l192 := ls.1.1
      exact stop k f1 L (by omega) fr1 k1 ls hid hL done
    | succ d ih =>
      intro k f1 L hd hk fr1 k1 ls hid hL done
      have l192 := ls.1.1
      rcases Nat.lt_or_ge k L.length with kl | kl
      · -- one member by all chosen
        have row : ∀ e i (f2 : (Nat → Nat → Int32)) (L2 : List Nat), TD.length - i = e → i ≤ TD.length → k < L2.length → Fr RgIds f f2 → (∀ j, j ≠ 19 → f2 54 j = f 54 j) → LsAt f2 L2 → idc ∈ L2 → (∀ x ∈ L2, reach (GOf TD CH) x) → (∀ k', k' < k → ∀ g, GOf TD CH g → ∃ y ∈ L2, Pr (L2.getD k' 0) g y) → (∀ j, j < i → CH j → ∃ y ∈ L2, Pr (L2.getD k 0) (TD.getD j 0) y) →
            WM k_Ref_group p_Ref_group_2 [.ref 54, .int 1, .int (nI k), .int (nI i), Jv] [] (sil h f2 l) 0 0 (fun v g => ∃ r, v = .int r ∧ RGrpP h f l (GOf TD CH) GS r g) := by
          intro e
          induction e with
          | zero =>
            intro i f2 L2 he hi kl fr2 k2 ls hid hL done dn
            have n1 : f2 54 1 = nI TD.length := by rw [k2 1 (by decide)]; exact t3
            refine v_Ref_group_2 _ _ _ _ _ _ ⟨K54, ?_⟩
            rw [mi_sil, n1, nI_toI (by omega), nI_toI (by omega), nI_1]
            refine ⟨fun c => absurd c (by omega), fun _ => ih (k + 1) f2 L2 (by omega) (by omega) fr2 k2 ls hid hL (fun k' hk' g hg => ?_)⟩
            by_cases e : k' = k
            · subst e
              obtain ⟨j, hj, cj, eg⟩ := hg
              rw [← eg]
              exact dn j (by omega) cj
            · exact done k' (by omega) g hg
          | succ e ihe =>
            intro i f2 L2 he hi kl fr2 k2 ls hid hL done dn
            have l192 := ls.1.1
            have n1 : f2 54 1 = nI TD.length := by rw [k2 1 (by decide)]; exact t3
            have il : i < TD.length := by omega
            have ti := t2 _ (getD_mem il)
            have xk := ls.1.2.2 _ (getD_mem kl)
            have e56 : f2 56 = f 56 := fr2 56 (by decide)
            have e55 : f2 55 = f 55 := fr2 55 (by decide)
            refine v_Ref_group_2 _ _ _ _ _ _ ⟨K54, ?_⟩
            rw [mi_sil, n1, nI_toI (by omega), nI_toI (by omega), R54_2, R54_18, R54_0, ix_nI (by omega), ix_nI (by omega), ls.2.2 k kl, e56, e55, t4 i il]
            refine ⟨fun _ => ⟨fun c => absurd c (by decide), fun _ => ⟨K56, InB_nI (show i < 40 by omega) (by omega), fun c => ?_, fun c => ⟨K66, InB_nI (show k < 200 by omega) (by omega), K55, InB_nI (show i < 40 by omega) (by omega), ?_⟩⟩⟩, fun c => absurd (by omega) c⟩
            · have nc : ¬ CH i := by
                rcases hc i (by omega) with q | q
                · exact q.2
                · rw [q.1] at c; exact absurd c (by decide)
              rw [nI_1]
              refine ihe (i + 1) f2 L2 (by omega) (by omega) kl fr2 k2 ls hid hL done (fun j hj cj => ?_)
              by_cases ej : j = i
              · rw [ej] at cj; exact absurd cj nc
              · exact dn j (by omega) cj
            · have ci : CH i := by
                rcases hc i (by omega) with q | q
                · rw [q.1] at c; exact absurd rfl c
                · exact q.2
              have gi : GOf TD CH (TD.getD i 0) := ⟨i, il, ci, rfl⟩
              have rk := hL _ (getD_mem kl)
              refine SpI.mono (times_fr xk ti.1) ?_
              rintro r _ ⟨rfl, f3, rfl, fr3⟩
              have fr3' : Fr RgIds f f3 := fr2.trans (fr3.mono (by decide))
              have q54 : f3 54 = f2 54 := fr3 54 (by decide)
              have k3 : ∀ j, j ≠ 19 → f3 54 j = f 54 j := fun j hj => by rw [q54]; exact k2 j hj
              have ls3 : LsAt f3 L2 := ls.fr (by rw [q54]) (fr3 66 (by decide))
              rcases prod_rng (L2.getD k 0) (TD.getD i 0) with pe | ⟨_, p0, p1⟩
              · refine ⟨fun _ => ?_, fun c => absurd (by rw [pe]; rfl) c⟩
                refine v_Ref_group_3 _ _ _ _ _ _ _ ⟨fun _ => ?_, fun c => absurd rfl c⟩
                rw [nI_1]
                refine bad k (i + 1) f3 L2 fr3' k3 ls3 (fun gd => ?_) (by omega) (by omega)
                exact (prod_iff xk ti.1).mp pe (gd.1 _ rk _ gi)
              · have pr : Pr (L2.getD k 0) (TD.getD i 0) (prod (L2.getD k 0) (TD.getD i 0)).toNat := prod_Pr xk ti.1 (by omega)
                generalize prod (L2.getD k 0) (TD.getD i 0) = z at *
                obtain ⟨y, rfl⟩ : ∃ y : Nat, z = y := ⟨z.toNat, by omega⟩
                rw [Int.toNat_natCast] at pr
                have ry := reach_step rk gi pr
                rw [zI_nat]
                refine ⟨fun c => ?_, fun _ => ?_⟩
                · have e := congrArg Int32.toInt c
                  rw [nI_toI (by omega), l_m1] at e
                  omega
                refine v_Ref_group_3 _ _ _ _ _ _ _ ⟨fun c => absurd c (by decide), fun _ => ⟨K54, ?_⟩⟩
                refine SpI.mono (sp_Ref_isListed ls3 pr.2.2.1) ?_
                rintro r _ ⟨rfl, (⟨rfl, my⟩ | ⟨rfl, my⟩)⟩
                · refine ⟨fun c => absurd c (by decide), fun _ => ?_⟩
                  rw [nI_1]
                  refine ihe (i + 1) f3 L2 (by omega) (by omega) kl fr3' k3 ls3 hid hL done (fun j hj cj => ?_)
                  by_cases ej : j = i
                  · rw [ej]; exact ⟨y, my, pr⟩
                  · exact dn j (by omega) cj
                · refine ⟨fun _ => ⟨K54, ?_⟩, fun c => absurd rfl c⟩
                  rw [mi_sil, ls3.2.1, nI_toI (by omega), show (192 : Int32).toInt = 192 from rfl]
                  refine ⟨fun c => ?_, fun c => ?_⟩
                  · refine v_Ref_group_4 _ _ _ _ _ _ _ ⟨fun c => absurd c (by decide), fun _ => ⟨K54, ?_⟩⟩
                    rw [R54_18, mi_sil, ls3.2.1, ix_nI (by omega)]
                    refine ⟨K66, InB_nI (show L2.length < 200 by omega) (by omega), ?_⟩
                    rintro _ rfl
                    rintro _ rfl
                    rw [wi_sil, mi_sil, up2_ne (by decide), ls3.2.1, nI_1, wi_sil, nI_1]
                    have len : (L2 ++ [y]).length = L2.length + 1 := by rw [List.length_append]; rfl
                    refine ihe (i + 1) _ (L2 ++ [y]) (by omega) (by omega) (by omega) ((fr3'.up (by decide)).up (by decide)) (fun j hj => ?_) (ls3.add pr.2.2.1 my (by omega)) (List.mem_append_left _ hid) (fun x hx => ?_) (fun k' hk' g hg => ?_) (fun j hj cj => ?_)
                    · rw [up2_ni hj, up2_ne (by decide)]; exact k3 j hj
                    · rcases List.mem_append.mp hx with hx | hx
                      · exact hL x hx
                      · rw [List.mem_singleton] at hx; rw [hx]; exact ry
                    · obtain ⟨w, hw, pw⟩ := done k' hk' g hg
                      rw [getD_left (by omega)]
                      exact ⟨w, List.mem_append_left _ hw, pw⟩
                    · rw [getD_left kl]
                      by_cases ej : j = i
                      · rw [ej]; exact ⟨y, List.mem_append_right _ (List.mem_singleton.mpr rfl), pr⟩
                      · obtain ⟨w, hw, pw⟩ := dn j (by omega) cj
                        exact ⟨w, List.mem_append_left _ hw, pw⟩
                  · refine v_Ref_group_4 _ _ _ _ _ _ _ ⟨fun _ => ?_, fun c => absurd rfl c⟩
                    rw [nI_1]
                    refine bad k (i + 1) f3 L2 fr3' k3 ls3 (fun gd => ?_) (by omega) (by omega)
                    have := gd.2 (y :: L2) (List.nodup_cons.mpr ⟨my, ls3.1.2.1⟩) (fun x hx => by
                      rcases List.mem_cons.mp hx with hx | hx
                      · rw [hx]; exact ry
                      · exact hL x hx)
                    simp only [List.length_cons] at this
                    omega
        refine v_Ref_group_1 _ _ _ _ _ ⟨K54, ?_⟩
        rw [mi_sil, ls.2.1, nI_toI (by omega), nI_toI (by omega)]
        refine ⟨fun _ => ⟨fun c => absurd c (by decide), fun _ => ?_⟩, fun c => absurd (by omega) c⟩
        exact row _ 0 f1 L rfl (Nat.zero_le _) kl fr1 k1 ls hid hL done (fun j hj => absurd hj (Nat.not_lt_zero j))
      · exact stop k f1 L (by omega) fr1 k1 ls hid hL done
  refine v_Ref_group _ _ _ ⟨K54, ?_⟩
  rintro _ rfl
  rw [wi_sil]
  refine SpI.mono sp_Ref_identity ?_
  rintro r _ ⟨rfl, rfl⟩
  rw [R54_18]
  refine ⟨K66, InB_nI (a := 0) (show 0 < 200 by decide) (by decide), ?_⟩
  rintro _ rfl
  rw [wi_sil]
  refine main _ 0 _ [idc] rfl (Nat.zero_le _) ((Fr.refl.up (by decide)).up (by decide)) (fun j hj => ?_) ⟨⟨by decide, by simp, fun x hx => ?_⟩, ?_, fun j hj => ?_⟩ (List.mem_singleton.mpr rfl) (fun x hx => ?_) (fun k' hk' => absurd hk' (Nat.not_lt_zero k'))
  · rw [up2_ne (by decide), up2_ni hj]
  · rw [List.mem_singleton] at hx; rw [hx]; exact id_ok
  · rw [up2_ne (by decide), up2_s]; rfl
  · have : j = 0 := by simp only [List.length_cons, List.length_nil] at hj; omega
    subst this
    exact up2_s
  · rw [List.mem_singleton] at hx; rw [hx]; exact reach_id
