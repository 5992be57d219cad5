/-! the reference: about, half -/
theorem sm64 : ∀ t, t < 64 → (((Int32.ofNat t).toInt64 &&& (63 : Int64)).toBitVec.smod 64).toNat = t := by decide +kernel
theorem shr_bit (x : Int64) {t : Nat} (ht : t < 64) : (((x >>> ((nI t).toInt64 &&& (63 : Int64))) &&& (1 : Int64)) = 0) ↔ x.toBitVec.getLsbD t = false := by
  show (((x >>> ((Int32.ofNat t).toInt64 &&& (63 : Int64))) &&& (1 : Int64)) = 0) ↔ x.toBitVec.getLsbD t = false
  have e : (x >>> ((Int32.ofNat t).toInt64 &&& (63 : Int64))).toBitVec = x.toBitVec.sshiftRight t := by
    show BitVec.sshiftRight' x.toBitVec (((Int32.ofNat t).toInt64 &&& (63 : Int64)).toBitVec.smod 64) = _
    unfold BitVec.sshiftRight'
    rw [sm64 t ht]
  rw [← Int64.toBitVec_inj, Int64.toBitVec_and, e]
  have b0 : (x.toBitVec.sshiftRight t).getLsbD 0 = x.toBitVec.getLsbD t := by
    rw [BitVec.getLsbD_sshiftRight]
    simp [ht]
  constructor
  · intro h
    have := congrArg (fun v => v.getLsbD 0) h
    rw [BitVec.getLsbD_and, b0] at this
    simpa using this
  · intro h
    apply BitVec.eq_of_getLsbD_eq
    intro i hi
    rw [BitVec.getLsbD_and]
    cases i with
    | zero => rw [b0, h]; rfl
    | succ i =>
      have : (1 : Int64).toBitVec.getLsbD (i + 1) = false := by
        show (1#64).getLsbD (i + 1) = false
        simp
      rw [this, Bool.and_false]; simp
def RaIds : List Nat := [57, 58, 59, 60, 95, 96, 67, 68, 69, 71, 72, 73, 74, 75]
theorem sp_Ref_about {h : MH} {f : (Nat → Nat → Int32)} {l : (Nat → Nat → Int64)} {GS : List (List Nat)} (hg : RGrp f GS) (ok : ∀ S ∈ GS, GOk S) (kn : RKn f l GS) (cls : ∀ S ∈ GS, ∃ i, CtOK (brK S S.length) i) (x w : Int32) :
    SpI k_Ref_about [.ref 54, .int x, .int w] (sil h f l) (fun r y => AboA GS x w r ∧ ∃ f' l', y = sil h f' l' ∧ Fr RaIds f f' ∧ Fr [70] l l' ∧ RKn f' l' GS) := by
  have hl := hg.1
  have t192 : (192 : Int32) = nI 192 := rfl
  refine v_Ref_about _ _ _ _ _ ⟨K54, SpI.mono (sp_Ref_isGroup hg x) ?_⟩
  rintro r y ⟨rfl, ⟨i, hi, rfl, rfl⟩ | ⟨no, rfl⟩⟩
  rotate_left
  · exact ⟨fun _ => ⟨_, rfl, Or.inr ⟨grp_no hl no, rfl⟩, f, l, rfl, Fr.refl, Fr.refl, kn⟩, fun q => absurd rfl q⟩
  have okS := ok _ (gD_mem hi)
  have w192 := okS.2.1
  have mem := hg.2.2.2 i hi
  have cen := cenK_le (S := GS.getD i []) (GS.getD i []).length
  have put : ∀ {w r : Int32} {f' : (Nat → Nat → Int32)} {l' : (Nat → Nat → Int64)}, AboV (GS.getD i []) w r → Fr RaIds f f' → Fr [70] l l' → RKn f' l' GS → ∃ r', (.int r : Value) = .int r' ∧ AboA GS (nI i) w r' ∧ ∃ f1 l1, sil h f' l' = sil h f1 l1 ∧ Fr RaIds f f1 ∧ Fr [70] l l1 ∧ RKn f1 l1 GS := fun a b c d => ⟨_, rfl, Or.inl ⟨i, hi, rfl, a⟩, _, _, rfl, b, c, d⟩
  refine ⟨fun q => absurd q (by decide), fun _ => ⟨fun e => ?_, fun n0 => ⟨fun e => ?_, fun n1 => ⟨fun e => ?_, fun n2 => ⟨fun e => ?_, fun n3 => ⟨fun e => ?_, fun n4 => ⟨fun e => ?_, fun n5 => ⟨fun e => ?_, fun n6 => ?_⟩⟩⟩⟩⟩⟩⟩⟩
  · rw [R54_16, ix_nI (by omega), mi_sil, mem.1]
    exact ⟨K54, K65, InB_nI (show i < 60 by omega) (by omega), put (Or.inl ⟨e, rfl⟩) Fr.refl Fr.refl kn⟩
  · refine ⟨K54, SpI.mono (sp_Ref_matrices hg hi okS.ne) ?_⟩
    rintro _ _ ⟨rfl, rfl⟩
    exact put (Or.inr (Or.inl ⟨e, rfl⟩)) Fr.refl Fr.refl kn
  · refine ⟨K54, SpI.mono (sp_Ref_centrings hg hi) ?_⟩
    rintro _ _ ⟨rfl, rfl⟩
    exact put (Or.inr (Or.inr (Or.inl ⟨e, rfl⟩))) Fr.refl Fr.refl kn
  · refine ⟨K54, SpI.mono (sp_Ref_centrings hg hi) ?_⟩
    rintro _ _ ⟨rfl, rfl⟩
    refine ⟨K54, SpI.mono (sp_Ref_letterOf hg hi okS (by omega)) ?_⟩
    rintro _ _ ⟨rfl, rfl⟩
    exact put (Or.inr (Or.inr (Or.inr (Or.inl ⟨e, rfl⟩)))) Fr.refl Fr.refl kn
  · obtain ⟨ci, ct⟩ := cls _ (gD_mem hi)
    rw [R54_16, R54_15, ix_nI (by omega), mi_sil, mem.1, t192, nI_mul]
    refine ⟨K54, K65, InB_nI (show i < 60 by omega) (by omega), SpI.mono (sp_Ref_classOf (L := GS.getD i []) (by decide) K64 (by rw [L64]; omega) w192 (by omega) (by decide) mem.2 okS.2.2.1 ct) ?_⟩
    rintro _ _ ⟨rfl, f', rfl, fr⟩
    exact put (Or.inr (Or.inr (Or.inr (Or.inr (Or.inl ⟨e, ci, ct, rfl⟩))))) (fr.mono (by decide)) Fr.refl (kn.fr (fr 67 (by decide)) (fr 68 (by decide)) (fr 69 (by decide)) rfl)
  · refine ⟨K54, SpV.mono (sp_Ref_know hg ok hi kn) ?_⟩
    rintro _ ⟨f', l', rfl, fr, frl, kn', ki⟩
    rw [R54_20, ix_nI (by omega), mi_sil, ki.1]
    exact ⟨K54, K67, InB_nI (show i < 60 by omega) (by omega), put (Or.inr (Or.inr (Or.inr (Or.inr (Or.inr (Or.inl ⟨e, rfl⟩)))))) (fr.mono (by decide)) frl kn'⟩
  · refine ⟨K54, SpV.mono (sp_Ref_know hg ok hi kn) ?_⟩
    rintro _ ⟨f', l', rfl, fr, frl, kn', _, L, hv, ll, h68, hb⟩
    rw [R54_21, ix_nI (by omega), mi_sil, h68]
    exact ⟨K54, K68, InB_nI (show i < 60 by omega) (by omega), put (Or.inr (Or.inr (Or.inr (Or.inr (Or.inr (Or.inr (Or.inl ⟨e, L, hv, rfl⟩))))))) (fr.mono (by decide)) frl kn'⟩
  · exact put (Or.inr (Or.inr (Or.inr (Or.inr (Or.inr (Or.inr (Or.inr ⟨⟨n0, n1, n2, n3, n4, n5, n6⟩, rfl⟩))))))) Fr.refl Fr.refl kn
def RhIds : List Nat := [57, 58, 59, 60, 95, 96, 67, 68, 69, 71, 72, 73, 74, 54, 64, 65, 66]
def RhP (h : MH) (f : (Nat → Nat → Int32)) (l : (Nat → Nat → Int64)) (GS : List (List Nat)) (x w r : Int32) (y : MH) : Prop := ∃ f' l' GS', y = sil h f' l' ∧ HalfA GS x w r GS' ∧ Fr RhIds f f' ∧ (∀ j, j ≠ 17 → j ≠ 19 → f' 54 j = f 54 j) ∧ Fr [70] l l' ∧ RGrp f' GS' ∧ RKn f' l' GS'
theorem RKn.reg {f : (Nat → Nat → Int32)} {l : (Nat → Nat → Int64)} {GS GS' : List (List Nat)} {S : List Nat} {r : Int32} (h : RKn f l GS) (rg : Reg GS S r GS') : RKn f l GS' := by
  rcases rg with ⟨_, _, _, _, _, e⟩ | ⟨_, ⟨_, _, e⟩ | ⟨lt, _, e⟩⟩
  · rw [e]; exact h
  · rw [e]; exact h
  · subst e
    have len : (GS ++ [S]).length = GS.length + 1 := by rw [List.length_append]; rfl
    refine ⟨fun i h1 h2 => h.1 i (by omega) h2, fun i hi => ?_⟩
    rw [len] at hi
    by_cases e : i = GS.length
    · exact Or.inl (h.1 i (by omega) (by omega))
    · rw [gD_left (by omega)]; exact h.2 i (by omega)
theorem sp_Ref_half {h : MH} {f : (Nat → Nat → Int32)} {l : (Nat → Nat → Int64)} {GS : List (List Nat)} (hg : RGrp f GS) (ok : ∀ S ∈ GS, GOk S) (kn : RKn f l GS) (x w : Int32) :
    SpI k_Ref_half [.ref 54, .int x, .int w] (sil h f l) (fun r y => RhP h f l GS x w r y) := by
  have hl := hg.1
  have t192 : (192 : Int32) = nI 192 := rfl
  have t384 : (384 : Int32) = nI 384 := rfl
  have t3 : (3 : Int32) = nI 3 := rfl
  have t64 : (64 : Int32) = nI 64 := rfl
  refine v_Ref_half _ _ _ _ _ ⟨K54, SpI.mono (sp_Ref_isGroup hg x) ?_⟩
  rintro r y ⟨rfl, ⟨i, hi, rfl, rfl⟩ | ⟨no, rfl⟩⟩
  rotate_left
  · exact ⟨fun _ => ⟨_, rfl, f, l, GS, rfl, Or.inr ⟨grp_no hl no, rfl, rfl⟩, Fr.refl, fun _ _ _ => rfl, Fr.refl, hg, kn⟩, fun q => absurd rfl q⟩
  have okS := ok _ (gD_mem hi)
  have w192 := okS.2.1
  refine ⟨fun q => absurd q (by decide), fun _ => ⟨K54, SpV.mono (sp_Ref_know hg ok hi kn) ?_⟩⟩
  rintro _ ⟨f1, l1, rfl, fr1, frl, kn1, _, L, hv, ll, h68, hb⟩
  have hg1 : RGrp f1 GS := hg.fr (by rw [fr1 54 (by decide)]) (fr1 64 (by decide)) (fr1 65 (by decide))
  have mem := hg1.2.2.2 i hi
  have f54 : ∀ j, j ≠ 17 → j ≠ 19 → f1 54 j = f 54 j := fun j _ _ => by rw [fr1 54 (by decide)]
  refine ⟨fun neg => ⟨_, rfl, f1, l1, GS, rfl, Or.inl ⟨i, hi, rfl, Or.inl ⟨neg, rfl, rfl⟩⟩, fr1.mono (by decide), f54, frl, hg1, kn1⟩, fun nn => ⟨K54, ?_⟩⟩
  rw [R54_21, ix_nI (by omega), mi_sil, h68, nI_toI (by omega)]
  refine ⟨K68, InB_nI (show i < 60 by omega) (by omega), fun lt => ?_, fun ge => ⟨_, rfl, f1, l1, GS, rfl, Or.inl ⟨i, hi, rfl, Or.inr ⟨nn, L, hv, ll, Or.inr ⟨fun ⟨k, hk, e⟩ => ge (by rw [e, nI_toI (by omega)]; omega), rfl, rfl⟩⟩⟩, fr1.mono (by decide), f54, frl, hg1, kn1⟩⟩
  obtain ⟨k, rfl, hk⟩ := op_x nn lt (by omega)
  rintro _ rfl
  rw [wi_sil]
  have hbk := hb k hk
  generalize hS : GS.getD i [] = S at *
  generalize hm : L.getD k fb = m at *
  have main : ∀ d j (f2 : (Nat → Nat → Int32)) (T : List Nat), S.length - j = d → j ≤ S.length → Fr [54, 66] f1 f2 → (∀ q, q ≠ 19 → f2 54 q = f1 54 q) → LsAt f2 T → T.length ≤ j → (∀ y, y ∈ T ↔ ∃ u, u < j ∧ S.getD u 0 = y ∧ m u = false) →
      WM k_Ref_half p_Ref_half_1 [.ref 54, .int (nI i), .int (nI k), .int (nI j)] [] (sil h f2 l1) 0 0 (fun v y => ∃ r, v = .int r ∧ RhP h f l GS (nI i) (nI k) r y) := by
    intro d
    induction d with
    | zero =>
      intro j f2 T hd hj fr f5 ls tl mt
      have e : j = S.length := by omega
      subst e
      have hg2 : RGrp f2 GS := hg1.fr (f5 17 (by decide)) (fr 64 (by decide)) (fr 65 (by decide))
      refine v_Ref_half_1 _ _ _ _ _ _ ⟨K54, ?_⟩
      rw [R54_16, ix_nI (by omega), mi_sil, fr 65 (by decide), mem.1]
      refine ⟨K65, InB_nI (show i < 60 by omega) (by omega), fun q => absurd q (by omega), fun _ => SpI.mono (sp_Ref_numbered ls hg2) ?_⟩
      rintro r _ ⟨f3, T', GS', rfl, fr3, f53, pw, mt', rg, hg3⟩
      refine ⟨_, rfl, f3, l1, GS', rfl, Or.inl ⟨i, hi, rfl, ?_⟩, (fr1.mono (by decide)).trans ((fr.mono (by decide)).trans (fr3.mono (by decide))), fun j h1 h2 => by rw [f53 j h1, f5 j h2]; exact f54 j h1 h2, frl, hg3, (kn1.fr ?_ ?_ ?_ rfl).reg rg⟩
      · rw [hS]
        refine Or.inr ⟨nn, L, hv, ll, Or.inl ⟨k, T', hk, rfl, ⟨pw, fun y => ?_⟩, rg⟩⟩
        rw [mt', mt, hm]
      · rw [fr3 67 (by decide), fr 67 (by decide)]
      · rw [fr3 68 (by decide), fr 68 (by decide)]
      · rw [fr3 69 (by decide), fr 69 (by decide)]
    | succ d ih =>
      intro j f2 T hd hj fr f5 ls tl mt
      have jl : j < S.length := by omega
      have bit : (((l1 70 (384 * i + 3 * k + j / 64)) >>> ((nI (63 - j % 64)).toInt64 &&& (63 : Int64))) &&& (1 : Int64) = 0) ↔ m j = true := by
        rw [shr_bit _ (by omega)]
        have gen : ∀ q, q < 3 → j / 64 = q → WdK (l1 70 (384 * i + 3 * k + q)) m q S.length → ((l1 70 (384 * i + 3 * k + q)).toBitVec.getLsbD (63 - j % 64) = false ↔ m j = true) := fun q hq e wd => by
          rw [wd (j % 64) (by omega), show 64 * q + j % 64 = j by omega, decide_eq_true jl]
          cases m j <;> decide
        have : j / 64 = 0 ∨ j / 64 = 1 ∨ j / 64 = 2 := by omega
        rcases this with e | e | e
        · rw [e]; exact gen 0 (by decide) e hbk.1
        · rw [e]; exact gen 1 (by decide) e hbk.2.1
        · rw [e]; exact gen 2 (by decide) e hbk.2.2
      refine v_Ref_half_1 _ _ _ _ _ _ ⟨K54, ?_⟩
      rw [R54_16, R54_23, R54_15, R54_18, t384, t3, t192, t64, div_nI (by omega) (by omega) (by omega), irm_nI (by omega) (by omega) (by omega), nI_mul, nI_mul, nI_mul, nI_add, nI_add, nI_add, show (63 : Int32) - nI (j % 64) = nI (63 - j % 64) by rw [show (63 : Int32) = nI 63 from rfl, nI_subN, ← zI_nat]; congr 1; omega, ix_nI (by omega), ix_nI (by omega), ix_nI (by omega), mi_sil, ml_sil, fr 65 (by decide), mem.1, lc_eq, bit, ls.2.1, nI_toI (by omega), nI_toI (by omega), ix_nI (by omega), fr 64 (by decide), mem.2 j jl]
      simp only [nI_1]
      refine ⟨K65, InB_nI (show i < 60 by omega) (by omega), fun _ => ⟨K70, InB_nI (show 384 * i + 3 * k + j / 64 < 23040 by omega) (by omega), fun mt1 => ?_, fun mf => ⟨K64, InB_nI (show 192 * i + j < 11520 by omega) (by omega), K66, InB_nI (show T.length < 200 by omega) (by omega), ?_⟩⟩, fun q => absurd (by omega) q⟩
      · refine ih (j + 1) f2 T (by omega) (by omega) fr f5 ls (by omega) (fun y => (mt y).trans ⟨fun ⟨u, a, b, c⟩ => ⟨u, by omega, b, c⟩, fun ⟨u, a, b, c⟩ => ⟨u, ?_, b, c⟩⟩)
        by_cases e : u = j
        · subst e; rw [mt1] at c; exact absurd c (by decide)
        · omega
      · have mf : m j = false := by revert mf; cases m j <;> decide
        rintro _ rfl
        rintro _ rfl
        rw [wi_sil, mi_sil, up2_ne (by decide), ls.2.1, nI_1, wi_sil]
        have nT : S.getD j 0 ∉ T := fun q => by
          obtain ⟨u, a, b, _⟩ := (mt _).mp q
          have := srt_ix okS.1 (by omega) jl b
          omega
        have ls2 := ls.add (okS.c _ (getD_mem jl)) nT (by omega)
        refine ih (j + 1) _ (T ++ [S.getD j 0]) (by omega) (by omega) ((fr.up (by decide)).up (by decide)) (fun q hq => ?_) ls2 (by rw [ls_len]; omega) (fun y => ?_)
        · rw [up2_ni hq, up2_ne (by decide)]; exact f5 q hq
        · rw [ls_mem, mt]
          constructor
          · rintro (⟨u, a, b, c⟩ | e)
            · exact ⟨u, by omega, b, c⟩
            · exact ⟨j, by omega, e.symm, mf⟩
          · rintro ⟨u, a, b, c⟩
            by_cases e : u = j
            · subst e; exact Or.inr b.symm
            · exact Or.inl ⟨u, by omega, b, c⟩
  refine main _ 0 _ [] rfl (Nat.zero_le _) (Fr.refl.up (by decide)) (fun q hq => up2_ni hq) ⟨⟨Nat.zero_le _, List.nodup_nil, fun x hx => absurd hx List.not_mem_nil⟩, up2_s, fun j hj => absurd hj (Nat.not_lt_zero j)⟩ (Nat.zero_le _) (fun y => ⟨fun q => absurd q List.not_mem_nil, fun ⟨u, a, _⟩ => absurd a (Nat.not_lt_zero u)⟩)
