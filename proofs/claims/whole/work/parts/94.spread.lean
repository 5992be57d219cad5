/-! the class's sides: one bit more, and all of them -/
theorem mu_pr' {S : List Nat} (ok : GOk S) {x y z : Nat} (hx : x ∈ S) (hy : y ∈ S) (e : gm x y = z) : Pr x y z := by
  rw [← e]; exact gm_pr ok hx hy
theorem nodup_ix {V : List Nat} (nd : V.Nodup) {i j : Nat} (hi : i < V.length) (hj : j < V.length) (e : V.getD i 0 = V.getD j 0) : i = j := by
  rcases Nat.lt_trichotomy i j with q | q | q
  · exact absurd e (gPw (R := (· ≠ ·)) (d := 0) nd q hj)
  · exact q
  · exact absurd e.symm (gPw (R := (· ≠ ·)) (d := 0) nd q hi)
theorem gRight {α : Type} {d : α} {L N : List α} {j : Nat} (h : L.length ≤ j) : (L ++ N).getD j d = N.getD (j - L.length) d := by
  rw [List.getD_eq_getElem?_getD, List.getD_eq_getElem?_getD, List.getElem?_append_right h]
def SpP (h : MH) (f : (Nat → Nat → Int32)) (l : (Nat → Nat → Int64)) (S V : List Nat) (b r i0 : Nat) (x : Int32) (y : MH) : Prop := ∃ f' V' s', y = sil h f' l ∧ Fr (r :: 42 :: MoIds) f f' ∧ SdI S V' s' (b + 1) ∧ QsAt f' r S.length V' s' ∧ (∀ j ∈ V, j ∈ V') ∧ i0 ∈ V' ∧ x = nI V'.length
theorem sp_Ho_spread {h : MH} {f : (Nat → Nat → Int32)} {l : (Nat → Nat → Int64)} {O : Nat → Nat} {t g r i0 b : Nat} {S MK V : List Nat} {s : Nat → Nat} (ok : GOk S) (gb : GrpB (sil h f l) O t g S MK) (ar : Arr (sil h f l) r S.length) (hr : g + 3 < r) (sd : SdI S V s b) (qa : QsAt f r S.length V s) (hi0 : i0 < S.length) (n0 : i0 ∉ V) (lo : ∀ j, j < i0 → j ∈ V) :
    SpI k_Ho_spread [.ref 5, .ref g, .ref r, .int (nI i0), .int (nI V.length)] (sil h f l) (fun x y => SpP h f l S V b r i0 x y) := by
  have w := ok.2.1
  have r99 := ar.1
  have zS := getD_mem hi0
  have nd := sd.1.1
  have lt := sd.1.2.1
  have t192 : (192 : Int32).toInt = 192 := rfl
  have t2 : (2 : Int32) = nI 2 := rfl
  have m1 : ∀ n : Nat, n < 192 → ¬ nI n = -1 := fun n hn q => by
    have e := congrArg Int32.toInt q
    rw [nI_toI (by omega), l_m1] at e
    omega
  have m42 : ∀ a ∈ 42 :: MoIds, a < 99 := by decide
  have cS : ∀ v ∈ V, S.getD v 0 ∈ S := fun v hv => getD_mem (lt v hv)
  have exP : ∀ u, ∃ p, u < V.length → p < S.length ∧ gm (S.getD i0 0) (S.getD (V.getD u 0) 0) = S.getD p 0 := fun u => by
    by_cases q : u < V.length
    · obtain ⟨p, hp, ep⟩ := mem_getD (gm_mem ok zS (cS _ (getD_mem q)))
      exact ⟨p, fun _ => ⟨hp, ep.symm⟩⟩
    · exact ⟨0, fun z => absurd z q⟩
  let P : Nat → Nat := fun u => Classical.choose (exP u)
  have hP : ∀ u, u < V.length → P u < S.length ∧ gm (S.getD i0 0) (S.getD (V.getD u 0) 0) = S.getD (P u) 0 := fun u => Classical.choose_spec (exP u)
  have PV : ∀ u, u < V.length → P u ∉ V := fun u hu q => by
    have vu := getD_mem hu
    obtain ⟨y, hy, ey⟩ := mem_getD (gm_mem ok (getD_mem (hP u hu).1) (cS _ vu))
    obtain ⟨my, _⟩ := sd.2.2.1 _ q _ vu y hy ey.symm
    have E : Eq2 S (S.getD y 0) (S.getD i0 0) := by
      rw [ey, ← (hP u hu).2]
      exact Eq2.yy ok zS (cS _ vu)
    exact n0 (sd.2.1 y my i0 hi0 E).1
  have Pinj : ∀ u u', u < V.length → u' < V.length → P u = P u' → u = u' := fun u u' hu hu' e => by
    have a := mu_pr' ok zS (cS _ (getD_mem hu)) (hP u hu).2
    have b := mu_pr' ok zS (cS _ (getD_mem hu')) (hP u' hu').2
    rw [← e] at b
    have c := Pr.cancel (ok.2.2.1 _ zS) a b
    have d := srt_ix ok.1 (lt _ (getD_mem hu)) (lt _ (getD_mem hu')) c
    exact nodup_ix nd hu hu' d
  have main : ∀ d u (f1 : (Nat → Nat → Int32)), V.length - u = d → u ≤ V.length → Fr (r :: 42 :: MoIds) f f1 → (∀ q, q < V.length → f1 42 q = nI (V.getD q 0)) → (∀ q, q < u → f1 42 (V.length + q) = nI (P q)) → (∀ q, q < u → f1 r (V.getD q 0) = nI (2 * s (V.getD q 0))) → (∀ q, u ≤ q → q < V.length → f1 r (V.getD q 0) = nI (s (V.getD q 0))) → (∀ q, q < u → f1 r (P q) = nI (2 * s (V.getD q 0) + 1)) → (∀ j, j < S.length → j ∉ V → (∀ q, q < u → j ≠ P q) → f1 r j = -1) →
      WM k_Ho_spread p_Ho_spread_1 [.ref 5, .ref g, .ref r, .int (nI i0), .int (nI V.length), .int (nI (V.length + u)), .int (nI u), Jv, Jv] [] (sil h f1 l) 0 0 (fun v y => ∃ x, v = .int x ∧ SpP h f l S V b r i0 x y) := by
    have vl := qlen V nd lt
    have b7 := sd_b7 (b := b) (by have := sd.1.2.2; omega)
    have p7 := Nat.pow_le_pow_right (show 0 < 2 by decide) b7
    intro d
    induction d with
    | zero =>
      intro u f1 hd hu fr q0 q1 a0 a1 a2 a3
      have eu : u = V.length := by omega
      subst eu
      refine v_Ho_spread_1 _ _ _ _ _ _ _ _ _ ⟨fun q => absurd q (by omega), fun _ => ⟨_, rfl, f1, V ++ gF P V.length, fun j => ix (f1 r j), rfl, fr, ?_, ⟨fun q hq => ?_, fun j hj => ?_, fun j hj nj => ?_⟩, fun j hj => List.mem_append_left _ hj, ?_, ?_⟩⟩
      · have sb : ∀ v ∈ V, s v < 128 := fun v hv => by have := sd.2.2.2.2.1 v hv; omega
        have mem : ∀ j, j ∈ V ++ gF P V.length ↔ j ∈ V ∨ (j < S.length ∧ ∃ v ∈ V, gm (S.getD i0 0) (S.getD v 0) = S.getD j 0) := fun j => by
          rw [List.mem_append, gF_mem]
          refine or_congr_right ⟨?_, ?_⟩
          · rintro ⟨q, hq, rfl⟩
            exact ⟨(hP q hq).1, _, getD_mem hq, (hP q hq).2⟩
          · rintro ⟨hj, v, hv, ev⟩
            obtain ⟨q, hq, eq⟩ := mem_getD hv
            refine ⟨q, hq, srt_ix ok.1 (hP q hq).1 hj ?_⟩
            rw [← (hP q hq).2, eq, ev]
        refine sd.more ok hi0 n0 lo ?_ ?_ mem (fun v hv => ?_) (fun v hv j hj ev => ?_)
        · refine List.nodup_append.mpr ⟨nd, gF_pw (R := (· ≠ ·)) (fun x y hxy hy e => ?_), fun x hx y hy e => ?_⟩
          · have := Pinj x y (by omega) hy e; omega
          · obtain ⟨q, hq, rfl⟩ := gF_mem.mp hy
            exact PV q hq (e ▸ hx)
        · rw [List.length_append, gF_len]; omega
        · obtain ⟨q, hq, eq⟩ := mem_getD hv
          have := a0 q hq
          rw [eq] at this
          have := sb v hv
          rw [‹f1 r v = _›, ix_nI (by omega)]
        · obtain ⟨q, hq, eq⟩ := mem_getD hv
          have e : P q = j := srt_ix ok.1 (hP q hq).1 hj (by rw [← (hP q hq).2, eq, ev])
          have := a2 q hq
          rw [eq, e] at this
          have := sb v hv
          rw [‹f1 r j = _›, ix_nI (by omega)]
      · rw [List.length_append, gF_len] at hq
        rcases Nat.lt_or_ge q V.length with c | c
        · rw [getD_left c]; exact q0 q c
        · rw [gRight c, gF_getD (by omega)]
          have := q1 (q - V.length) (by omega)
          rw [show V.length + (q - V.length) = q by omega] at this
          exact this
      · have nn : 0 ≤ (f1 r j).toInt := by
          rcases List.mem_append.mp hj with c | c
          · obtain ⟨q, hq, eq⟩ := mem_getD c
            have e := a0 q hq
            rw [eq] at e
            have := sd.2.2.2.2.1 j c
            rw [e, nI_toI (by omega)]; omega
          · obtain ⟨q, hq, rfl⟩ := gF_mem.mp c
            have := sd.2.2.2.2.1 _ (getD_mem hq)
            rw [a2 q hq, nI_toI (by omega)]; omega
        exact hb_of nn
      · exact a3 j hj (fun q => nj (List.mem_append_left _ q)) (fun q hq e => nj (List.mem_append_right _ (gF_mem.mpr ⟨q, hq, e.symm⟩)))
      · obtain ⟨e, he, ee⟩ := mem_getD ok.2.2.2.1
        obtain ⟨me, _⟩ := sd.2.2.2.2.2.1 e he (by rw [ee]; exact reach_id)
        obtain ⟨q, hq, eq⟩ := mem_getD me
        refine List.mem_append_right _ (gF_mem.mpr ⟨q, hq, srt_ix ok.1 (hP q hq).1 hi0 ?_⟩)
        rw [← (hP q hq).2, eq, ee, gm_1r ok zS]
      · rw [List.length_append, gF_len]
    | succ d ih =>
      intro u f1 hd hu fr q0 q1 a0 a1 a2 a3
      have ul : u < V.length := by omega
      have vu := getD_mem ul
      have vS := cS _ vu
      have vlt := lt _ vu
      have sb := sd.2.2.2.2.1 _ vu
      have pu := hP u ul
      have g1 := gb.fr (l' := l) fr hr m42
      have g3 := g1.1.2.1
      -- the room for one more
      have room : V.length + u + 1 ≤ S.length := by
        have nd' : (V ++ gF P (u + 1)).Nodup := List.nodup_append.mpr ⟨nd, gF_pw (R := (· ≠ ·)) (fun x y hxy hy e => by
          have := Pinj x y (by omega) (by omega) e; omega), fun x hx y hy e => by
          obtain ⟨q, hq, rfl⟩ := gF_mem.mp hy
          exact PV q (by omega) (e ▸ hx)⟩
        have := qlen _ nd' (fun x hx => by
          rcases List.mem_append.mp hx with c | c
          · exact lt x c
          · obtain ⟨q, hq, rfl⟩ := gF_mem.mp c
            exact (hP q (by omega)).1)
        rw [List.length_append, gF_len] at this
        omega
      have vP : V.getD u 0 ≠ P u := fun e => PV u ul (e ▸ vu)
      refine v_Ho_spread_1 _ _ _ _ _ _ _ _ _ ?_
      rw [nI_toI (by omega), nI_toI (by omega), R5_12, ix_nI (by omega), mi_sil, q0 u ul, ix_nI (by omega), a1 u (Nat.le_refl _) ul, t2, nI_mul, g1.2.1.2.1, g1.2.2.1.2.1, show ln (sil h f1 l) r = S.length from ar.2.2.2, g1.2.2.2.1.2.1, ix_nI (by omega)]
      refine ⟨fun _ => ⟨Kd5, K42, InB_nI (show u < 192 by omega) (by omega), ar.2.2.1, InB_nI vlt (by omega), ?_⟩, fun q => absurd (by omega) q⟩
      rintro _ rfl
      rw [wi_sil, mi_sil, up2_row (show g + 2 ≠ r by omega)]
      have g2 := g1.2.2.2.1.2.2
      rw [mi_sil] at g2
      rw [g2 i0 hi0, g2 _ vlt]
      refine ⟨g1.2.1.1, g1.2.2.1.1, g1.2.2.2.1.1, InB_nI hi0 (by omega), InB_nI vlt (by omega), SpI.mono (joined_fr (ok.c _ zS) (ok.c _ vS)) ?_⟩
      rintro r1 _ ⟨rfl, f2, rfl, fr2⟩
      obtain ⟨pz, pS, ez⟩ := ok.pr zS vS
      have ep : (prod (S.getD i0 0) (S.getD (V.getD u 0) 0)).toNat = S.getD (P u) 0 := pu.2
      rw [ez, ep, zI_nat]
      have pb : S.getD (P u) 0 < 272097792 := ok.c _ (getD_mem pu.1)
      have fr2' : Fr (r :: 42 :: MoIds) f f2 := (fr.up List.mem_cons_self).trans (fr2.mono (fun a ha => List.mem_cons_of_mem _ (List.mem_cons_of_mem _ ha)))
      have gg := gb.fr (l' := l) fr2' hr m42
      refine ⟨gg.2.2.1.1, SpI.mono (sp_Row_find _ (gg.row ok.1 ok.2.1 ok.c)) ?_⟩
      rw [nI_toI (by omega)]
      rintro r3 g0 ⟨e0, fd⟩
      subst g0
      rcases fd with ⟨k, hk, ek, rfl⟩ | ⟨_, no⟩
      rotate_left
      · exact absurd rfl (no _ pu.1)
      have ek : k = P u := srt_ix ok.1 hk pu.1 (by omega)
      subst ek
      have er : f2 r = up2 f1 r (V.getD u 0) (nI (2 * s (V.getD u 0))) r := fr2 r (fun q => by have := m42 r (List.mem_cons_of_mem _ q); omega)
      have e42 : f2 42 = f1 42 := (fr2 42 (by decide)).trans (up2_row (by omega))
      refine ⟨fun q => absurd q (m1 _ (by omega)), fun _ => ⟨ar.2.2.1, ?_⟩⟩
      rw [show ln (sil h f2 l) r = S.length from ar.2.2.2, ix_nI (by omega), mi_sil, er, up2_ni (Ne.symm vP), a3 _ pu.1 (PV u ul) (fun q hq e => by have := Pinj u q ul (by omega) e; omega), up2_s, nI_1]
      refine ⟨InB_nI pu.1 (by omega), fun _ => ⟨fun _ => ⟨InB_nI vlt (by omega), ?_⟩, fun q => absurd (by rw [nI_toI (by omega), t192]; omega) q⟩, fun q => absurd rfl q⟩
      rintro _ rfl
      rw [R5_12, ix_nI (by omega)]
      refine ⟨Kd5, K42, InB_nI (show V.length + u < 192 by omega) (by omega), ?_⟩
      rintro _ rfl
      rw [wi_sil, wi_sil, nI_1, nI_1, show V.length + u + 1 = V.length + (u + 1) by omega]
      have r42 : r ≠ 42 := by omega
      have fin : ∀ j, up2 (up2 f2 r (P u) (nI (2 * s (V.getD u 0) + 1))) 42 (V.length + u) (nI (P u)) r j = if j = P u then nI (2 * s (V.getD u 0) + 1) else if j = V.getD u 0 then nI (2 * s (V.getD u 0)) else f1 r j := fun j => by
        rw [up2_ne r42]
        by_cases c : j = P u
        · rw [if_pos c, c, up2_s]
        · rw [if_neg c, up2_ni c, er]
          by_cases c2 : j = V.getD u 0
          · rw [if_pos c2, c2, up2_s]
          · rw [if_neg c2, up2_ni c2]
      refine ih (u + 1) _ (by omega) (by omega) ((fr2'.up List.mem_cons_self).up (List.mem_cons_of_mem _ List.mem_cons_self)) (fun q hq => ?_) (fun q hq => ?_) (fun q hq => ?_) (fun q h1 h2 => ?_) (fun q hq => ?_) (fun j hj nj np => ?_)
      · rw [up2_ni (by omega), up2_ne (Ne.symm r42), e42]; exact q0 q hq
      · by_cases c : q = u
        · subst c; exact up2_s
        · rw [up2_ni (by omega), up2_ne (Ne.symm r42), e42]; exact q1 q (by omega)
      · have vq := getD_mem (L := V) (j := q) (by omega)
        have vqP : V.getD q 0 ≠ P u := fun e => PV u ul (e ▸ vq)
        rw [fin, if_neg vqP]
        by_cases c : q = u
        · subst c; rw [if_pos rfl]
        · rw [if_neg (fun e => c (nodup_ix nd (by omega) ul e))]; exact a0 q (by omega)
      · have vq := getD_mem (L := V) (j := q) (by omega)
        have vqP : V.getD q 0 ≠ P u := fun e => PV u ul (e ▸ vq)
        rw [fin, if_neg vqP, if_neg (fun e => absurd (nodup_ix nd (by omega) ul e) (by omega))]
        exact a1 q (by omega) h2
      · rw [fin]
        by_cases c : q = u
        · subst c; rw [if_pos rfl]
        · rw [if_neg (fun e => c (Pinj q u (by omega) ul e)), if_neg (fun e => PV q (by omega) (by rw [e]; exact vu))]
          exact a2 q (by omega)
      · rw [fin, if_neg (np u (by omega)), if_neg (fun e => nj (by rw [e]; exact vu))]
        exact a3 j hj nj (fun q hq => np q (by omega))
  have := main _ 0 f rfl (Nat.zero_le _) Fr.refl qa.1 (fun q hq => absurd hq (Nat.not_lt_zero q)) (fun q hq => absurd hq (Nat.not_lt_zero q)) (fun q _ hq => qa.2.1 _ (getD_mem hq)) (fun q hq => absurd hq (Nat.not_lt_zero q)) (fun j hj nj _ => qa.2.2 j hj nj)
  exact v_Ho_spread _ _ _ _ _ _ _ this
