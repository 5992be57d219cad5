/-! the class of a group -/
theorem brK_f {S : List Nat} (so : S.Pairwise (· < ·)) : ∀ n, n ≤ S.length → ((brK S n).map (· / 13824)).Pairwise (· < ·) ∧ ∀ k, k ∈ (brK S n).map (· / 13824) ↔ ∃ j, j < n ∧ S.getD j 0 / 13824 = k
  | 0, _ => ⟨List.Pairwise.nil, fun k => ⟨fun h => absurd h List.not_mem_nil, fun ⟨j, hj, _⟩ => absurd hj (Nat.not_lt_zero j)⟩⟩
  | n + 1, h => by
    obtain ⟨i1, i2⟩ := brK_f so n (by omega)
    have mono : ∀ j, j < n → S.getD j 0 / 13824 ≤ S.getD n 0 / 13824 := fun j hj => Nat.div_le_div_right (Nat.le_of_lt (srt_lt so hj (by omega)))
    by_cases q : n = 0 ∨ S.getD n 0 / 13824 ≠ S.getD (n - 1) 0 / 13824
    · rw [brK_y q, List.map_append]
      refine ⟨List.pairwise_append.mpr ⟨i1, List.pairwise_singleton _ _, fun a ha b hb => ?_⟩, fun k => ?_⟩
      · obtain ⟨j, hj, e⟩ := (i2 a).mp ha
        have eb : b = S.getD n 0 / 13824 := List.mem_singleton.mp hb
        have m1 := mono j hj
        have m2 := mono (n - 1) (by omega)
        have m3 : S.getD j 0 / 13824 ≤ S.getD (n - 1) 0 / 13824 := by
          by_cases e : j = n - 1
          · rw [e]; exact Nat.le_refl _
          · exact Nat.div_le_div_right (Nat.le_of_lt (srt_lt so (show j < n - 1 by omega) (by omega)))
        rcases q with q | q
        · omega
        · omega
      · rw [List.mem_append, i2 k]
        refine ⟨fun w => w.elim (fun ⟨j, hj, e⟩ => ⟨j, by omega, e⟩) (fun w => ⟨n, by omega, (List.mem_singleton.mp w).symm⟩), fun ⟨j, hj, e⟩ => ?_⟩
        by_cases ej : j = n
        · subst ej; exact Or.inr (List.mem_singleton.mpr e.symm)
        · exact Or.inl ⟨j, by omega, e⟩
    · rw [brK_n q]
      refine ⟨i1, fun k => (i2 k).trans ⟨fun ⟨j, hj, e⟩ => ⟨j, by omega, e⟩, fun ⟨j, hj, e⟩ => ?_⟩⟩
      by_cases ej : j = n
      · subst ej
        have : S.getD j 0 / 13824 = S.getD (j - 1) 0 / 13824 := Classical.byContradiction (fun w => q (Or.inr w))
        exact ⟨j - 1, by omega, by rw [← this]; exact e⟩
      · exact ⟨j, by omega, e⟩
def PS (S : List Nat) (k : Nat) : Prop := ∃ c ∈ S, c / 13824 = k
theorem PS_c {S : List Nat} (ok : GOk S) : CdC (PS S) := by
  refine ⟨fun k ⟨c, hc, e⟩ => ?_, fun p q ⟨c, hc, ec⟩ ⟨d, hd, ed⟩ => ?_⟩
  · have : c < 272097792 := ok.c c hc
    omega
  · obtain ⟨z, hz, pr⟩ := ok.2.2.2.2 c hc d hd
    refine ⟨z / 13824, ⟨z, hz, rfl⟩, fun j hj => ?_⟩
    rw [← ec, ← ed, ← eM_c, ← eM_c, ← eM_c]
    exact pr.2.2.2.1 j hj
theorem PS_d {S : List Nat} (ok : GOk S) {k : Nat} (h : PS S k) : dtK k = 1 ∨ dtK k = -1 := by
  obtain ⟨c, hc, e⟩ := h
  have := (ok.2.2.1 c hc).2
  rw [eM_c c, e] at this
  exact this
theorem PS_i {S : List Nat} (ok : GOk S) : PS S 16484 := ⟨idc, ok.2.2.2.1, by decide⟩
theorem PS_v {S : List Nat} (ok : GOk S) {k : Nat} (h : PS S k) : ∃ m, PS S m ∧ MP m k 16484 := by
  obtain ⟨c, hc, e⟩ := h
  obtain ⟨y, hy, _, pr⟩ := ok.inv hc
  refine ⟨y / 13824, ⟨y, hy, rfl⟩, fun j hj => ?_⟩
  rw [← e, ← eM_c, ← eM_c]
  have := pr.2.2.2.1 j hj
  rw [← this, eM_c idc]
  rfl
theorem MP.fn {p q r r' : Nat} (h : MP p q r) (h' : MP p q r') (hr : r < 19683) (hr' : r' < 19683) : r = r' := by
  have := (lz_MP h).symm.trans (lz_MP h')
  exact wK_inj hr hr' (by omega)
theorem MP.one {k : Nat} : MP 16484 k k := fun j hj => by
  have e := id_M
  have i : ∀ j, j < 9 → eM (13824 * 16484) j = if j % 4 = 0 then 1 else 0 := fun j hj => by
    rw [← e j hj, eM_c idc]
    rfl
  unfold mul9
  rw [i _ (by omega), i _ (by omega), i _ (by omega)]
  have : j = 0 ∨ j = 1 ∨ j = 2 ∨ j = 3 ∨ j = 4 ∨ j = 5 ∨ j = 6 ∨ j = 7 ∨ j = 8 := by omega
  rcases this with rfl | rfl | rfl | rfl | rfl | rfl | rfl | rfl | rfl <;> simp
theorem MP.cancel {p q q' r m : Nat} (hv : MP m p 16484) (h : MP p q r) (h' : MP p q' r) (hq : q < 19683) (hq' : q' < 19683) : q = q' := by
  have a : ∀ x, MP p x r → ∀ j, j < 9 → eM (13824 * x) j = mul9 (eM (13824 * m)) (eM (13824 * r)) j := fun x hx j hj => by
    rw [MP.one j hj, mul9_ext (fun j hj => hv j hj) (fun j hj => rfl) j hj, mul9_assoc _ _ _ j hj]
    exact (mul9_ext (fun j hj => rfl) (fun j hj => hx j hj) j hj).symm
  have e : MP 16484 q q' := fun j hj => by rw [a q' h' j hj, ← a q h j hj]; exact MP.one j hj
  exact (MP.fn MP.one e hq hq')
theorem cls_all {S : List Nat} (ok : GOk S) : ∃ i, CtOK (brK S S.length) i := by
  obtain ⟨ks, km0⟩ := brK_f ok.1 S.length (Nat.le_refl _)
  generalize hKB : (brK S S.length).map (· / 13824) = KB at *
  have kl : KB.length ≤ 192 := by
    rw [← hKB, List.length_map]
    exact Nat.le_trans (brK_len _) ok.2.1
  have km : ∀ k, k ∈ KB ↔ PS S k := fun k => (km0 k).trans ⟨fun ⟨j, hj, e⟩ => ⟨_, getD_mem hj, e⟩, fun ⟨c, hc, e⟩ => by obtain ⟨j, hj, q⟩ := mem_getD hc; exact ⟨j, hj, by rw [q]; exact e⟩⟩
  have cd := PS_c ok
  have kn : KB.Nodup := srt_nodup ks
  have cnt : ∀ s, cntS (brK S S.length) s = (KB.filter fun k => decide (sortZ (eM (13824 * k)) = s)).length := fun s => by
    unfold cntS
    rw [← hKB, List.filter_map, List.length_map]
    congr 1
    exact List.filter_congr (fun c _ => by rw [eM_c c]; rfl)
  obtain ⟨L1, s1, m1, k1⟩ := rot11 (R := rotP (PS S)) cd.rot (fun k h => h.2) ⟨PS_i ok, by decide +kernel⟩
  have n1 : L1.Nodup := srt_nodup s1
  have lt : ∀ k, PS S k → k < 19683 := cd.1
  have l1 : L1.length ≤ 192 := by
    refine Nat.le_trans (sub_len L1 (KB.map wK) n1 (fun y hy => ?_)) (by rw [List.length_map]; exact kl)
    obtain ⟨k, hk, e⟩ := (m1 y).mp hy
    exact List.mem_map.mpr ⟨k, (km k).mpr hk.1, e.symm⟩
  have pos : ∀ t, 2 ≤ t ∧ t ≤ 6 → cntS (brK S S.length) (srtT t) = cnT t L1 := fun t ht => by
    rw [cnt, cnT_l, ← List.length_map (f := wK)]
    refine len_eq (map_nodup (kn.filter _) (fun x hx y hy e => wK_inj (lt x ((km x).mp (List.mem_filter.mp hx).1)) (lt y ((km y).mp (List.mem_filter.mp hy).1)) e)) (n1.filter _) (fun y => ?_)
    rw [List.mem_map, List.mem_filter, m1 y]
    refine ⟨fun ⟨k, hk, e⟩ => ?_, fun ⟨⟨k, hk, e⟩, ht'⟩ => ?_⟩
    · rw [List.mem_filter, decide_eq_true_iff] at hk
      have pk := (km k).mp hk.1
      obtain ⟨d1, d2⟩ := (sort_p ht (PS_d ok pk)).mp hk.2
      exact ⟨⟨k, ⟨pk, d1⟩, e.symm⟩, by rw [decide_eq_true_iff, ← e]; exact d2⟩
    · rw [decide_eq_true_iff] at ht'
      exact ⟨k, List.mem_filter.mpr ⟨(km k).mpr hk.1, by rw [decide_eq_true_iff]; exact (sort_p ht (Or.inl hk.2)).mpr ⟨hk.2, by rw [← e]; exact ht'⟩⟩, e.symm⟩
  have hLN : ∃ LN : List Nat, LN.Nodup ∧ (∀ y, y ∈ LN ↔ ∃ k, k < 19683 ∧ PS S (19682 - k) ∧ dtK k = 1 ∧ y = wK k) ∧ ∀ t, 2 ≤ t ∧ t ≤ 6 → cntS (brK S S.length) (-srtT t) = cnT t LN := by
    have inj : ∀ x ∈ KB, ∀ y ∈ KB, wK (19682 - x) = wK (19682 - y) → x = y := fun x hx y hy e => by
      have a := lt x ((km x).mp hx)
      have b := lt y ((km y).mp hy)
      have := wK_inj (k := 19682 - x) (m := 19682 - y) (by omega) (by omega) e
      omega
    refine ⟨(KB.filter fun k => decide (dtK k = -1)).map (fun k => wK (19682 - k)), map_nodup (kn.filter _) (fun x hx y hy e => inj x (List.mem_filter.mp hx).1 y (List.mem_filter.mp hy).1 e), fun y => ?_, fun t ht => ?_⟩
    · rw [List.mem_map]
      refine ⟨fun ⟨k, hk, e⟩ => ?_, fun ⟨k, hk, pk, dk, e⟩ => ⟨19682 - k, ?_, by rw [ngng hk]; exact e.symm⟩⟩
      · rw [List.mem_filter, decide_eq_true_iff] at hk
        have pk := (km k).mp hk.1
        have hlt := lt k pk
        exact ⟨19682 - k, by omega, by rw [ngng hlt]; exact pk, by rw [dt_ng hlt, hk.2]; rfl, e.symm⟩
      · rw [List.mem_filter, decide_eq_true_iff]
        exact ⟨(km _).mpr pk, by rw [dt_ng hk, dk]⟩
    · rw [cnt, cnT_l, ← List.length_map (f := fun k => wK (19682 - k))]
      refine len_eq (map_nodup (kn.filter _) (fun x hx y hy e => inj x (List.mem_filter.mp hx).1 y (List.mem_filter.mp hy).1 e)) ((map_nodup (kn.filter _) (fun x hx y hy e => inj x (List.mem_filter.mp hx).1 y (List.mem_filter.mp hy).1 e)).filter _) (fun y => ?_)
      rw [List.mem_map, List.mem_filter, List.mem_map]
      refine ⟨fun ⟨k, hk, e⟩ => ?_, fun ⟨⟨k, hk, e⟩, ht'⟩ => ?_⟩
      · rw [List.mem_filter, decide_eq_true_iff] at hk
        have pk := (km k).mp hk.1
        obtain ⟨d1, d2⟩ := (sort_n ht (lt k pk) (PS_d ok pk)).mp hk.2
        rw [dt_ng (lt k pk)] at d1
        exact ⟨⟨k, List.mem_filter.mpr ⟨hk.1, by rw [decide_eq_true_iff]; omega⟩, e⟩, by rw [decide_eq_true_iff, ← e]; exact d2⟩
      · rw [List.mem_filter, decide_eq_true_iff] at hk
        rw [decide_eq_true_iff] at ht'
        have pk := (km k).mp hk.1
        exact ⟨k, List.mem_filter.mpr ⟨hk.1, by rw [decide_eq_true_iff]; exact (sort_n ht (lt k pk) (PS_d ok pk)).mpr ⟨by rw [dt_ng (lt k pk), hk.2]; rfl, by rw [e]; exact ht'⟩⟩, e⟩
  obtain ⟨LN, nN, mN, neg⟩ := hLN
  have V1 := key_v (by omega) k1
  have cvE : cv (brK S S.length) = vc4 L1 ++ [cnT 6 LN, cnT 2 LN, cnT 3 LN, cnT 4 LN, cnT 5 LN] := by
    unfold cv vc4
    rw [show cntS (brK S S.length) 2 = cnT 2 L1 from pos 2 (by decide), show cntS (brK S S.length) 3 = cnT 3 L1 from pos 3 (by decide), show cntS (brK S S.length) 4 = cnT 4 L1 from pos 4 (by decide), show cntS (brK S S.length) 6 = cnT 5 L1 from pos 5 (by decide), show cntS (brK S S.length) (-1) = cnT 6 LN from neg 6 (by decide), show cntS (brK S S.length) (-2) = cnT 2 LN from neg 2 (by decide), show cntS (brK S S.length) (-3) = cnT 3 LN from neg 3 (by decide), show cntS (brK S S.length) (-4) = cnT 4 LN from neg 4 (by decide), show cntS (brK S S.length) (-6) = cnT 5 LN from neg 5 (by decide)]
    rfl
  have fin : ∀ v, (∃ i ∈ List.range 32, clT.getD i [] = v) → cv (brK S S.length) = v → ∃ i, CtOK (brK S S.length) i := fun v ⟨i, hi, e⟩ h => ⟨i, List.mem_range.mp hi, h.trans e.symm⟩
  have rc1 : ∀ y ∈ L1, ∃ k ∈ rcL, k < 19683 ∧ rotP (PS S) k ∧ y = wK k := fun y hy => by
    obtain ⟨k, hk, e⟩ := (m1 y).mp hy
    exact ⟨k, rc_mem cd.rot hk hk.2, lt k hk.1, hk, e⟩
  have rcN : ∀ y ∈ LN, ∃ k ∈ rcL, k < 19683 ∧ PS S (19682 - k) ∧ dtK k = 1 ∧ y = wK k := fun y hy => by
    obtain ⟨k, hk, pk, dk, e⟩ := (mN y).mp hy
    exact ⟨k, rc_mem cd.dbl.rot ⟨⟨hk, Or.inr pk⟩, dk⟩ dk, hk, pk, dk, e⟩
  have six1 : cnT 6 L1 = 1 := by
    rw [cnT_l]
    refine len_eq (M := [wK 16484]) (n1.filter _) (List.nodup_cons.mpr ⟨List.not_mem_nil, List.nodup_nil⟩) (fun y => ?_)
    rw [List.mem_filter, List.mem_singleton, decide_eq_true_iff]
    refine ⟨fun ⟨h1, h2⟩ => ?_, fun h => ⟨(m1 y).mpr ⟨16484, ⟨PS_i ok, by decide +kernel⟩, h⟩, by rw [h]; decide +kernel⟩⟩
    obtain ⟨k, rk, _, _, e⟩ := rc1 y h1
    rw [e] at h2
    rw [e, (chkR_s chk_R k rk).2.1 h2]
  by_cases e0 : LN = []
  · refine fin _ (row0 _ V1) ?_
    rw [cvE, e0]
    rfl
  · by_cases eI : wK 16484 ∈ LN
    · have pI : PS S (19682 - 16484) := by
        obtain ⟨k, hk, pk, _, e⟩ := (mN _).mp eI
        have : 16484 = k := wK_inj (by decide) hk e
        rw [this]; exact pk
      have same : ∀ y, y ∈ LN ↔ y ∈ L1 := fun y => by
        rw [mN y, m1 y]
        refine ⟨fun ⟨k, hk, pk, dk, e⟩ => ⟨k, ⟨?_, dk⟩, e⟩, fun ⟨k, hk, e⟩ => ⟨k, lt k hk.1, ?_, hk.2, e⟩⟩
        · obtain ⟨r, r1, r2⟩ := cd.2 _ _ pI pk
          have := (MP.one (k := k)).n1 (by decide) hk
          have := this.n2 hk (by omega)
          rw [ngng hk] at this
          rw [← MP.fn r2 this (lt r r1) hk]
          exact r1
        · obtain ⟨r, r1, r2⟩ := cd.2 _ _ pI hk.1
          have := (MP.one (k := k)).n1 (by decide) (lt k hk.1)
          rw [← MP.fn r2 this (lt r r1) (by omega)]
          exact r1
      have ce : ∀ t, cnT t LN = cnT t L1 := fun t => cnT_eq nN n1 same
      refine fin _ (row1 _ V1) ?_
      rw [cvE, ce, ce, ce, ce, ce, six1]
      rfl
    · obtain ⟨L2, s2, m2, k2⟩ := rot11 (R := rotP (dbl (PS S))) cd.dbl.rot (fun k h => h.2) ⟨⟨by decide, Or.inl (PS_i ok)⟩, by decide +kernel⟩
      have n2 : L2.Nodup := srt_nodup s2
      have noI : ¬ PS S (19682 - 16484) := fun h => eI ((mN _).mpr ⟨16484, by decide, h, by decide +kernel, rfl⟩)
      have dis : ∀ y, y ∈ L1 → y ∈ LN → False := fun y h1 h2 => by
        obtain ⟨k, hk, e⟩ := (m1 y).mp h1
        obtain ⟨k', hk', pk', _, e'⟩ := (mN y).mp h2
        have ek : k = k' := wK_inj (lt k hk.1) hk' (e.symm.trans e')
        subst ek
        obtain ⟨m, pm, mp⟩ := PS_v ok hk.1
        obtain ⟨r, r1, r2⟩ := cd.2 m _ pm pk'
        have := MP.fn r2 (mp.n2 hk' (by decide)) (lt r r1) (by decide)
        rw [this] at r1
        exact noI r1
      have nA : (L1 ++ LN).Nodup := List.nodup_append.mpr ⟨n1, nN, fun a ha b hb e => dis a ha (by rw [e]; exact hb)⟩
      have mA : ∀ y, y ∈ L2 ↔ y ∈ L1 ++ LN := fun y => by
        rw [m2 y, List.mem_append, m1 y, mN y]
        refine ⟨fun ⟨k, ⟨⟨hk, pk⟩, dk⟩, e⟩ => pk.elim (fun q => Or.inl ⟨k, ⟨q, dk⟩, e⟩) (fun q => Or.inr ⟨k, hk, q, dk, e⟩), fun w => w.elim (fun ⟨k, hk, e⟩ => ⟨k, ⟨⟨lt k hk.1, Or.inl hk.1⟩, hk.2⟩, e⟩) (fun ⟨k, hk, pk, dk, e⟩ => ⟨k, ⟨⟨hk, Or.inr pk⟩, dk⟩, e⟩)⟩
      have c2 : ∀ t, cnT t L2 = cnT t L1 + cnT t LN := fun t => (cnT_eq n2 nA mA).trans (cnT_app L1 LN)
      have lA : L2.length = L1.length + LN.length := (len_eq n2 nA mA).trans List.length_append
      have z6 : cnT 6 LN = 0 := cnT_0 (fun y hy q => by
        obtain ⟨k, rk, hk, pk, dk, e⟩ := rcN y hy
        rw [e] at q
        have := (chkR_s chk_R k rk).2.1 q
        rw [this] at pk
        exact noI pk)
      have z3 : cnT 3 LN = 0 := cnT_0 (fun y hy q => by
        obtain ⟨k, rk, hk, pk, dk, e⟩ := rcN y hy
        rw [e] at q
        have h3 := (chkR_s chk_R k rk).2.2 q
        obtain ⟨r, r1, r2⟩ := cd.2 _ _ pk pk
        have kk := (r2.n1 (by omega) (lt r r1)).n2 (by omega) (by have := lt r r1; omega)
        rw [ngng hk, ngng (lt r r1)] at kk
        rw [(lz_ok kk (lt r r1)).2] at h3
        obtain ⟨u, u1, u2⟩ := cd.2 _ _ pk r1
        have kr := u2.n1 (by omega) (lt u u1)
        rw [ngng hk] at kr
        have hu : 19682 - u < 19683 := by omega
        rw [(lz_ok kr hu).2] at h3
        have := wK_inj hu (by decide) h3
        rw [show u = 19682 - 16484 by have := lt u u1; omega] at u1
        exact noI u1)
      obtain ⟨w0, hw0⟩ := List.exists_mem_of_ne_nil LN e0
      obtain ⟨k0, rk0, hk0, pk0, dk0, _⟩ := rcN w0 hw0
      obtain ⟨v0, pv0, mv0⟩ := PS_v ok pk0
      have le1 : L1.length ≤ LN.length := by
        have fw : ∀ k, PS S k → ∃ r, PS S r ∧ MP (19682 - k0) k r ∧ lsb (lz (eKk k0) (wK k)) = wK (19682 - r) := fun k hk => by
          obtain ⟨r, r1, r2⟩ := cd.2 _ _ pk0 hk
          have a := r2.n1 (by omega) (lt r r1)
          rw [ngng hk0] at a
          exact ⟨r, r1, r2, (lz_ok a (by omega)).2⟩
        have := sub_len (L1.map fun w => lsb (lz (eKk k0) w)) LN (map_nodup n1 (fun x hx y hy e => ?_)) (fun y hy => ?_)
        · rw [List.length_map] at this; exact this
        · obtain ⟨a, _, ha, pa, ea⟩ := rc1 x hx
          obtain ⟨b, _, hb, pb, eb⟩ := rc1 y hy
          obtain ⟨r, r1, r2, r3⟩ := fw a pa.1
          obtain ⟨u, u1, u2, u3⟩ := fw b pb.1
          have e : lsb (lz (eKk k0) x) = lsb (lz (eKk k0) y) := e
          rw [ea, eb, r3, u3] at e
          have := wK_inj (k := 19682 - r) (m := 19682 - u) (by omega) (by omega) e
          have ru : r = u := by have := lt r r1; have := lt u u1; omega
          subst ru
          rw [ea, eb, MP.cancel mv0 r2 u2 ha hb]
        · obtain ⟨x, hx, e⟩ := List.mem_map.mp hy
          obtain ⟨a, _, ha, pa, ea⟩ := rc1 x hx
          obtain ⟨r, r1, r2, r3⟩ := fw a pa.1
          rw [← e, ea, r3]
          refine (mN _).mpr ⟨19682 - r, by omega, by rw [ngng (lt r r1)]; exact r1, ?_, rfl⟩
          rw [dt_ng (lt r r1), r2.dt, dt_ng hk0, dk0, pa.2]
          rfl
      have le2 : LN.length ≤ L1.length := by
        have fw : ∀ k, k < 19683 → PS S (19682 - k) → ∃ r, PS S r ∧ MP (19682 - k0) (19682 - k) r ∧ lsb (lz (eKk k0) (wK k)) = wK r := fun k hk pk => by
          obtain ⟨r, r1, r2⟩ := cd.2 _ _ pk0 pk
          have a := (r2.n1 (by omega) (lt r r1)).n2 (by omega) (by have := lt r r1; omega)
          rw [ngng hk0, ngng hk, ngng (lt r r1)] at a
          exact ⟨r, r1, r2, (lz_ok a (lt r r1)).2⟩
        have := sub_len (LN.map fun w => lsb (lz (eKk k0) w)) L1 (map_nodup nN (fun x hx y hy e => ?_)) (fun y hy => ?_)
        · rw [List.length_map] at this; exact this
        · obtain ⟨a, _, ha, pa, da, ea⟩ := rcN x hx
          obtain ⟨b, _, hb, pb, db, eb⟩ := rcN y hy
          obtain ⟨r, r1, r2, r3⟩ := fw a ha pa
          obtain ⟨u, u1, u2, u3⟩ := fw b hb pb
          have e : lsb (lz (eKk k0) x) = lsb (lz (eKk k0) y) := e
          rw [ea, eb, r3, u3] at e
          have ru : r = u := wK_inj (lt r r1) (lt u u1) e
          subst ru
          have := MP.cancel mv0 r2 u2 (by omega) (by omega)
          rw [ea, eb, show a = b by omega]
        · obtain ⟨x, hx, e⟩ := List.mem_map.mp hy
          obtain ⟨a, _, ha, pa, da, ea⟩ := rcN x hx
          obtain ⟨r, r1, r2, r3⟩ := fw a ha pa
          rw [← e, ea, r3]
          refine (m1 _).mpr ⟨r, ⟨r1, ?_⟩, rfl⟩
          rw [r2.dt, dt_ng hk0, dt_ng ha, dk0, da]
          rfl
      have t1 : ∀ x ∈ L1, 2 ≤ tau x ∧ tau x ≤ 6 := fun x hx => by
        obtain ⟨k, rk, _, _, e⟩ := rc1 x hx
        rw [e]; exact (chkR_s chk_R k rk).1
      have t2 : ∀ x ∈ L2, 2 ≤ tau x ∧ tau x ≤ 6 := fun x hx => by
        rcases List.mem_append.mp ((mA x).mp hx) with q | q
        · exact t1 x q
        · obtain ⟨k, rk, _, _, _, e⟩ := rcN x q
          rw [e]; exact (chkR_s chk_R k rk).1
      have g1 := len5 L1 t1
      have g2 := len5 L2 t2
      have V2 := key_v (L := L2) (by omega) k2
      have a2 := c2 2; have a3 := c2 3; have a4 := c2 4; have a5 := c2 5; have a6 := c2 6
      have R := row2 _ V1 _ V2 ⟨by show cnT 2 L1 ≤ cnT 2 L2; omega, by show cnT 3 L1 = cnT 3 L2; omega, by show cnT 4 L1 ≤ cnT 4 L2; omega, by show cnT 5 L1 ≤ cnT 5 L2; omega⟩ (by show 1 + cnT 2 L2 + cnT 3 L2 + cnT 4 L2 + cnT 5 L2 = 2 * (1 + cnT 2 L1 + cnT 3 L1 + cnT 4 L1 + cnT 5 L1); omega)
      refine fin _ R ?_
      rw [cvE, z6]
      show vc4 L1 ++ [0, cnT 2 LN, cnT 3 LN, cnT 4 LN, cnT 5 LN] = vc4 L1 ++ [0, cnT 2 L2 - cnT 2 L1, cnT 3 L2 - cnT 3 L1, cnT 4 L2 - cnT 4 L1, cnT 5 L2 - cnT 5 L1]
      rw [a2, a3, a4, a5, Nat.add_sub_cancel_left, Nat.add_sub_cancel_left, Nat.add_sub_cancel_left, Nat.add_sub_cancel_left]
