/-! atom in the class -/
theorem pD_mem {P : List Pl} {i : Nat} (h : i < P.length) : P.getD i zp ∈ P := by
  rw [List.getD_eq_getElem?_getD, List.getElem?_eq_getElem h]; exact List.getElem_mem h
theorem nI_ne1 {a : Nat} (h : a < 2147483648) : nI a ≠ -1 := fun q => by
  have := congrArg Int32.toInt q
  rw [nI_toI h] at this
  have m1 : (-1 : Int32).toInt = -1 := rfl
  rw [m1] at this
  omega
def StOk (t : Nat) (P : List Pl) (Z : List Int) : Prop := t < 30 ∧ P.length + Z.length ≤ 300 ∧ ∀ k, k < Z.length → ∀ i, i < P.length → ((P.getD i zp).1 : Int) ≠ Z.getD k 0
def adT (t : Nat) (w : Int) (Z : List Int) : List Pl := Z.map fun z => (z.toNat, w, t)
theorem ad_len {t : Nat} {w : Int} {Z : List Int} : (adT t w Z).length = Z.length := List.length_map _
theorem ad_get {t : Nat} {w : Int} {Z : List Int} {k : Nat} (h : k < Z.length) : (adT t w Z).getD k zp = ((Z.getD k 0).toNat, w, t) := by
  unfold adT
  rw [List.getD_eq_getElem?_getD, List.getElem?_map, List.getElem?_eq_getElem h, zgetD_lt h]; rfl
theorem ad_next {t : Nat} {w : Int} {Z : List Int} {k : Nat} (h : k < Z.length) : adT t w (Z.take (k + 1)) = adT t w (Z.take k) ++ [((Z.getD k 0).toNat, w, t)] := by
  unfold adT
  rw [List.take_succ_eq_append_getElem h, List.map_append, zgetD_lt h]; rfl
theorem okP.add {t : Nat} {w : Int} {P : List Pl} {Z : List Int} (ok : okP t P) (st : StOk t P Z) (hw : -99 ≤ w ∧ w ≤ 99) (zs : Z.Pairwise (· < ·)) (hz : ∀ z ∈ Z, 0 ≤ z ∧ z < 13824) : okP (t + 1) (P ++ adT t w Z) := by
  obtain ⟨o1, o2, o3⟩ := ok
  obtain ⟨s1, s2, s3⟩ := st
  refine ⟨by rw [List.length_append, ad_len]; exact s2, fun p hp => ?_, fun i j hi hj e => ?_⟩
  · rcases List.mem_append.mp hp with q | q
    · obtain ⟨a, b, c, d⟩ := o2 p q
      exact ⟨a, b, c, by omega⟩
    · obtain ⟨z, z1, rfl⟩ := List.mem_map.mp q
      have := hz z z1
      exact ⟨by show z.toNat < 13824; omega, hw.1, hw.2, by show t < t + 1; omega⟩
  · rw [List.length_append, ad_len] at hi hj
    have rng : ∀ k, k < Z.length → 0 ≤ Z.getD k 0 := fun k hk => (hz _ (zgetD_mem hk)).1
    by_cases a : i < P.length <;> by_cases b : j < P.length
    · rw [gLeft a, gLeft b] at e; exact o3 i j a b e
    · rw [gLeft a, gRight (by omega), ad_get (by omega)] at e
      have := rng (j - P.length) (by omega)
      refine absurd ?_ (s3 (j - P.length) (by omega) i a)
      rw [e]
      show ((Z.getD (j - P.length) 0).toNat : Int) = _
      omega
    · rw [gLeft b, gRight (by omega), ad_get (by omega)] at e
      have := rng (i - P.length) (by omega)
      refine absurd ?_ (s3 (i - P.length) (by omega) j b)
      rw [← e]
      show ((Z.getD (i - P.length) 0).toNat : Int) = _
      omega
    · rw [gRight (by omega), gRight (by omega), ad_get (by omega), ad_get (by omega)] at e
      have e : (Z.getD (i - P.length) 0).toNat = (Z.getD (j - P.length) 0).toNat := e
      have r1 := rng (i - P.length) (by omega)
      have r2 := rng (j - P.length) (by omega)
      rcases Nat.lt_trichotomy (i - P.length) (j - P.length) with q | q | q
      · have := zsrt_lt zs q (by omega); omega
      · omega
      · have := zsrt_lt zs q (by omega); omega
theorem PlA.s {f : (Nat → Nat → Int32)} {x : Nat} {P : List Pl} (h : PlA f x P) : PlS f x P := fun i hi => ⟨(h i hi).1, (h i hi).2.1, (h i hi).2.2.1, (h i hi).2.2.2.1⟩
def SetP (h : MH) (f : (Nat → Nat → Int32)) (l : (Nat → Nat → Int64)) (x t : Nat) (w : Int) (P : List Pl) (Z : List Int) (r : Int32) (g : MH) : Prop := (r = 1 ∧ StOk t P Z ∧ ∃ f', g = sil h f' l ∧ Fr [x, x + 1, x + 2, x + 3, x + 4, x + 5] f f' ∧ MdA (sil h f' l) x (t + 1) (P ++ adT t w Z)) ∨ (r = 0 ∧ ¬ StOk t P Z ∧ g = sil h f l)
theorem sp_Model_settle {h : MH} {f : (Nat → Nat → Int32)} {l : (Nat → Nat → Int64)} {x a b t : Nat} {w : Int} {P : List Pl} {Z : List Int} (H : SS h) (hx : 99 ≤ x) (mk : MdK h x a b) (ma : MdA (sil h f l) x t P) (ok : okP t P) (ht : t ≤ 30) (rz : RowZ (sil h f l) 39 40 Z) (hz : ∀ z ∈ Z, 0 ≤ z ∧ z < 13824) (lz : Z.length ≤ 192) :
    SpI k_Model_settle [.ref x, .int (zI w), .ref 39] (sil h f l) (SetP h f l x t w P Z) := by
  have mks : ∀ f', MdK (sil h f' l) x a b := fun f' => mk.s H
  obtain ⟨c4, c6, pl, T, rt, tk⟩ := ma
  rw [mi_sil] at c4 c6 pl
  have pL := ok.1
  have t30 : (30 : Int32).toInt = 30 := rfl
  have t300 : (300 : Int32).toInt = 300 := rfl
  have hP : ∀ i, i < P.length → (P.getD i zp).1 < 13824 := fun i hi => (ok.2.1 _ (pD_mem hi)).1
  have zv : ∀ f', RowZ (sil h f' l) 39 40 Z → ∀ k, k < Z.length → f' 40 k = nI (Z.getD k 0).toNat := fun f' q k hk => by
    have a := q.2.2.1 k hk
    have b := hz _ (zgetD_mem hk)
    rw [mi_sil] at a
    rw [of_toI a, nI_zI]
    congr 1
    omega
  have zp' : ∀ k, k < Z.length → (Z.getD k 0).toNat < 13824 := fun k hk => by have := hz _ (zgetD_mem hk); omega
  refine v_Model_settle _ _ _ _ _ ⟨(mks f).1.1, ?_⟩
  have z1 := rz.2.1
  rw [mi_sil] at z1
  rw [mi_sil, c6, c4, z1, nI_toI (by omega), t30, nI_add, nI_toI (by omega), t300]
  refine ⟨fun c1 => ⟨rz.1.1, fun c2 => ⟨_, rfl, Or.inr ⟨rfl, fun q => by have := q.2.1; omega, rfl⟩⟩, fun c2 => ?_⟩, fun c1 => ⟨_, rfl, Or.inr ⟨rfl, fun q => c1 (by have := q.1; omega), rfl⟩⟩⟩
  -- the second walk
  have put : StOk t P Z → ∀ d k (f1 : (Nat → Nat → Int32)), Z.length - k = d → k ≤ Z.length → Fr [x, x + 1, x + 2, x + 4, x + 5] f f1 → f1 x 4 = nI (P ++ adT t w (Z.take k)).length → (∀ j, j ≠ 4 → f1 x j = f x j) → PlS f1 x (P ++ adT t w (Z.take k)) → (∃ T, RowZ (sil h f1 l) (x + 4) (x + 5) T ∧ TkL (P ++ adT t w (Z.take k)) T) →
      WM k_Model_settle p_Model_settle_2 [.ref x, .int (zI w), .ref 39, .int (nI k)] [] (sil h f1 l) 0 0 (fun v g => ∃ r, v = .int r ∧ SetP h f l x t w P Z r g) := by
    intro st d
    induction d with
    | zero =>
      intro k f1 hd hk fr q4 qj ps tq
      have ek : Z.take k = Z := List.take_of_length_le (by omega)
      rw [ek] at q4 ps tq
      obtain ⟨T1, rt1, tk1⟩ := tq
      have n39 : ∀ y, y < 99 → y ∉ [x, x + 1, x + 2, x + 4, x + 5] := fun y hy q => by
        simp only [List.mem_cons, List.not_mem_nil, or_false] at q
        omega
      have rz1 : RowZ (sil h f1 l) 39 40 Z := rz.s H (fr _ (n39 39 (by decide))) (fr _ (n39 40 (by decide)))
      have z1' := rz1.2.1
      rw [mi_sil] at z1'
      have q6 : f1 x 6 = nI t := (qj 6 (by decide)).trans c6
      have e5 : mr (sil h f1 l) x 5 = x + 3 := (mks f1).1.2.2.2.2.2.1
      refine v_Model_settle_2 _ _ _ _ _ _ ⟨rz1.1.1, ?_⟩
      rw [mi_sil, z1', nI_toI (by omega), nI_toI (by omega), e5, q6, ix_nI (a := t) (by omega), (mks f1).2.2.2.1.2]
      refine ⟨fun q => absurd q (by omega), fun _ => ⟨(mks f1).1.1, (mks f1).2.2.2.1.1, InB_nI (by omega) (by omega), ?_⟩⟩
      rintro _ rfl
      rw [wi_sil, mi_sil, up2_ne (by omega), q6, nI_1]
      rintro _ rfl
      rw [wi_sil]
      have s3 : x + 3 ∉ [x, x + 1, x + 2, x + 4, x + 5] := fun q => by
        simp only [List.mem_cons, List.not_mem_nil, or_false] at q
        omega
      refine ⟨_, rfl, Or.inl ⟨rfl, st, _, rfl, ?_, ?_, ?_, fun i hi => ?_, T1, rt1.s H ?_ ?_, tk1⟩⟩
      · refine Fr.up (Fr.up (fr.mono ?_) (by simp only [List.mem_cons, true_or, or_true])) List.mem_cons_self
        intro a ha
        simp only [List.mem_cons, List.not_mem_nil, or_false] at *
        omega
      · rw [mi_sil, up2_ni (by decide), up2_ne (by omega)]; exact q4
      · rw [mi_sil, up2_s]
      · rw [mi_sil, up2_row (by omega), up2_row (by omega), up2_row (by omega), up2_row (by omega), up2_row (by omega)]
        obtain ⟨a1, a2, a3, a4⟩ := ps i hi
        refine ⟨a1, a2, a3, a4, ?_⟩
        rw [List.length_append, ad_len] at hi
        by_cases w' : i < P.length
        · rw [gLeft w']
          have o := (ok.2.1 _ (pD_mem w')).2.2.2
          rw [up2_ni (by omega), fr _ s3]
          exact (pl i w').2.2.2.2
        · rw [gRight (by omega), ad_get (by omega)]
          exact up2_s
      · rw [up2_row (by omega), up2_row (by omega)]
      · rw [up2_row (by omega), up2_row (by omega)]
    | succ d ih =>
      intro k f1 hd hk fr q4 qj ps tq
      have kl : k < Z.length := by omega
      obtain ⟨T1, rt1, tk1⟩ := tq
      have n39 : ∀ y, y < 99 → y ∉ [x, x + 1, x + 2, x + 4, x + 5] := fun y hy q => by
        simp only [List.mem_cons, List.not_mem_nil, or_false] at q
        omega
      have rz1 : RowZ (sil h f1 l) 39 40 Z := rz.s H (fr _ (n39 39 (by decide))) (fr _ (n39 40 (by decide)))
      have z1' := rz1.2.1
      rw [mi_sil] at z1'
      have q6 : f1 x 6 = nI t := (qj 6 (by decide)).trans c6
      have e40 : mr (sil h f1 l) 39 0 = 40 := rz1.1.2.1
      have ltk : (P ++ adT t w (Z.take k)).length = P.length + k := by rw [List.length_append, ad_len, List.length_take]; omega
      refine v_Model_settle_2 _ _ _ _ _ _ ⟨rz1.1.1, ?_⟩
      rw [mi_sil, z1', nI_toI (by omega), nI_toI (by omega), e40, ix_nI (by omega), zv f1 rz1 k kl, nI_1]
      refine ⟨fun _ => ⟨rz1.1.2.2.1, InB_nI (by have := rz1.1.2.2.2.1; omega) (by omega), (mks f1).1.1, SpV.mono (sp_Model_put (w := w) H mk q4 q6 (by omega) (zp' k kl) ps rt1 tk1) ?_⟩, fun q => absurd (by omega) q⟩
      rintro _ ⟨f2, rfl, fr2, ⟨u1, u2⟩, u3, u4⟩
      rw [List.append_assoc, ← ad_next kl] at u3 u4
      refine ih (k + 1) f2 (by omega) (by omega) (fr.trans fr2) ?_ (fun j hj => (u2 j hj).trans (qj j hj)) u3 u4
      rw [u1, List.length_append, List.length_append, ad_len, ad_len, List.length_take, List.length_take]
      congr 1
      omega
  -- the first walk
  have chk : ∀ d k, Z.length - k = d → k ≤ Z.length → (∀ q, q < k → ∀ i, i < P.length → ((P.getD i zp).1 : Int) ≠ Z.getD q 0) →
      WM k_Model_settle p_Model_settle_1 [.ref x, .int (zI w), .ref 39, .int (nI k)] [] (sil h f l) 0 0 (fun v g => ∃ r, v = .int r ∧ SetP h f l x t w P Z r g) := by
    intro d
    induction d with
    | zero =>
      intro k hd hk al
      refine v_Model_settle_1 _ _ _ _ _ _ ⟨rz.1.1, ?_⟩
      rw [mi_sil, z1, nI_toI (by omega), nI_toI (by omega)]
      refine ⟨fun q => absurd q (by omega), fun _ => put ⟨by omega, by omega, fun q hq => al q (by omega)⟩ _ 0 f rfl (Nat.zero_le _) Fr.refl ?_ (fun _ _ => rfl) ?_ ⟨T, rt, ?_⟩⟩
      · rw [c4]
        show nI P.length = nI (P ++ []).length
        rw [List.append_nil]
      · show PlS f x (P ++ [])
        rw [List.append_nil]; exact pl.s
      · show TkL (P ++ []) T
        rw [List.append_nil]; exact tk
    | succ d ih =>
      intro k hd hk al
      have kl : k < Z.length := by omega
      have e40 : mr (sil h f l) 39 0 = 40 := rz.1.2.1
      refine v_Model_settle_1 _ _ _ _ _ _ ⟨rz.1.1, ?_⟩
      rw [mi_sil, z1, nI_toI (by omega), nI_toI (by omega), e40, ix_nI (by omega), zv f rz k kl, nI_1]
      refine ⟨fun _ => ⟨rz.1.2.2.1, InB_nI (by have := rz.1.2.2.2.1; omega) (by omega), (mks f).1.1, SpI.mono (sp_Model_atomAt (mks f) rt tk pL hP (zp' k kl)) ?_⟩, fun q => absurd (by omega) q⟩
      have zr := hz _ (zgetD_mem kl)
      rintro r _ ⟨rfl, ⟨i, hi, e, rfl⟩ | ⟨no, rfl⟩⟩
      · exact ⟨fun q => absurd q (nI_ne1 (by omega)), fun _ => ⟨_, rfl, Or.inr ⟨rfl, fun q => q.2.2 k kl i hi (by rw [e]; omega), rfl⟩⟩⟩
      · refine ⟨fun _ => ih (k + 1) (by omega) (by omega) (fun q hq i hi => ?_), fun q => absurd rfl q⟩
        by_cases e : q = k
        · subst e
          intro e
          exact no i hi (by omega)
        · exact al q (by omega) i hi
  exact chk _ 0 rfl (Nat.zero_le _) (fun q hq => absurd hq (Nat.not_lt_zero q))
