/-! the class of a group; keepers of a place -/
theorem sp_brings {h : MH} {O : Nat → Nat} {t g k : Nat} {S MK : List Nat} (ok : GOk S) (b : GrpB h O t g S MK) (hk : k < S.length) : SpI k_Group_bringsMatrix [.ref g, .int (nI k)] h (fun r y => y = h ∧ ((r = 1 ∧ (k = 0 ∨ S.getD k 0 / 13824 ≠ S.getD (k - 1) 0 / 13824)) ∨ (r = 0 ∧ ¬ (k = 0 ∨ S.getD k 0 / 13824 ≠ S.getD (k - 1) 0 / 13824)))) := by
  have w := ok.2.1
  have cb := cOK_mem ok.c hk
  refine v_Group_bringsMatrix _ _ _ _ ?_
  cases k with
  | zero => exact ⟨fun _ => ⟨_, rfl, rfl, Or.inl ⟨rfl, Or.inl rfl⟩⟩, fun q => absurd rfl q⟩
  | succ k =>
    have cb2 := cOK_mem ok.c (show k < S.length by omega)
    refine ⟨fun q => ?_, fun _ => ⟨b.2.1.1, ?_⟩⟩
    · have e := congrArg Int32.toInt q
      rw [nI_toI (by omega)] at e
      have : (0 : Int32).toInt = 0 := rfl
      omega
    · rw [b.2.1.2.1, b.2.2.1.2.1, show nI (k + 1) - (1 : Int32) = nI k by show nI (k + 1) - nI 1 = _; rw [pk_sub (by omega)]; rfl, ix_nI (by omega), ix_nI (by omega), b.2.2.2.1.2.2 _ hk, b.2.2.2.1.2.2 k (by omega), show (13824 : Int32) = nI 13824 from rfl, div_nI (by omega) (by decide) (by decide), div_nI (by omega) (by decide) (by decide), nI_inj (by omega) (by omega)]
      refine ⟨b.2.2.1.1, b.2.2.2.1.1, by rw [b.2.2.2.1.2.1]; exact InB_nI hk (by omega), by rw [b.2.2.2.1.2.1]; exact InB_nI (by omega) (by omega), fun q => ⟨_, rfl, rfl, Or.inr ⟨rfl, fun w => ?_⟩⟩, fun q => ⟨_, rfl, rfl, Or.inl ⟨rfl, Or.inr q⟩⟩⟩
      rcases w with w | w
      · omega
      · exact w q
/-- an operation's sort and its key, in the class -/
theorem key_done {h : MH} {f : (Nat → Nat → Int32)} {l : (Nat → Nat → Int64)} {c : Nat} {Rt : Int32 → MH → Prop} (m : MatAt f 37 (eM c)) (nx : SpI k_Ho_keyOfSort [.int (zI (sortZ (eM c)))] (sil h f l) Rt) : SpI k_Motion_sort [.ref 36] (sil h f l) (fun r g => SpI k_Ho_keyOfSort [.int r] g Rt) := by
  refine SpI.mono (sp_Motion_sort (h := sil h f l) (x := 36) (a := 37) rfl rfl rfl rfl m (eM_small _)) ?_
  rintro r g0 ⟨e0, rfl⟩
  subst g0
  exact nx
theorem sp_Ho_classOf {h : MH} {f : (Nat → Nat → Int32)} {l : (Nat → Nat → Int64)} {O : Nat → Nat} {t g i : Nat} {S MK : List Nat} (H : SS h) (ok : GOk S) (b : GrpB (sil h f l) O t g S MK) (hk : KeysAt f) (ct : CtOK (brK S S.length) i) :
    SpI k_Ho_classOf [.ref 5, .ref g] (sil h f l) (fun r k => r = nI (i + 1) ∧ ∃ f', k = sil h f' l ∧ Fr [37, 38] f f') := by
  have w := ok.2.1
  have main : ∀ d k (f1 : (Nat → Nat → Int32)), S.length - k = d → k ≤ S.length → Fr [37, 38] f f1 → WM k_Ho_classOf p_Ho_classOf_1 [.ref 5, .ref g, .int (nI (vK (cv (brK S k)))), .int (nI k)] [] (sil h f1 l) 0 0 (fun v k => ∃ r, v = .int r ∧ r = nI (i + 1) ∧ ∃ f', k = sil h f' l ∧ Fr [37, 38] f f') := by
    intro d
    induction d with
    | zero =>
      intro k f1 hd hk2 fr
      have e : k = S.length := by omega
      subst e
      have b' := b.same (Kp.si2 H fr Fr.refl) (by decide)
      refine v_Ho_classOf_1 _ _ _ _ _ _ ⟨b'.2.1.1, ?_⟩
      rw [b'.2.1.2.1, b'.2.2.1.2.2, nI_toI (by omega), ct.2]
      refine ⟨b'.2.2.1.1, fun q => absurd q (by omega), fun _ => SpI.mono (sp_Ho_classOfKey (i := i) (fun j hj => by rw [fr 2 (by decide)]; exact hk j hj) ct.1) ?_⟩
      rintro r g0 ⟨e0, er⟩
      subst g0
      exact ⟨_, rfl, er, f1, rfl, fr⟩
    | succ d ih =>
      intro k f1 hd hk2 fr
      have kl : k < S.length := by omega
      have op := ok.2.2.1 _ (getD_mem kl)
      have b' := b.same (Kp.si2 H fr Fr.refl) (by decide)
      refine v_Ho_classOf_1 _ _ _ _ _ _ ⟨b'.2.1.1, ?_⟩
      rw [b'.2.1.2.1, b'.2.2.1.2.2, nI_toI (by omega), nI_toI (by omega), nI_1]
      refine ⟨b'.2.2.1.1, fun _ => SpI.mono (sp_brings ok b' kl) ?_, fun q => absurd (by omega) q⟩
      rintro r g0 ⟨e0, res⟩
      subst g0
      rcases res with ⟨rfl, y⟩ | ⟨rfl, n⟩
      · refine ⟨fun q => absurd q (by decide), fun _ => ⟨Kd5, b'.2.1.1, ?_⟩⟩
        rw [b'.2.1.2.1, b'.2.2.1.2.1, ix_nI (by omega), b'.2.2.2.1.2.2 k kl, R5_9]
        refine ⟨b'.2.2.1.1, b'.2.2.2.1.1, by rw [b'.2.2.2.1.2.1]; exact InB_nI kl (by omega), K36, SpV.mono (open_done op.1) ?_⟩
        rintro _ ⟨f2, rfl, fr2, m, s⟩
        rw [R5_9]
        refine ⟨Kd5, K36, key_done m (SpI.mono (sp_Ho_keyOfSort _) ?_)⟩
        rintro r g0 ⟨e0, rfl⟩
        subst g0
        show WM _ _ [.ref 5, .ref g, .int (nI (vK (cv (brK S k))) + keyC (S.getD k 0)), _] _ _ _ _ _
        rw [vK_add _ op, ← brK_y y]
        exact ih (k + 1) f2 (by omega) (by omega) (fr.trans fr2)
      · refine ⟨fun _ => ?_, fun q => absurd rfl q⟩
        rw [← brK_n n]
        exact ih (k + 1) f1 (by omega) (by omega) fr
  exact v_Ho_classOf _ _ _ _ (main _ 0 f rfl (Nat.zero_le _) Fr.refl)
/-- the keepers of a place -/
def kpK (S : List Nat) (p : Nat) : Nat → List Nat
  | 0 => []
  | k + 1 => if mvC (S.getD k 0) p = p then kpK S p k ++ [S.getD k 0] else kpK S p k
theorem kpK_y {S : List Nat} {p k : Nat} (h : mvC (S.getD k 0) p = p) : kpK S p (k + 1) = kpK S p k ++ [S.getD k 0] := if_pos h
theorem kpK_n {S : List Nat} {p k : Nat} (h : ¬ mvC (S.getD k 0) p = p) : kpK S p (k + 1) = kpK S p k := if_neg h
def keepL (S : List Nat) (p : Nat) : List Nat := kpK S p S.length
theorem kpK_mem {S : List Nat} {p : Nat} : ∀ (k : Nat) (x : Nat), x ∈ kpK S p k ↔ ∃ j, j < k ∧ x = S.getD j 0 ∧ mvC x p = p
  | 0, x => ⟨fun q => absurd q List.not_mem_nil, fun ⟨j, hj, _⟩ => absurd hj (Nat.not_lt_zero j)⟩
  | k + 1, x => by
    have ih := kpK_mem (S := S) (p := p) k x
    by_cases q : mvC (S.getD k 0) p = p
    · rw [kpK_y q, List.mem_append, List.mem_singleton, ih]
      constructor
      · rintro (⟨j, hj, e⟩ | e)
        · exact ⟨j, by omega, e⟩
        · exact ⟨k, by omega, e, by rw [e]; exact q⟩
      · rintro ⟨j, hj, e⟩
        by_cases w : j = k
        · exact Or.inr (by rw [e.1, w])
        · exact Or.inl ⟨j, by omega, e⟩
    · rw [kpK_n q, ih]
      constructor
      · rintro ⟨j, hj, e⟩; exact ⟨j, by omega, e⟩
      · rintro ⟨j, hj, e⟩
        by_cases w : j = k
        · rw [e.1, w] at e; exact absurd e.2 q
        · exact ⟨j, by omega, e⟩
theorem kpK_srt {S : List Nat} {p : Nat} (s : S.Pairwise (· < ·)) : ∀ k, k ≤ S.length → (kpK S p k).Pairwise (· < ·)
  | 0, _ => List.Pairwise.nil
  | k + 1, hk => by
    have ih := kpK_srt (p := p) s k (by omega)
    by_cases q : mvC (S.getD k 0) p = p
    · rw [kpK_y q, List.pairwise_append]
      refine ⟨ih, List.pairwise_singleton _ _, fun a ha b hb => ?_⟩
      rw [List.mem_singleton] at hb
      obtain ⟨j, hj, e, _⟩ := (kpK_mem k a).mp ha
      rw [hb, e]
      exact srt_lt s hj (by omega)
    · rw [kpK_n q]; exact ih
theorem kpK_len {S : List Nat} {p : Nat} : ∀ k, (kpK S p k).length ≤ k
  | 0 => Nat.le_refl _
  | k + 1 => by
    have := kpK_len (S := S) (p := p) k
    by_cases q : mvC (S.getD k 0) p = p
    · rw [kpK_y q, List.length_append]; show (kpK S p k).length + 1 ≤ k + 1; omega
    · rw [kpK_n q]; omega
theorem eM_nine {c c' : Nat} (h : c / 13824 = c' / 13824) : eM c = eM c' := by funext j; unfold eM dM; rw [h]
theorem keep_one {c c' p : Nat} (hc : cOK c) (hc' : cOK c') (h1 : mvC c p = p) (h2 : mvC c' p = p) (h : c / 13824 = c' / 13824) : c = c' := by
  have em := eM_nine h
  have e : mvC c p = mvC c' p := h1.trans h2.symm
  have a0 := mvN_lt c 0 p; have a1 := mvN_lt c 1 p; have a2 := mvN_lt c 2 p
  have b0 := mvN_lt c' 0 p; have b1 := mvN_lt c' 1 p; have b2 := mvN_lt c' 2 p
  unfold mvC at e
  have e0 : mvN c 0 p = mvN c' 0 p := by omega
  have e1 : mvN c 1 p = mvN c' 1 p := by omega
  have e2 : mvN c 2 p = mvN c' 2 p := by omega
  refine code_ext hc hc' (fun j _ => by rw [em]) (fun j hj => ?_)
  have z := eZ_ok c j hj
  have z' := eZ_ok c' j hj
  have key : mvN c j p = mvN c' j p := by
    have : j = 0 ∨ j = 1 ∨ j = 2 := by omega
    rcases this with rfl | rfl | rfl <;> assumption
  unfold mvN mvV at key
  rw [em] at key
  omega
theorem brK_all {L : List Nat} (h : ∀ k, 0 < k → k < L.length → L.getD k 0 / 13824 ≠ L.getD (k - 1) 0 / 13824) : brK L L.length = L := by
  have main : ∀ k, k ≤ L.length → brK L k = lF (fun j => L.getD j 0) k := by
    intro k
    induction k with
    | zero => intro _; rfl
    | succ k ih =>
      intro hk
      rw [brK_y (by by_cases q : k = 0; exact Or.inl q; exact Or.inr (h k (by omega) (by omega))), ih (by omega)]
      unfold lF
      rw [List.range_succ, List.map_append]
      rfl
  rw [main _ (Nat.le_refl _)]
  refine list_ext (lF_len _ _) (fun i hi => ?_)
  rw [lF_len] at hi
  exact lF_getD hi
theorem keepL_br {S : List Nat} {p : Nat} (ok : GOk S) : brK (keepL S p) (keepL S p).length = keepL S p := by
  have srt := kpK_srt (p := p) ok.1 S.length (Nat.le_refl _)
  refine brK_all (fun k h0 hk e => ?_)
  have m1 := (kpK_mem S.length _).mp (getD_mem hk)
  have m2 := (kpK_mem S.length _).mp (getD_mem (show k - 1 < (keepL S p).length by omega))
  have lt := srt_lt srt (show k - 1 < k by omega) hk
  obtain ⟨j1, hj1, e1, f1⟩ := m1
  obtain ⟨j2, hj2, e2, f2⟩ := m2
  have := keep_one (p := p) (by have := ok.c _ (getD_mem hj1); rw [← e1] at this; exact this) (by have := ok.c _ (getD_mem hj2); rw [← e2] at this; exact this) f1 f2 e
  have lt : (keepL S p).getD (k - 1) 0 < (keepL S p).getD k 0 := lt
  have : (keepL S p).getD k 0 = (keepL S p).getD (k - 1) 0 := this
  omega
theorem keepL_op {S : List Nat} {p : Nat} (ok : GOk S) : ∀ x ∈ keepL S p, isOp x := fun x hx => by
  obtain ⟨j, hj, e, _⟩ := (kpK_mem S.length x).mp hx
  rw [e]; exact ok.2.2.1 _ (getD_mem hj)
theorem sp_Ho_keepersOf {h : MH} {f : (Nat → Nat → Int32)} {l : (Nat → Nat → Int64)} {O : Nat → Nat} {t g p i : Nat} {S MK : List Nat} (H : SS h) (ok : GOk S) (b : GrpB (sil h f l) O t g S MK) (hk : KeysAt f) (hp : p < 13824) (ct : CtOK (keepL S p) i) (x : Int32) :
    SpI k_Ho_keepersOf [.ref 5, .ref g, .int (nI p), .int x] (sil h f l) (fun r k => (x = 0 → r = nI (keepL S p).length) ∧ (¬ x = 0 → r = nI (i + 1)) ∧ ∃ f', k = sil h f' l ∧ Fr [37, 38] f f') := by
  have w := ok.2.1
  have main : ∀ d k (f1 : (Nat → Nat → Int32)), S.length - k = d → k ≤ S.length → Fr [37, 38] f f1 → WM k_Ho_keepersOf p_Ho_keepersOf_1 [.ref 5, .ref g, .int (nI p), .int x, .int (nI (kpK S p k).length), .int (nI (vK (cv (kpK S p k)))), .int (nI k)] [] (sil h f1 l) 0 0 (fun v k => ∃ r, v = .int r ∧ (x = 0 → r = nI (keepL S p).length) ∧ (¬ x = 0 → r = nI (i + 1)) ∧ ∃ f', k = sil h f' l ∧ Fr [37, 38] f f') := by
    intro d
    induction d with
    | zero =>
      intro k f1 hd hk2 fr
      have e : k = S.length := by omega
      subst e
      have b' := b.same (Kp.si2 H fr Fr.refl) (by decide)
      refine v_Ho_keepersOf_1 _ _ _ _ _ _ _ _ _ ⟨b'.2.1.1, ?_⟩
      rw [b'.2.1.2.1, b'.2.2.1.2.2, nI_toI (by omega), show cv (kpK S p S.length) = clT.getD i [] from ct.2]
      refine ⟨b'.2.2.1.1, fun q => absurd q (by omega), fun _ => ⟨fun e => ⟨_, rfl, fun _ => rfl, fun n => absurd e n, f1, rfl, fr⟩, fun n => SpI.mono (sp_Ho_classOfKey (i := i) (fun j hj => by rw [fr 2 (by decide)]; exact hk j hj) ct.1) ?_⟩⟩
      rintro r g0 ⟨e0, er⟩
      subst g0
      exact ⟨_, rfl, fun e => absurd e n, fun _ => er, f1, rfl, fr⟩
    | succ d ih =>
      intro k f1 hd hk2 fr
      have kl : k < S.length := by omega
      have op := ok.2.2.1 _ (getD_mem kl)
      have mb := mvC_lt (S.getD k 0) p
      have b' := b.same (Kp.si2 H fr Fr.refl) (by decide)
      refine v_Ho_keepersOf_1 _ _ _ _ _ _ _ _ _ ⟨b'.2.1.1, ?_⟩
      rw [b'.2.1.2.1, b'.2.2.1.2.2, b'.2.2.1.2.1, nI_toI (by omega), nI_toI (by omega), ix_nI (by omega), b'.2.2.2.1.2.2 k kl, R5_9]
      refine ⟨b'.2.2.1.1, fun _ => ⟨Kd5, b'.2.2.2.1.1, by rw [b'.2.2.2.1.2.1]; exact InB_nI kl (by omega), K36, SpV.mono (open_done op.1) ?_⟩, fun q => absurd (by omega) q⟩
      rintro _ ⟨f2, rfl, fr2, m, s⟩
      rw [R5_9]
      refine ⟨Kd5, K36, SpI.mono (sp_Motion_move m s hp) ?_⟩
      rintro r g0 ⟨e0, rfl⟩
      subst g0
      rw [nI_inj (by omega) (by omega)]
      refine ⟨fun y => ?_, fun n => ?_⟩
      · rw [R5_9]
        refine ⟨Kd5, K36, key_done m (SpI.mono (sp_Ho_keyOfSort _) ?_)⟩
        rintro r g0 ⟨e0, rfl⟩
        subst g0
        show WM _ _ [.ref 5, .ref g, .int (nI p), .int x, .int (nI (kpK S p k).length + 1), .int (nI (vK (cv (kpK S p k))) + keyC (S.getD k 0)), _] _ _ _ _ _
        rw [vK_add _ op, nI_1, nI_1, show (kpK S p k).length + 1 = (kpK S p k ++ [S.getD k 0]).length by rw [List.length_append]; rfl, ← kpK_y y]
        exact ih (k + 1) f2 (by omega) (by omega) (fr.trans fr2)
      · rw [nI_1, ← kpK_n n]
        exact ih (k + 1) f2 (by omega) (by omega) (fr.trans fr2)
  exact v_Ho_keepersOf _ _ _ _ _ _ (main _ 0 f rfl (Nat.zero_le _) Fr.refl)
