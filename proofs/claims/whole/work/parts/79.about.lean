/-! how many matrices and centrings; the letter -/
def cenK (S : List Nat) : Nat → Nat
  | 0 => 0
  | k + 1 => if S.getD k 0 / 13824 = 16484 then cenK S k + 1 else cenK S k
theorem cenK_y {S : List Nat} {k : Nat} (h : S.getD k 0 / 13824 = 16484) : cenK S (k + 1) = cenK S k + 1 := if_pos h
theorem cenK_n {S : List Nat} {k : Nat} (h : ¬ S.getD k 0 / 13824 = 16484) : cenK S (k + 1) = cenK S k := if_neg h
theorem cenK_le {S : List Nat} : ∀ k, cenK S k ≤ k
  | 0 => Nat.le_refl _
  | k + 1 => by
    have := cenK_le (S := S) k
    by_cases q : S.getD k 0 / 13824 = 16484
    · rw [cenK_y q]; omega
    · rw [cenK_n q]; omega
theorem cenK_seat {S : List Nat} {a b : Nat} (ab : a ≤ b) (hb : b ≤ S.length) (h1 : ∀ i, i < a → S.getD i 0 < 227874816) (h2 : ∀ i, a ≤ i → i < S.length → 227874816 ≤ S.getD i 0) (h3 : ∀ i, i < b → S.getD i 0 < 227888640) (h4 : ∀ i, b ≤ i → i < S.length → 227888640 ≤ S.getD i 0) : ∀ m, m ≤ S.length → cenK S m = if m ≤ a then 0 else if m ≤ b then m - a else b - a := by
  intro m
  induction m with
  | zero => intro _; rw [if_pos (Nat.zero_le _)]; rfl
  | succ m ih =>
    intro hm
    have ih := ih (by omega)
    by_cases c1 : m < a
    · have := h1 m c1
      rw [cenK_n (by omega), ih, if_pos (by omega), if_pos (by omega)]
    · have q2 := h2 m (by omega) (by omega)
      by_cases c2 : m < b
      · have := h3 m c2
        rw [cenK_y (by omega), ih, if_neg (show ¬ m + 1 ≤ a by omega), if_pos (show m + 1 ≤ b by omega)]
        by_cases e : m ≤ a
        · rw [if_pos e]; omega
        · rw [if_neg e, if_pos (by omega)]; omega
      · have := h4 m (by omega) (by omega)
        rw [cenK_n (by omega), ih, if_neg (show ¬ m + 1 ≤ a by omega), if_neg (show ¬ m + 1 ≤ b by omega)]
        by_cases e : m ≤ a
        · rw [if_pos e]; omega
        · rw [if_neg e]
          by_cases e2 : m ≤ b
          · rw [if_pos e2]; omega
          · rw [if_neg e2]
theorem sp_countCentrings {h : MH} {O : Nat → Nat} {t g : Nat} {S MK : List Nat} (ok : GOk S) (b : GrpB h O t g S MK) : SpI k_Group_countCentrings [.ref g] h (fun r y => y = h ∧ r = nI (cenK S S.length)) := by
  have w := ok.2.1
  have row := b.row ok.1 ok.2.1 ok.c
  have t1 : (227888640 : Int32).toInt = 227888640 := rfl
  have t2 : (227874816 : Int32).toInt = 227874816 := rfl
  refine v_Group_countCentrings _ _ _ ⟨b.2.1.1, ?_⟩
  rw [b.2.1.2.1]
  refine ⟨b.2.2.1.1, SpI.mono (sp_Row_seat _ row) ?_⟩
  rw [t1]
  rintro r1 g0 ⟨e0, k1, hk1, rfl, l1, u1⟩
  subst g0
  rw [b.2.1.2.1]
  refine ⟨b.2.1.1, b.2.2.1.1, SpI.mono (sp_Row_seat _ row) ?_⟩
  rw [t2]
  rintro r2 g0 ⟨e0, k0, hk0, rfl, l0, u0⟩
  subst g0
  have ab : k0 ≤ k1 := by
    rcases Nat.lt_or_ge k1 k0 with q | q
    · have a1 := l0 k1 q
      have a2 := u1 k1 (Nat.le_refl _) (by omega)
      omega
    · exact q
  have e := cenK_seat (S := S) ab hk1 (fun i hi => by have := l0 i hi; omega) (fun i h1 h2 => by have := u0 i h1 h2; omega) (fun i hi => by have := l1 i hi; omega) (fun i h1 h2 => by have := u1 i h1 h2; omega) S.length (Nat.le_refl _)
  refine ⟨_, rfl, rfl, ?_⟩
  rw [e, pk_sub (by omega)]
  congr 1
  by_cases c1 : S.length ≤ k0
  · rw [if_pos c1]; omega
  · rw [if_neg c1]
    by_cases c2 : S.length ≤ k1
    · rw [if_pos c2]; omega
    · rw [if_neg c2]
theorem sp_Ref_centrings {h : MH} {f : (Nat → Nat → Int32)} {l : (Nat → Nat → Int64)} {GS : List (List Nat)} {i : Nat} (hg : RGrp f GS) (hi : i < GS.length) : SpI k_Ref_centrings [.ref 54, .int (nI i)] (sil h f l) (fun r y => y = sil h f l ∧ r = nI (cenK (GS.getD i []) (GS.getD i []).length)) := by
  have g1 := hg.1
  have w := (hg.2.1 _ (gD_mem hi)).1
  have cs := (hg.2.1 _ (gD_mem hi)).2
  have gi := hg.2.2.2 i hi
  have main : ∀ d k, (GS.getD i []).length - k = d → k ≤ (GS.getD i []).length → WM k_Ref_centrings p_Ref_centrings_1 [.ref 54, .int (nI i), .int (nI (cenK (GS.getD i []) k)), .int (nI 16484), .int (nI k)] [] (sil h f l) 0 0 (fun v y => ∃ r, v = .int r ∧ y = sil h f l ∧ r = nI (cenK (GS.getD i []) (GS.getD i []).length)) := by
    intro d
    induction d with
    | zero =>
      intro k hd hk
      have e : k = (GS.getD i []).length := by omega
      subst e
      refine v_Ref_centrings_1 _ _ _ _ _ _ _ ⟨K54, ?_⟩
      rw [R54_16, ix_nI (by omega), mi_sil, gi.1, nI_toI (by omega)]
      exact ⟨K65, InB_nI (show i < 60 by omega) (by omega), fun q => absurd q (by omega), fun _ => ⟨_, rfl, rfl, rfl⟩⟩
    | succ d ih =>
      intro k hd hk
      have kl : k < (GS.getD i []).length := by omega
      have cb := cOK_mem cs kl
      refine v_Ref_centrings_1 _ _ _ _ _ _ _ ⟨K54, ?_⟩
      rw [R54_16, R54_15, show (192 : Int32) = nI 192 from rfl, nI_mul, nI_add, ix_nI (by omega), ix_nI (by omega), mi_sil, gi.1, gi.2 k kl, nI_toI (by omega), nI_toI (by omega), show (13824 : Int32) = nI 13824 from rfl, div_nI (by omega) (by decide) (by decide), nI_inj (by omega) (by decide)]
      refine ⟨K65, InB_nI (show i < 60 by omega) (by omega), fun _ => ⟨K64, InB_nI (show 192 * i + k < 11520 by omega) (by omega), fun q => ?_, fun q => ?_⟩, fun q => absurd (by omega) q⟩
      · rw [nI_1, nI_1, ← cenK_y q]; exact ih (k + 1) (by omega) (by omega)
      · rw [show nI (cenK (GS.getD i []) k) + (0 : Int32) = nI (cenK (GS.getD i []) k) by show nI _ + nI 0 = _; rw [nI_add, Nat.add_zero], nI_1, ← cenK_n q]; exact ih (k + 1) (by omega) (by omega)
  refine v_Ref_centrings _ _ _ _ (SpI.mono sp_Ref_identity ?_)
  rintro r g0 ⟨e0, rfl⟩
  subst g0
  rw [show (13824 : Int32) = nI 13824 from rfl, div_nI (by decide) (by decide) (by decide)]
  exact main _ 0 rfl (Nat.zero_le _)
theorem sp_countMatrices {h : MH} {O : Nat → Nat} {t g : Nat} {S MK : List Nat} (ok : GOk S) (b : GrpB h O t g S MK) : SpI k_Group_countMatrices [.ref g] h (fun r y => y = h ∧ r = nI (brK S S.length).length) := by
  have w := ok.2.1
  have main : ∀ d k, S.length - k = d → k ≤ S.length → WM k_Group_countMatrices p_Group_countMatrices_1 [.ref g, .int (nI (brK S k).length), .int (nI k)] [] h 0 0 (fun v y => ∃ r, v = .int r ∧ y = h ∧ r = nI (brK S S.length).length) := by
    intro d
    induction d with
    | zero =>
      intro k hd hk
      have e : k = S.length := by omega
      subst e
      refine v_Group_countMatrices_1 _ _ _ _ _ ⟨b.2.1.1, ?_⟩
      rw [b.2.1.2.1, b.2.2.1.2.2, nI_toI (by omega)]
      exact ⟨b.2.2.1.1, fun q => absurd q (by omega), fun _ => ⟨_, rfl, rfl, rfl⟩⟩
    | succ d ih =>
      intro k hd hk
      have kl : k < S.length := by omega
      refine v_Group_countMatrices_1 _ _ _ _ _ ⟨b.2.1.1, ?_⟩
      rw [b.2.1.2.1, b.2.2.1.2.2, nI_toI (by omega), nI_toI (by omega)]
      refine ⟨b.2.2.1.1, fun _ => SpI.mono (sp_brings ok b kl) ?_, fun q => absurd (by omega) q⟩
      rintro r g0 ⟨e0, res⟩
      subst g0
      rcases res with ⟨rfl, y⟩ | ⟨rfl, n⟩
      · refine ⟨fun q => absurd q (by decide), fun _ => ?_⟩
        rw [nI_1, nI_1, show (brK S k).length + 1 = (brK S k ++ [S.getD k 0]).length by rw [List.length_append]; rfl, ← brK_y y]
        exact ih (k + 1) (by omega) (by omega)
      · refine ⟨fun _ => ?_, fun q => absurd rfl q⟩
        rw [nI_1, ← brK_n n]
        exact ih (k + 1) (by omega) (by omega)
  exact v_Group_countMatrices _ _ _ (main _ 0 rfl (Nat.zero_le _))
theorem sp_Ref_matrices {h : MH} {f : (Nat → Nat → Int32)} {l : (Nat → Nat → Int64)} {GS : List (List Nat)} {i : Nat} (hg : RGrp f GS) (hi : i < GS.length) (ne : 0 < (GS.getD i []).length) : SpI k_Ref_matrices [.ref 54, .int (nI i)] (sil h f l) (fun r y => y = sil h f l ∧ r = nI (brK (GS.getD i []) (GS.getD i []).length).length) := by
  have g1 := hg.1
  have w := (hg.2.1 _ (gD_mem hi)).1
  have cs := (hg.2.1 _ (gD_mem hi)).2
  have gi := hg.2.2.2 i hi
  have main : ∀ d k, (GS.getD i []).length - (k + 1) = d → k + 1 ≤ (GS.getD i []).length → WM k_Ref_matrices p_Ref_matrices_1 [.ref 54, .int (nI i), .int (nI (brK (GS.getD i []) (k + 1)).length), .int (nI (k + 1))] [] (sil h f l) 0 0 (fun v y => ∃ r, v = .int r ∧ y = sil h f l ∧ r = nI (brK (GS.getD i []) (GS.getD i []).length).length) := by
    intro d
    induction d with
    | zero =>
      intro k hd hk
      have e : k + 1 = (GS.getD i []).length := by omega
      rw [e]
      refine v_Ref_matrices_1 _ _ _ _ _ _ ⟨K54, ?_⟩
      rw [R54_16, ix_nI (by omega), mi_sil, gi.1, nI_toI (by omega)]
      exact ⟨K65, InB_nI (show i < 60 by omega) (by omega), fun q => absurd q (by omega), fun _ => ⟨_, rfl, rfl, rfl⟩⟩
    | succ d ih =>
      intro k hd hk
      have kl : k + 1 < (GS.getD i []).length := by omega
      have cb := cOK_mem cs kl
      have cb2 := cOK_mem cs (show k < (GS.getD i []).length by omega)
      refine v_Ref_matrices_1 _ _ _ _ _ _ ⟨K54, ?_⟩
      rw [R54_16, R54_15, show (192 : Int32) = nI 192 from rfl, nI_mul, nI_add, show nI (192 * i + (k + 1)) - (1 : Int32) = nI (192 * i + k) by show nI _ - nI 1 = _; rw [pk_sub (by omega)]; rfl, ix_nI (by omega), ix_nI (by omega), ix_nI (by omega), mi_sil, gi.1, gi.2 _ kl, gi.2 k (by omega), nI_toI (by omega), nI_toI (by omega), show (13824 : Int32) = nI 13824 from rfl, div_nI (by omega) (by decide) (by decide), div_nI (by omega) (by decide) (by decide), nI_inj (by omega) (by omega)]
      refine ⟨K65, InB_nI (show i < 60 by omega) (by omega), fun _ => ⟨K64, InB_nI (show 192 * i + (k + 1) < 11520 by omega) (by omega), InB_nI (show 192 * i + k < 11520 by omega) (by omega), fun q => ?_, fun q => ?_⟩, fun q => absurd (by omega) q⟩
      · have := brK_n (S := GS.getD i []) (k := k + 1) (fun w => by
          rcases w with w | w
          · omega
          · exact w q)
        rw [show nI (brK (GS.getD i []) (k + 1)).length + (0 : Int32) = nI (brK (GS.getD i []) (k + 1)).length by show nI _ + nI 0 = _; rw [nI_add, Nat.add_zero], nI_1, ← this]
        exact ih (k + 1) (by omega) (by omega)
      · have := brK_y (S := GS.getD i []) (k := k + 1) (Or.inr q)
        rw [nI_1, nI_1, show (brK (GS.getD i []) (k + 1)).length + 1 = (brK (GS.getD i []) (k + 1 + 1)).length by rw [this, List.length_append]; rfl]
        exact ih (k + 1) (by omega) (by omega)
  exact v_Ref_matrices _ _ _ _ (main _ 0 rfl ne)
/-- the letter -/
def letN (S : List Nat) (n : Nat) : Nat := if n = 1 then 0 else if n = 2 then (if idc + 300 ∈ S then 1 else if idc + 6924 ∈ S then 2 else if idc + 7200 ∈ S then 3 else if idc + 7212 ∈ S then 4 else 8) else if n = 3 then (if idc + 5008 ∈ S then 6 else if idc + 5000 ∈ S then 7 else 8) else if n = 4 then (if idc + 300 ∈ S then (if idc + 6924 ∈ S then 5 else 8) else 8) else 8
theorem sp_hasCentring {h : MH} {O : Nat → Nat} {t g s : Nat} {S MK : List Nat} (ok : GOk S) (b : GrpB h O t g S MK) (hs : s < 13824) : SpI k_Group_hasCentring [.ref g, .int (nI s)] h (fun r y => y = h ∧ ((r = 1 ∧ idc + s ∈ S) ∨ (r = 0 ∧ idc + s ∉ S))) := by
  have hid : idc = 227874816 := rfl
  refine v_Group_hasCentring _ _ _ _ ⟨b.2.1.1, ?_⟩
  rw [b.2.1.2.1, show (227874816 : Int32) = nI idc from rfl, nI_add]
  refine ⟨b.2.2.1.1, SpI.mono (sp_Row_find _ (b.row ok.1 ok.2.1 ok.c)) ?_⟩
  rw [nI_toI (by omega)]
  rintro r g0 ⟨e0, fd⟩
  subst g0
  have q := Fnd.no (S := S) (a := idc + s) fd ok.2.1
  exact ⟨fun c => ⟨_, rfl, rfl, Or.inr ⟨rfl, q.1 c⟩⟩, fun c => ⟨_, rfl, rfl, Or.inl ⟨rfl, q.2 c⟩⟩⟩
theorem sp_hasShift {h : MH} {f : (Nat → Nat → Int32)} {l : (Nat → Nat → Int64)} {GS : List (List Nat)} {i s : Nat} (hg : RGrp f GS) (hi : i < GS.length) (ok : GOk (GS.getD i [])) (hs : s < 13824) : SpI k_Ref_hasShift [.ref 54, .int (nI i), .int (nI s)] (sil h f l) (fun r y => y = sil h f l ∧ ((r = 1 ∧ idc + s ∈ GS.getD i []) ∨ (r = 0 ∧ idc + s ∉ GS.getD i []))) := by
  have hid : idc = 227874816 := rfl
  refine v_Ref_hasShift _ _ _ _ _ (SpI.mono sp_Ref_identity ?_)
  rintro r g0 ⟨e0, rfl⟩
  subst g0
  rw [show nI 227874816 = nI idc from rfl, nI_add]
  refine ⟨K54, SpI.mono (sp_Ref_find hg hi ok.1 ok.ne _) ?_⟩
  rw [nI_toI (by omega)]
  rintro r g0 ⟨e0, fd⟩
  subst g0
  have q := Fnd.no fd ok.2.1
  exact ⟨fun c => ⟨_, rfl, rfl, Or.inr ⟨rfl, q.1 c⟩⟩, fun c => ⟨_, rfl, rfl, Or.inl ⟨rfl, q.2 c⟩⟩⟩
theorem sp_centringLetter {h : MH} {O : Nat → Nat} {t g : Nat} {S MK : List Nat} (ok : GOk S) (b : GrpB h O t g S MK) : SpI k_Group_centringLetter [.ref g] h (fun r y => y = h ∧ r = nI (letN S (cenK S S.length))) := by
  have kk := b.2.1.1
  have w := ok.2.1
  have cl := cenK_le (S := S) S.length
  have one : ∀ (s : Nat) (x : Int32) (Rt : Int32 → MH → Prop), x = nI s → s < 13824 → (idc + s ∈ S → Rt 1 h) → (idc + s ∉ S → Rt 0 h) → SpI k_Group_hasCentring [.ref g, .int x] h Rt := by
    intro s x Rt ex hs y n
    rw [ex]
    refine SpI.mono (sp_hasCentring ok b hs) ?_
    rintro r g0 ⟨e0, res⟩
    subst g0
    rcases res with ⟨rfl, q⟩ | ⟨rfl, q⟩
    · exact y q
    · exact n q
  have eqn : ∀ m : Nat, m < 10 → (nI (cenK S S.length) = nI m) = (cenK S S.length = m) := fun m hm => nI_inj (by omega) (by omega)
  refine v_Group_centringLetter _ _ _ ⟨kk, SpI.mono (sp_countCentrings ok b) ?_⟩
  rintro r g0 ⟨e0, rfl⟩
  subst g0
  unfold letN
  rw [show (1 : Int32) = nI 1 from rfl, show (2 : Int32) = nI 2 from rfl, show (3 : Int32) = nI 3 from rfl, show (4 : Int32) = nI 4 from rfl, eqn 1 (by decide), eqn 2 (by decide), eqn 3 (by decide), eqn 4 (by decide)]
  refine ⟨fun e => ⟨_, rfl, rfl, by rw [if_pos e]; rfl⟩, fun n1 => ⟨fun e2 => ⟨kk, ?_⟩, fun n2 => ⟨fun e3 => ⟨kk, ?_⟩, fun n3 => ⟨fun e4 => ⟨kk, ?_⟩, fun n4 => ⟨_, rfl, rfl, by rw [if_neg n1, if_neg n2, if_neg n3, if_neg n4]; rfl⟩⟩⟩⟩⟩
  · rw [if_neg n1, if_pos e2]
    refine v_Group_letterOfTwo _ _ _ ⟨kk, one 300 _ _ rfl (by decide) (fun y => ⟨fun q => absurd q (by decide), fun _ => ⟨_, rfl, ⟨_, rfl, rfl, by rw [if_pos y]; rfl⟩⟩⟩) (fun na => ⟨fun _ => ⟨kk, ?_⟩, fun q => absurd rfl q⟩)⟩
    refine one 6924 _ _ rfl (by decide) (fun y => ⟨fun q => absurd q (by decide), fun _ => ⟨_, rfl, ⟨_, rfl, rfl, by rw [if_neg na, if_pos y]; rfl⟩⟩⟩) (fun nb => ⟨fun _ => ⟨kk, ?_⟩, fun q => absurd rfl q⟩)
    refine one 7200 _ _ rfl (by decide) (fun y => ⟨fun q => absurd q (by decide), fun _ => ⟨_, rfl, ⟨_, rfl, rfl, by rw [if_neg na, if_neg nb, if_pos y]; rfl⟩⟩⟩) (fun nc => ⟨fun _ => ⟨kk, ?_⟩, fun q => absurd rfl q⟩)
    exact one 7212 _ _ rfl (by decide) (fun y => ⟨fun q => absurd q (by decide), fun _ => ⟨_, rfl, ⟨_, rfl, rfl, by rw [if_neg na, if_neg nb, if_neg nc, if_pos y]; rfl⟩⟩⟩) (fun nd => ⟨fun _ => ⟨_, rfl, ⟨_, rfl, rfl, by rw [if_neg na, if_neg nb, if_neg nc, if_neg nd]; rfl⟩⟩, fun q => absurd rfl q⟩)
  · rw [if_neg n1, if_neg n2, if_pos e3]
    refine one 5008 _ _ rfl (by decide) (fun y => ⟨fun q => absurd q (by decide), fun _ => ⟨_, rfl, rfl, by rw [if_pos y]; rfl⟩⟩) (fun na => ⟨fun _ => ⟨kk, ?_⟩, fun q => absurd rfl q⟩)
    exact one 5000 _ _ rfl (by decide) (fun y => ⟨fun q => absurd q (by decide), fun _ => ⟨_, rfl, rfl, by rw [if_neg na, if_pos y]; rfl⟩⟩) (fun nb => ⟨fun _ => ⟨_, rfl, rfl, by rw [if_neg na, if_neg nb]; rfl⟩, fun q => absurd rfl q⟩)
  · rw [if_neg n1, if_neg n2, if_neg n3, if_pos e4]
    refine one 300 _ _ rfl (by decide) (fun y => ⟨fun q => absurd q (by decide), fun _ => ⟨kk, ?_⟩⟩) (fun na => ⟨fun _ => ⟨_, rfl, rfl, by rw [if_neg na]; rfl⟩, fun q => absurd rfl q⟩)
    exact one 6924 _ _ rfl (by decide) (fun y2 => ⟨fun q => absurd q (by decide), fun _ => ⟨_, rfl, rfl, by rw [if_pos y, if_pos y2]; rfl⟩⟩) (fun nb => ⟨fun _ => ⟨_, rfl, rfl, by rw [if_pos y, if_neg nb]; rfl⟩, fun q => absurd rfl q⟩)
theorem tr_pr {a b c : Nat} (h : Pr (idc + a) (idc + b) (idc + c)) {S : List Nat} (ok : GOk S) (ha : idc + a ∈ S) (hb : idc + b ∈ S) : idc + c ∈ S := by
  obtain ⟨z, hz, pz⟩ := ok.2.2.2.2 _ ha _ hb
  rw [h.fn pz]; exact hz
theorem pr_1 : Pr (idc + 300) (idc + 6924) (idc + 7200) := ⟨by unfold cOK; decide, by unfold cOK; decide, by unfold cOK; decide, by decide, by decide⟩
theorem pr_2 : Pr (idc + 5008) (idc + 5008) (idc + 9416) := ⟨by unfold cOK; decide, by unfold cOK; decide, by unfold cOK; decide, by decide, by decide⟩
theorem pr_3 : Pr (idc + 5000) (idc + 5000) (idc + 9424) := ⟨by unfold cOK; decide, by unfold cOK; decide, by unfold cOK; decide, by decide, by decide⟩
