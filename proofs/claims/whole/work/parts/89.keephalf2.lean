/-! a half put into its place -/
def gF {α : Type} (F : Nat → α) (n : Nat) : List α := (List.range n).map F
theorem gF_len {α : Type} (F : Nat → α) (n : Nat) : (gF F n).length = n := by unfold gF; rw [List.length_map, List.length_range]
theorem gF_getD {α : Type} {d : α} {F : Nat → α} {n i : Nat} (h : i < n) : (gF F n).getD i d = F i := by
  rw [gGet (by rw [gF_len]; exact h)]
  unfold gF
  rw [List.getElem_map, List.getElem_range]
theorem gF_mem {α : Type} {F : Nat → α} {n : Nat} {x : α} : x ∈ gF F n ↔ ∃ i, i < n ∧ F i = x := by
  unfold gF
  rw [List.mem_map]
  exact ⟨fun ⟨i, hi, e⟩ => ⟨i, List.mem_range.mp hi, e⟩, fun ⟨i, hi, e⟩ => ⟨i, List.mem_range.mpr hi, e⟩⟩
theorem gF_pw {α : Type} {R : α → α → Prop} {F : Nat → α} {n : Nat} (h : ∀ i j, i < j → j < n → R (F i) (F j)) : (gF F n).Pairwise R := by
  unfold gF
  rw [List.pairwise_map]
  exact List.Pairwise.imp_of_mem (R := (· < ·)) (fun {a b} ha hb hab => h a b hab (List.mem_range.mp hb)) List.pairwise_lt_range
theorem gPw {α : Type} {R : α → α → Prop} {d : α} {L : List α} (h : L.Pairwise R) {i j : Nat} (hij : i < j) (hj : j < L.length) : R (L.getD i d) (L.getD j d) := by
  rw [gGet (by omega), gGet hj]
  exact List.pairwise_iff_getElem.mp h i j (by omega) hj hij
def insG {α : Type} (d : α) (L : List α) (k : Nat) (x : α) : List α := gF (fun j => if j < k then L.getD j d else if j = k then x else L.getD (j - 1) d) (L.length + 1)
theorem insG_mem {α : Type} {d : α} {L : List α} {k : Nat} {x y : α} (hk : k ≤ L.length) : y ∈ insG d L k x ↔ y = x ∨ y ∈ L := by
  unfold insG
  rw [gF_mem]
  constructor
  · rintro ⟨i, hi, e⟩
    split at e
    · rw [← e]; exact Or.inr (gMem (by omega))
    · split at e
      · exact Or.inl e.symm
      · rw [← e]; exact Or.inr (gMem (by omega))
  · rintro (e | e)
    · exact ⟨k, by omega, by rw [if_neg (by omega), if_pos rfl]; exact e.symm⟩
    · obtain ⟨j, hj, ej⟩ := gEx (d := d) e
      by_cases q : j < k
      · exact ⟨j, by omega, by rw [if_pos q]; exact ej⟩
      · exact ⟨j + 1, by omega, by rw [if_neg (by omega), if_neg (by omega)]; exact ej⟩
theorem insG_pw {α : Type} {R : α → α → Prop} {d : α} {L : List α} {k : Nat} {x : α} (h : L.Pairwise R) (hk : k ≤ L.length) (lo : ∀ j, j < k → R (L.getD j d) x) (hi : ∀ j, k ≤ j → j < L.length → R x (L.getD j d)) : (insG d L k x).Pairwise R := by
  unfold insG
  refine gF_pw (fun i j hij hj => ?_)
  by_cases q1 : i < k
  · rw [if_pos q1]
    by_cases q2 : j < k
    · rw [if_pos q2]; exact gPw h hij (by omega)
    · rw [if_neg q2]
      by_cases q3 : j = k
      · rw [if_pos q3]; exact lo i q1
      · rw [if_neg q3]; exact gPw h (by omega) (by omega)
  · rw [if_neg q1, if_neg (show ¬ j < k by omega), if_neg (show ¬ j = k by omega)]
    by_cases q3 : i = k
    · rw [if_pos q3]; exact hi _ (by omega) (by omega)
    · rw [if_neg q3]; exact gPw h (by omega) (by omega)
theorem Ahd.tr {n : Nat} {a b c : Nat → Bool} (h : Ahd n a b) (h' : Ahd n b c) : Ahd n a c := by
  obtain ⟨i, i1, i2, i3, i4⟩ := h
  obtain ⟨j, j1, j2, j3, j4⟩ := h'
  rcases Nat.lt_trichotomy i j with q | q | q
  · exact ⟨i, i1, i2, by rw [← j4 i q]; exact i3, fun t ht => (i4 t ht).trans (j4 t (by omega))⟩
  · subst q; rw [i3] at j2; exact absurd j2 (by decide)
  · exact ⟨j, j1, by rw [i4 j q]; exact j2, j3, fun t ht => (i4 t (by omega)).trans (j4 t ht)⟩
theorem Ahd.tot {n : Nat} : ∀ {a b : Nat → Bool}, (∃ i, i < n ∧ a i ≠ b i) → Ahd n a b ∨ Ahd n b a := by
  intro a b ⟨i, hi, ne⟩
  induction i using Nat.strongRecOn with
  | _ i ih =>
    by_cases q : ∃ j, j < i ∧ a j ≠ b j
    · obtain ⟨j, hj, nj⟩ := q
      exact ih j hj (by omega) nj
    · have eq : ∀ j, j < i → a j = b j := fun j hj => Classical.byContradiction fun w => q ⟨j, hj, w⟩
      cases ea : a i <;> cases eb : b i
      · rw [ea, eb] at ne; exact absurd rfl ne
      · exact Or.inl ⟨i, hi, ea, eb, eq⟩
      · exact Or.inr ⟨i, hi, eb, ea, fun j hj => (eq j hj).symm⟩
      · rw [ea, eb] at ne; exact absurd rfl ne
abbrev fb : Nat → Bool := fun _ => false
def HbR (l : (Nat → Nat → Int64)) (g n : Nat) (L : List (Nat → Bool)) : Prop := ∀ k, k < L.length → WdR l (384 * g + 3 * k) n (L.getD k fb)
/-- where the longs of one group are, nothing else changes -/
def LFr (g : Nat) (l l' : (Nat → Nat → Int64)) : Prop := (∀ a, a ≠ 70 → l' a = l a) ∧ ∀ j, (j < 384 * g ∨ 384 * g + 384 ≤ j) → l' 70 j = l 70 j
theorem LFr.refl {g : Nat} {l : (Nat → Nat → Int64)} : LFr g l l := ⟨fun _ _ => rfl, fun _ _ => rfl⟩
theorem LFr.trans {g : Nat} {l l' l'' : (Nat → Nat → Int64)} (a : LFr g l l') (b : LFr g l' l'') : LFr g l l'' := ⟨fun x hx => (b.1 x hx).trans (a.1 x hx), fun j hj => (b.2 j hj).trans (a.2 j hj)⟩
theorem LFr.up {g j : Nat} {l l' : (Nat → Nat → Int64)} {x : Int64} (a : LFr g l l') (h1 : 384 * g ≤ j) (h2 : j < 384 * g + 384) : LFr g l (up2 l' 70 j x) := ⟨fun y hy => (up2_row hy).trans (a.1 y hy), fun i hi => (up2_ni (by omega)).trans (a.2 i hi)⟩
def KhP (h : MH) (f : (Nat → Nat → Int32)) (l : (Nat → Nat → Int64)) (g n : Nat) (L : List (Nat → Bool)) (m : Nat → Bool) (y : MH) : Prop := ∃ l' L', y = sil h (up2 f 68 g (nI L'.length)) l' ∧ LFr g l l' ∧ HbR l' g n L' ∧ L'.Pairwise (Ahd n) ∧ (∀ x, x ∈ L' ↔ x = m ∨ x ∈ L) ∧ L'.length = L.length + 1
theorem sp_Ref_keepHalf {h : MH} {f : (Nat → Nat → Int32)} {l : (Nat → Nat → Int64)} {n g : Nat} {L : List (Nat → Bool)} {m : Nat → Bool} (hn : n ≤ 192) (hg : g < 60) (mk : ∀ j, j < n → f 72 j = b12 (m j)) (h68 : f 68 g = nI L.length) (ll : L.length < 128) (hb : HbR l g n L) (pw : L.Pairwise (Ahd n)) (df : ∀ x ∈ L, ∃ i, i < n ∧ x i ≠ m i) :
    SpV k_Ref_keepHalf [.ref 54, .int (nI g), .int (nI n)] (sil h f l) (fun y => KhP h f l g n L m y) := by
  have t384 : (384 : Int32) = nI 384 := rfl
  have t3 : (3 : Int32) = nI 3 := rfl
  have t2 : (2 : Int32) = nI 2 := rfl
  have place : ∀ (i : Nat) (a b c : Int64) (l1 : (Nat → Nat → Int64)), WdK a m 0 n → WdK b m 1 n → WdK c m 2 n → i ≤ L.length → LFr g l l1 → (∀ j, j < i → WdR l1 (384 * g + 3 * j) n (L.getD j fb)) → (∀ j, i < j → j ≤ L.length → WdR l1 (384 * g + 3 * j) n (L.getD (j - 1) fb)) → (∀ j, i ≤ j → j < L.length → Ahd n m (L.getD j fb)) → (0 < i → ¬ Ahd n m (L.getD (i - 1) fb)) →
      WM k_Ref_keepHalf p_Ref_keepHalf_4 [.ref 54, .int (nI g), Jv, .long a, Jv, .long b, Jv, .long c, Jv, .int (nI i), .int (nI (384 * g)), Jv] [] (sil h f l1) 0 0 (fun _ y => KhP h f l g n L m y) := by
    intro i a b c l1 w0 w1 w2 hi fr lo hi' ah na
    refine v_Ref_keepHalf_4 _ _ _ _ _ _ _ _ _ ⟨K54, ?_⟩
    rw [R54_23, R54_21, t3, t2, nI_mul, nI_add, nI_1, nI_add, ix_nI (by omega), ix_nI (by omega), ix_nI (by omega), ix_nI (by omega), mi_sil, h68, nI_1]
    refine ⟨K70, InB_nI (show 384 * g + 3 * i < 23040 by omega) (by omega), ?_⟩
    rintro _ rfl
    refine ⟨InB_nI (show 384 * g + 3 * i + 1 < 23040 by omega) (by omega), ?_⟩
    rintro _ rfl
    refine ⟨InB_nI (show 384 * g + 3 * i + 2 < 23040 by omega) (by omega), ?_⟩
    rintro _ rfl
    refine ⟨K68, InB_nI (show g < 60 by omega) (by omega), ?_⟩
    rintro _ rfl
    rw [wl_sil, wl_sil, wl_sil, wi_sil]
    refine v_Ref_keepHalf_5 _ _ ?_
    show KhP h f l g n L m _
    refine ⟨up2 (up2 (up2 l1 70 (384 * g + 3 * i) a) 70 (384 * g + 3 * i + 1) b) 70 (384 * g + 3 * i + 2) c, insG fb L i m, ?_, ((fr.up (j := 384 * g + 3 * i) (by omega) (by omega)).up (j := 384 * g + 3 * i + 1) (by omega) (by omega)).up (j := 384 * g + 3 * i + 2) (by omega) (by omega), fun k hk => ?_, ?_, fun x => insG_mem hi, ?_⟩
    · rw [show (insG fb L i m).length = L.length + 1 from gF_len _ _]
    · rw [show (insG fb L i m).length = L.length + 1 from gF_len _ _] at hk
      rw [show (insG fb L i m).getD k fb = _ from gF_getD hk]
      have oth : k ≠ i → ∀ x, WdR l1 (384 * g + 3 * k) n x → WdR (up2 (up2 (up2 l1 70 (384 * g + 3 * i) a) 70 (384 * g + 3 * i + 1) b) 70 (384 * g + 3 * i + 2) c) (384 * g + 3 * k) n x := fun ne x w => by
        unfold WdR
        rw [up2_ni (by omega), up2_ni (by omega), up2_ni (by omega), up2_ni (by omega), up2_ni (by omega), up2_ni (by omega), up2_ni (by omega), up2_ni (by omega), up2_ni (by omega)]
        exact w
      by_cases q1 : k < i
      · rw [if_pos q1]; exact oth (by omega) _ (lo k q1)
      · rw [if_neg q1]
        by_cases q2 : k = i
        · subst q2
          rw [if_pos rfl]
          unfold WdR
          rw [up2_ni (show 384 * g + 3 * k ≠ 384 * g + 3 * k + 2 by omega), up2_ni (show 384 * g + 3 * k ≠ 384 * g + 3 * k + 1 by omega), up2_s, up2_ni (show 384 * g + 3 * k + 1 ≠ 384 * g + 3 * k + 2 by omega), up2_s, up2_s]
          exact ⟨w0, w1, w2⟩
        · rw [if_neg q2]; exact oth q2 _ (hi' k (by omega) (by omega))
    · refine insG_pw pw hi (fun j hj => ?_) ah
      have last : Ahd n (L.getD (i - 1) fb) m := by
        have mem : L.getD (i - 1) fb ∈ L := gMem (by omega)
        rcases Ahd.tot (df _ mem) with q | q
        · exact q
        · exact absurd q (na (by omega))
      by_cases e : j = i - 1
      · rw [e]; exact last
      · exact (gPw pw (by omega) (by omega)).tr last
    · exact gF_len _ _
  have ins : ∀ (i : Nat) (a b c : Int64) (l1 : (Nat → Nat → Int64)), WdK a m 0 n → WdK b m 1 n → WdK c m 2 n → i ≤ L.length → LFr g l l1 → (∀ j, j < i → WdR l1 (384 * g + 3 * j) n (L.getD j fb)) → (∀ j, i < j → j ≤ L.length → WdR l1 (384 * g + 3 * j) n (L.getD (j - 1) fb)) → (∀ j, i ≤ j → j < L.length → Ahd n m (L.getD j fb)) →
      WM k_Ref_keepHalf p_Ref_keepHalf_2 [.ref 54, .int (nI g), Jv, .long a, Jv, .long b, Jv, .long c, Jv, .int (nI i), .int (nI (384 * g)), Jv] [] (sil h f l1) 0 0 (fun _ y => KhP h f l g n L m y) := by
    intro i
    induction i with
    | zero =>
      intro a b c l1 w0 w1 w2 hi fr lo hi' ah
      refine v_Ref_keepHalf_2 _ _ _ _ _ _ _ _ _ ⟨fun q => absurd q (by decide), fun _ => place 0 a b c l1 w0 w1 w2 hi fr lo hi' ah (fun q => absurd q (by decide))⟩
    | succ i ih =>
      intro a b c l1 w0 w1 w2 hi fr lo hi' ah
      refine v_Ref_keepHalf_2 _ _ _ _ _ _ _ _ _ ?_
      rw [nI_toI (by omega), nI_prd, t3, nI_mul, nI_add]
      refine ⟨fun _ => ⟨K54, SpI.mono (sp_Ref_comesAhead hn (by omega) w0 w1 w2 (lo i (by omega))) ?_⟩, fun q => absurd (by omega) q⟩
      rintro r y ⟨rfl, ⟨rfl, z⟩ | ⟨rfl, z⟩⟩
      · refine ⟨fun q => absurd q (by decide), fun _ => ?_⟩
        have mv : ∀ d q (l2 : (Nat → Nat → Int64)), 3 - q = d → q ≤ 3 → LFr g l l2 → (∀ j, j < i → WdR l2 (384 * g + 3 * j) n (L.getD j fb)) → (∀ j, i + 1 < j → j ≤ L.length → WdR l2 (384 * g + 3 * j) n (L.getD (j - 1) fb)) → (∀ t, t < 3 → l2 70 (384 * g + 3 * i + t) = l1 70 (384 * g + 3 * i + t)) → (∀ t, t < q → l2 70 (384 * g + 3 * (i + 1) + t) = l1 70 (384 * g + 3 * i + t)) →
            WM k_Ref_keepHalf p_Ref_keepHalf_3 [.ref 54, .int (nI g), Jv, .long a, Jv, .long b, Jv, .long c, Jv, .int (nI (i + 1)), .int (nI (384 * g)), .int (nI q)] [] (sil h f l2) 0 0 (fun _ y => KhP h f l g n L m y) := by
          intro d
          induction d with
          | zero =>
            intro q l2 hd hq fr2 lo2 hi2 k0 k1
            refine v_Ref_keepHalf_3 _ _ _ _ _ _ _ _ _ _ ?_
            rw [t3, nI_toI (by omega), nI_toI (by omega), nI_prem]
            refine ⟨fun q => absurd q (by omega), fun _ => ih a b c l2 w0 w1 w2 (by omega) fr2 lo2 (fun j h1 h2 => ?_) (fun j h1 h2 => ?_)⟩
            · by_cases e : j = i + 1
              · subst e
                obtain ⟨x0, x1, x2⟩ := lo i (by omega)
                unfold WdR
                have y0 := k1 0 (by omega)
                have y1 := k1 1 (by omega)
                have y2 := k1 2 (by omega)
                rw [Nat.add_zero, Nat.add_zero] at y0
                rw [y0, y1, y2, show i + 1 - 1 = i by omega]
                exact ⟨x0, x1, x2⟩
              · exact hi2 j (by omega) h2
            · by_cases e : j = i
              · rw [e]; exact z
              · exact ah j (by omega) h2
          | succ d ihd =>
            intro q l2 hd hq fr2 lo2 hi2 k0 k1
            refine v_Ref_keepHalf_3 _ _ _ _ _ _ _ _ _ _ ?_
            rw [nI_prd, t3, nI_toI (by omega), nI_toI (by omega), nI_mul, nI_mul, nI_add, nI_add, nI_add, nI_add, R54_23, ix_nI (by omega), ix_nI (by omega), ml_sil, nI_1, k0 q (by omega)]
            refine ⟨fun _ => ⟨K54, K70, InB_nI (show 384 * g + 3 * i + q < 23040 by omega) (by omega), InB_nI (show 384 * g + 3 * (i + 1) + q < 23040 by omega) (by omega), ?_⟩, fun q => absurd (by omega) q⟩
            rintro _ rfl
            rw [wl_sil]
            refine ihd (q + 1) _ (by omega) (by omega) (fr2.up (by omega) (by omega)) (fun j hj => ?_) (fun j h1 h2 => ?_) (fun t ht => ?_) (fun t ht => ?_)
            · unfold WdR
              rw [up2_ni (by omega), up2_ni (by omega), up2_ni (by omega)]
              exact lo2 j hj
            · unfold WdR
              rw [up2_ni (by omega), up2_ni (by omega), up2_ni (by omega)]
              exact hi2 j h1 h2
            · rw [up2_ni (by omega)]; exact k0 t ht
            · by_cases e : t = q
              · subst e; exact up2_s
              · rw [up2_ni (by omega)]; exact k1 t (by omega)
        exact mv _ 0 l1 rfl (by omega) fr (fun j hj => lo j (by omega)) (fun j h1 h2 => hi' j h1 h2) (fun t _ => rfl) (fun t ht => absurd ht (Nat.not_lt_zero t))
      · exact ⟨fun _ => place (i + 1) a b c l1 w0 w1 w2 hi fr lo hi' ah (fun _ => z), fun q => absurd rfl q⟩
  have bits : ∀ d k (a b c : Int64), n - k = d → k ≤ n → WdK a m 0 k → WdK b m 1 k → WdK c m 2 k →
      WM k_Ref_keepHalf p_Ref_keepHalf_1 [.ref 54, .int (nI g), .int (nI n), .long a, Jv, .long b, Jv, .long c, Jv, .int (nI k), Jv, Jv] [] (sil h f l) 0 0 (fun _ y => KhP h f l g n L m y) := by
    intro d
    induction d with
    | zero =>
      intro k a b c hd hk w0 w1 w2
      have e : k = n := by omega
      subst e
      refine v_Ref_keepHalf_1 _ _ _ _ _ _ _ _ _ ⟨fun q => absurd q (by omega), fun _ => ⟨K54, ?_⟩⟩
      rw [R54_21, ix_nI (by omega), mi_sil, h68, t384, nI_mul]
      exact ⟨K68, InB_nI (show g < 60 by omega) (by omega), ins _ a b c l w0 w1 w2 (Nat.le_refl _) LFr.refl hb (fun j h1 h2 => by omega) (fun j h1 h2 => by omega)⟩
    | succ d ih =>
      intro k a b c hd hk w0 w1 w2
      refine v_Ref_keepHalf_1 _ _ _ _ _ _ _ _ _ ?_
      rw [nI_toI (by omega), nI_toI (by omega), R54_25, ix_nI (by omega), mi_sil, mk k (by omega), show (64 : Int32).toInt = 64 from rfl, show (128 : Int32).toInt = 128 from rfl, nI_1]
      have s0 : ∀ t : Nat, k ≤ t → nI t - nI k = nI (t - k) := fun t ht => by rw [nI_subN, ← zI_nat]; congr 1; omega
      refine ⟨fun _ => ⟨K54, K72, InB_nI (show k < 200 by omega) (by omega), fun q1 => ?_, fun q1 => ?_⟩, fun q => absurd (by omega) q⟩
      · have mf : m k = false := by revert q1; cases m k <;> decide
        refine ⟨fun c1 => ?_, fun c1 => ⟨fun c2 => ?_, fun c2 => ?_⟩⟩
        · rw [show (63 : Int32) - nI k = nI (63 - k) from s0 63 (by omega)]
          refine ih (k + 1) _ b c (by omega) (by omega) ?_ (w1.out (by omega)) (w2.out (by omega))
          have := w0.set mf (by omega) (by omega)
          rw [show 64 * 0 + 63 - k = 63 - k by omega] at this
          exact this
        · rw [show (127 : Int32) - nI k = nI (127 - k) from s0 127 (by omega)]
          refine ih (k + 1) a _ c (by omega) (by omega) (w0.out (by omega)) ?_ (w2.out (by omega))
          have := w1.set mf (by omega) (by omega)
          rw [show 64 * 1 + 63 - k = 127 - k by omega] at this
          exact this
        · rw [show (191 : Int32) - nI k = nI (191 - k) from s0 191 (by omega)]
          refine ih (k + 1) a b _ (by omega) (by omega) (w0.out (by omega)) (w1.out (by omega)) ?_
          have := w2.set mf (by omega) (by omega)
          rw [show 64 * 2 + 63 - k = 191 - k by omega] at this
          exact this
      · have mt : m k = true := by revert q1; cases m k <;> decide
        exact ih (k + 1) a b c (by omega) (by omega) (w0.no mt) (w1.no mt) (w2.no mt)
  exact v_Ref_keepHalf _ _ _ _ _ (bits _ 0 0 0 0 rfl (Nat.zero_le _) (WdK.zero m 0) (WdK.zero m 1) (WdK.zero m 2))
