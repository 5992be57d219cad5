/-! sorted lists; the groups that are kept -/
theorem srt_eq : ∀ {S S' : List Nat}, S.Pairwise (· < ·) → S'.Pairwise (· < ·) → (∀ x, x ∈ S ↔ x ∈ S') → S = S'
  | [], [], _, _, _ => rfl
  | [], b :: S', _, _, h => absurd ((h b).mpr List.mem_cons_self) List.not_mem_nil
  | a :: S, [], _, _, h => absurd ((h a).mp List.mem_cons_self) List.not_mem_nil
  | a :: S, b :: S', h1, h2, h => by
    have p1 := List.pairwise_cons.mp h1
    have p2 := List.pairwise_cons.mp h2
    have e : a = b := by
      rcases List.mem_cons.mp ((h a).mp List.mem_cons_self) with q | q
      · exact q
      · rcases List.mem_cons.mp ((h b).mpr List.mem_cons_self) with q' | q'
        · exact q'.symm
        · have := p2.1 a q
          have := p1.1 b q'
          omega
    subst e
    have : S = S' := srt_eq p1.2 p2.2 (fun x => ⟨fun hx => by
      rcases List.mem_cons.mp ((h x).mp (List.mem_cons_of_mem _ hx)) with q | q
      · have := p1.1 x hx
        omega
      · exact q, fun hx => by
      rcases List.mem_cons.mp ((h x).mpr (List.mem_cons_of_mem _ hx)) with q | q
      · have := p2.1 x hx
        omega
      · exact q⟩)
    rw [this]
def mkS (F : Nat → Int) (n : Nat) : List Nat := (List.range n).map fun i => (F i).toNat
theorem mkS_len (F : Nat → Int) (n : Nat) : (mkS F n).length = n := by unfold mkS; rw [List.length_map, List.length_range]
theorem mkS_getD {F : Nat → Int} {n i : Nat} (h : i < n) : (mkS F n).getD i 0 = (F i).toNat := by
  unfold mkS
  rw [List.getD_eq_getElem?_getD, List.getElem?_map, List.getElem?_range h]
  rfl
theorem mkS_mem {F : Nat → Int} {n x : Nat} : x ∈ mkS F n ↔ ∃ i, i < n ∧ (F i).toNat = x := by
  unfold mkS
  rw [List.mem_map]
  constructor
  · rintro ⟨i, hi, e⟩; exact ⟨i, List.mem_range.mp hi, e⟩
  · rintro ⟨i, hi, e⟩; exact ⟨i, List.mem_range.mpr hi, e⟩
theorem getD_lt {L : List Nat} {j : Nat} (h : j < L.length) : L.getD j 0 = L[j] := by
  rw [List.getD_eq_getElem?_getD, List.getElem?_eq_getElem h]
  rfl
theorem srt_lt {S : List Nat} (h : S.Pairwise (· < ·)) {i j : Nat} (hij : i < j) (hj : j < S.length) : S.getD i 0 < S.getD j 0 := by
  rw [getD_lt hj, getD_lt (by omega)]
  exact List.pairwise_iff_getElem.mp h i j (by omega) hj hij
theorem mkS_srt {F : Nat → Int} {n : Nat} (h0 : ∀ i, i < n → 0 ≤ F i) (h : ∀ i j, i < j → j < n → F i < F j) : (mkS F n).Pairwise (· < ·) := by
  rw [List.pairwise_iff_getElem]
  intro i j hi hj hij
  rw [← getD_lt hi, ← getD_lt hj]
  rw [mkS_len] at hi hj
  rw [mkS_getD hi, mkS_getD hj]
  have := h i j hij hj
  have := h0 i hi
  omega
theorem srt_nodup {S : List Nat} (h : S.Pairwise (· < ·)) : S.Nodup := h.imp (fun q e => by omega)
theorem len_eq {L M : List Nat} (h1 : L.Nodup) (h2 : M.Nodup) (h : ∀ x, x ∈ L ↔ x ∈ M) : L.length = M.length :=
  Nat.le_antisymm (sub_len L M h1 (fun x hx => (h x).mp hx)) (sub_len M L h2 (fun x hx => (h x).mpr hx))
theorem list_ext {L M : List Nat} (h1 : L.length = M.length) (h : ∀ i, i < L.length → L.getD i 0 = M.getD i 0) : L = M :=
  List.ext_getElem h1 (fun i hi hj => by rw [← getD_lt hi, ← getD_lt hj]; exact h i hi)
/-- a list of codes is given the number that it has, or the next -/
def Reg (GS : List (List Nat)) (S : List Nat) (r : Int32) (GS' : List (List Nat)) : Prop :=
  (∃ i, i < GS.length ∧ GS.getD i [] = S ∧ (∀ j, j < i → GS.getD j [] ≠ S) ∧ r = nI i ∧ GS' = GS) ∨
  ((∀ j, j < GS.length → GS.getD j [] ≠ S) ∧ ((GS.length = 60 ∧ r = -1 ∧ GS' = GS) ∨ (GS.length < 60 ∧ r = nI GS.length ∧ GS' = GS ++ [S])))
theorem Reg.fn {GS GS1 GS2 : List (List Nat)} {S : List Nat} {r1 r2 : Int32} (h1 : Reg GS S r1 GS1) (h2 : Reg GS S r2 GS2) : r1 = r2 ∧ GS1 = GS2 := by
  rcases h1 with ⟨i, hi, e, m, rfl, rfl⟩ | ⟨m, h1⟩
  · rcases h2 with ⟨j, hj, e', m', rfl, rfl⟩ | ⟨m', _⟩
    · have : i = j := by
        rcases Nat.lt_trichotomy i j with q | q | q
        · exact absurd e (m' i q)
        · exact q
        · exact absurd e' (m j q)
      rw [this]; exact ⟨rfl, rfl⟩
    · exact absurd e (m' i hi)
  · rcases h2 with ⟨j, hj, e', _⟩ | ⟨_, h2⟩
    · exact absurd e' (m j hj)
    · rcases h1 with ⟨a, rfl, rfl⟩ | ⟨a, rfl, rfl⟩ <;> rcases h2 with ⟨b, rfl, rfl⟩ | ⟨b, rfl, rfl⟩ <;> first | exact ⟨rfl, rfl⟩ | omega
/-- the groups as the reference keeps them -/
def RGrp (f : (Nat → Nat → Int32)) (GS : List (List Nat)) : Prop := GS.length ≤ 60 ∧ (∀ S ∈ GS, S.length ≤ 192 ∧ ∀ x ∈ S, cOK x) ∧ f 54 17 = nI GS.length ∧ ∀ i, i < GS.length → f 65 i = nI (GS.getD i []).length ∧ ∀ j, j < (GS.getD i []).length → f 64 (192 * i + j) = nI ((GS.getD i []).getD j 0)
theorem gD_mem {GS : List (List Nat)} {i : Nat} (h : i < GS.length) : GS.getD i [] ∈ GS := by
  rw [List.getD_eq_getElem?_getD, List.getElem?_eq_getElem h]
  exact List.getElem_mem h
theorem gD_left {GS HS : List (List Nat)} {i : Nat} (h : i < GS.length) : (GS ++ HS).getD i [] = GS.getD i [] := by
  rw [List.getD_eq_getElem?_getD, List.getD_eq_getElem?_getD, List.getElem?_append_left h]
theorem gD_end {GS : List (List Nat)} {S : List Nat} : (GS ++ [S]).getD GS.length [] = S := by
  rw [List.getD_eq_getElem?_getD, List.getElem?_append_right (Nat.le_refl _), Nat.sub_self]
  rfl
theorem cOK_mem {L : List Nat} (h : ∀ x ∈ L, cOK x) {j : Nat} (hj : j < L.length) : L.getD j 0 < 272097792 := h _ (getD_mem hj)
/-- the list of the reference -/
def LsAt (f : (Nat → Nat → Int32)) (L : List Nat) : Prop := (L.length ≤ 192 ∧ L.Nodup ∧ ∀ x ∈ L, cOK x) ∧ f 54 19 = nI L.length ∧ ∀ j, j < L.length → f 66 j = nI (L.getD j 0)
theorem sp_Ref_isListed {h : MH} {f : (Nat → Nat → Int32)} {l : (Nat → Nat → Int64)} {L : List Nat} {y : Nat} (hl : LsAt f L) (hy : cOK y) : SpI k_Ref_isListed [.ref 54, .int (nI y)] (sil h f l) (fun r g => g = sil h f l ∧ ((r = 1 ∧ y ∈ L) ∨ (r = 0 ∧ y ∉ L))) := by
  obtain ⟨⟨l1, l2, l3⟩, l4, l5⟩ := hl
  have hy' : y < 272097792 := hy
  have main : ∀ d i, L.length - i = d → i ≤ L.length → (∀ j, j < i → L.getD j 0 ≠ y) → WM k_Ref_isListed p_Ref_isListed_1 [.ref 54, .int (nI y), .int (nI i)] [] (sil h f l) 0 0 (fun v g => ∃ r, v = .int r ∧ g = sil h f l ∧ ((r = 1 ∧ y ∈ L) ∨ (r = 0 ∧ y ∉ L))) := by
    intro d
    induction d with
    | zero =>
      intro i h1 h2 h3
      refine v_Ref_isListed_1 _ _ _ _ _ ⟨K54, ?_⟩
      rw [mi_sil, l4, nI_toI (by omega), nI_toI (by omega)]
      refine ⟨fun c => absurd c (by omega), fun _ => ⟨_, rfl, rfl, Or.inr ⟨rfl, fun q => ?_⟩⟩⟩
      obtain ⟨j, hj, e⟩ := mem_getD q
      exact h3 j (by omega) e
    | succ d ih =>
      intro i h1 h2 h3
      have hi : i < L.length := by omega
      have := cOK_mem l3 hi
      refine v_Ref_isListed_1 _ _ _ _ _ ⟨K54, ?_⟩
      rw [mi_sil, l4, nI_toI (by omega), nI_toI (by omega), R54_18, ix_nI (by omega), l5 i hi, nI_inj (by omega) (by omega)]
      refine ⟨fun _ => ⟨K66, InB_nI (show i < 200 by omega) (by omega), fun e => ⟨_, rfl, rfl, Or.inl ⟨rfl, by rw [← e]; exact getD_mem hi⟩⟩, fun e => ?_⟩, fun c => absurd (by omega) c⟩
      rw [nI_1]
      exact ih (i + 1) (by omega) (by omega) (fun j hj => by
        by_cases q : j = i
        · rw [q]; exact e
        · exact h3 j (by omega))
  exact v_Ref_isListed _ _ _ _ (main _ 0 rfl (Nat.zero_le _) (fun j hj => absurd hj (Nat.not_lt_zero j)))
