/-! an atom settles in the class's model -/
theorem MdK.s {h : MH} {f : (Nat → Nat → Int32)} {l : (Nat → Nat → Int64)} {x a b : Nat} (H : SS h) (m : MdK h x a b) : MdK (sil h f l) x a b := by
  unfold MdK at *
  rw [kd_sil H, ln_sil H, mr_sil H]
  exact m
theorem RowZ.s {h : MH} {f f' : (Nat → Nat → Int32)} {l l' : (Nat → Nat → Int64)} {r a : Nat} {T : List Int} (H : SS h) (b : RowZ (sil h f l) r a T) (e1 : f' r = f r) (e2 : f' a = f a) : RowZ (sil h f' l') r a T := by
  unfold RowZ at *
  rw [kd_sil H, ln_sil H, mr_sil H, mi_sil] at *
  rw [e1, e2]
  exact b
theorem sp_Model_atomAt {k : MH} {x a b p : Nat} {P : List Pl} {T : List Int} (mk : MdK k x a b) (rz : RowZ k (x + 4) (x + 5) T) (tk : TkL P T) (hl : P.length ≤ 300) (hP : ∀ i, i < P.length → (P.getD i zp).1 < 13824) (hp : p < 13824) :
    SpI k_Model_atomAt [.ref x, .int (nI p)] k (fun r g => g = k ∧ ((∃ i, i < P.length ∧ (P.getD i zp).1 = p ∧ r = nI i) ∨ ((∀ i, i < P.length → (P.getD i zp).1 ≠ p) ∧ r = -1))) := by
  have t5 : (512 : Int32) = nI 512 := rfl
  have e7 : mr k x 7 = x + 4 := mk.1.2.2.2.2.2.2.1
  have tl := tk.1
  obtain ⟨⟨r1, r2, r3, r4, r5, r6⟩, r7, r8, r9⟩ := id rz
  refine v_Model_atomAt _ _ _ _ ⟨mk.1.1, ?_⟩
  rw [e7, t5, nI_mul]
  refine ⟨r1, SpI.mono (sp_Row_seat _ rz.row) ?_⟩
  rintro y g ⟨eg, q, hq, rfl, lo, hi⟩
  subst g
  rw [nI_toI (by omega)] at lo hi
  rw [e7, r7, r2, nI_toI (by omega), nI_toI (by omega), ix_nI (by omega)]
  refine ⟨mk.1.1, r1, fun c => ⟨r3, InB_nI (by omega) (by omega), ?_⟩, fun c => ⟨_, rfl, rfl, Or.inr ⟨fun i hi' e => ?_, rfl⟩⟩⟩
  rotate_left
  · obtain ⟨j, hj, ej⟩ := zmem_getD ((tk.2 _).mpr ⟨i, hi', rfl⟩)
    have := lo j (by omega)
    rw [ej, e] at this
    omega
  have cq : q < T.length := by omega
  obtain ⟨i, hi1, ei⟩ := (tk.2 _).mp (zgetD_mem cq)
  have hpi := hP i hi1
  have ev : mi k (x + 5) q = nI (512 * (P.getD i zp).1 + i) := by
    have := r8 q cq
    rw [ei] at this
    rw [of_toI this]; rfl
  rw [ev, div_nI (by omega) (by decide) (by decide), irm_nI (by omega) (by decide) (by decide), show (512 * (P.getD i zp).1 + i) / 512 = (P.getD i zp).1 by omega, show (512 * (P.getD i zp).1 + i) % 512 = i by omega]
  refine ⟨fun e => ⟨_, rfl, rfl, Or.inl ⟨i, hi1, (nI_inj (by omega) (by omega)).mp e, rfl⟩⟩, fun e => ⟨_, rfl, rfl, Or.inr ⟨fun j hj ej => e ?_, rfl⟩⟩⟩
  obtain ⟨z, hz, ez⟩ := zmem_getD ((tk.2 _).mpr ⟨j, hj, rfl⟩)
  rw [ej] at ez
  have zq : q ≤ z := by
    by_cases w : z < q
    · have := lo z w
      rw [ez] at this
      omega
    · omega
  have le : T.getD q 0 ≤ T.getD z 0 := by
    by_cases w : q = z
    · rw [w]; omega
    · exact Int.le_of_lt (zsrt_lt r9 (by omega) hz)
  have ge := hi q (Nat.le_refl _) cq
  rw [ei] at le ge
  rw [ez] at le
  have : (P.getD i zp).1 = p := by omega
  rw [this]
def PlS (f : (Nat → Nat → Int32)) (x : Nat) (P : List Pl) : Prop := ∀ i, i < P.length → f (x + 1) (3 * i) = nI ((P.getD i zp).1 / 576) ∧ f (x + 1) (3 * i + 1) = nI ((P.getD i zp).1 / 24 % 24) ∧ f (x + 1) (3 * i + 2) = nI ((P.getD i zp).1 % 24) ∧ f (x + 2) i = nI (P.getD i zp).2.2
theorem pl_len (P : List Pl) (p : Pl) : (P ++ [p]).length = P.length + 1 := by rw [List.length_append]; rfl
def PutP (h : MH) (f : (Nat → Nat → Int32)) (l : (Nat → Nat → Int64)) (x : Nat) (P : List Pl) (p : Pl) (g : MH) : Prop := ∃ f', g = sil h f' l ∧ Fr [x, x + 1, x + 2, x + 4, x + 5] f f' ∧ (f' x 4 = nI (P.length + 1) ∧ ∀ j, j ≠ 4 → f' x j = f x j) ∧ PlS f' x (P ++ [p]) ∧ ∃ T, RowZ (sil h f' l) (x + 4) (x + 5) T ∧ TkL (P ++ [p]) T
theorem sp_Model_put {h : MH} {f : (Nat → Nat → Int32)} {l : (Nat → Nat → Int64)} {x a b t p : Nat} {w : Int} {P : List Pl} {T : List Int} (H : SS h) (mk : MdK h x a b) (c4 : f x 4 = nI P.length) (c6 : f x 6 = nI t) (hl : P.length < 300) (hp : p < 13824) (ps : PlS f x P) (rz : RowZ (sil h f l) (x + 4) (x + 5) T) (tk : TkL P T) :
    SpV k_Model_put [.ref x, .int (nI p)] (sil h f l) (PutP h f l x P (p, w, t)) := by
  have t3 : (3 : Int32) = nI 3 := rfl
  have t2 : (2 : Int32) = nI 2 := rfl
  have t24 : (24 : Int32) = nI 24 := rfl
  have t576 : (576 : Int32) = nI 576 := rfl
  have t5 : (512 : Int32) = nI 512 := rfl
  have mks : ∀ f', MdK (sil h f' l) x a b := fun f' => mk.s H
  have e2 : ∀ f', mr (sil h f' l) x 2 = x + 1 := fun f' => (mks f').1.2.2.2.1
  have e3 : ∀ f', mr (sil h f' l) x 3 = x + 2 := fun f' => (mks f').1.2.2.2.2.1
  have e7 : ∀ f', mr (sil h f' l) x 7 = x + 4 := fun f' => (mks f').1.2.2.2.2.2.2.1
  have tl := tk.1
  refine v_Model_put _ _ _ _ ⟨(mks f).1.1, ?_⟩
  rw [e2, e3, mi_sil, c4, t3, nI_mul, ix_nI (by omega), t576, div_nI (by omega) (by decide) (by decide), (mks f).2.1.2, (mks f).2.2.1.2]
  refine ⟨(mks f).2.1.1, InB_nI (by omega) (by omega), ?_⟩
  rintro _ rfl
  rw [wi_sil, mi_sil, up2_ne (by omega), c4, nI_mul, nI_1, ix_nI (by omega), t24, div_nI (by omega) (by decide) (by decide), irm_nI (by omega) (by decide) (by decide)]
  refine ⟨InB_nI (by omega) (by omega), ?_⟩
  rintro _ rfl
  rw [wi_sil, mi_sil, up2_ne (by omega), up2_ne (by omega), c4, nI_mul, t2, nI_add, ix_nI (by omega), irm_nI (by omega) (by decide) (by decide)]
  refine ⟨InB_nI (by omega) (by omega), ?_⟩
  rintro _ rfl
  rw [wi_sil, mi_sil, up2_ne (by omega), up2_ne (by omega), up2_ne (by omega), up2_ne (by omega), up2_ne (by omega), up2_ne (by omega), c4, c6, ix_nI (by omega)]
  refine ⟨(mks f).2.2.1.1, InB_nI (by omega) (by omega), ?_⟩
  rintro _ rfl
  rw [wi_sil]
  have fr1 : Fr [x + 1, x + 2] f (up2 (up2 (up2 (up2 f (x + 1) (3 * P.length) (nI (p / 576))) (x + 1) (3 * P.length + 1) (nI (p / 24 % 24))) (x + 1) (3 * P.length + 2) (nI (p % 24))) (x + 2) P.length (nI t)) := ((((Fr.refl).up List.mem_cons_self).up List.mem_cons_self).up List.mem_cons_self).up (List.mem_cons_of_mem _ List.mem_cons_self)
  have s1 : PlS (up2 (up2 (up2 (up2 f (x + 1) (3 * P.length) (nI (p / 576))) (x + 1) (3 * P.length + 1) (nI (p / 24 % 24))) (x + 1) (3 * P.length + 2) (nI (p % 24))) (x + 2) P.length (nI t)) x (P ++ [(p, w, t)]) := by
    intro i hi
    rw [pl_len] at hi
    by_cases e : i = P.length
    · subst e
      rw [gEnd]
      refine ⟨?_, ?_, ?_, ?_⟩
      · rw [up2_ne (by omega), up2_ni (by omega), up2_ni (by omega), up2_s]
      · rw [up2_ne (by omega), up2_ni (by omega), up2_s]
      · rw [up2_ne (by omega), up2_s]
      · rw [up2_s]
    · rw [gLeft (by omega)]
      obtain ⟨a1, a2, a3, a4⟩ := ps i (by omega)
      refine ⟨?_, ?_, ?_, ?_⟩
      · rw [up2_ne (by omega), up2_ni (by omega), up2_ni (by omega), up2_ni (by omega)]; exact a1
      · rw [up2_ne (by omega), up2_ni (by omega), up2_ni (by omega), up2_ni (by omega)]; exact a2
      · rw [up2_ne (by omega), up2_ni (by omega), up2_ni (by omega), up2_ni (by omega)]; exact a3
      · rw [up2_ni (by omega), up2_ne (by omega), up2_ne (by omega), up2_ne (by omega)]; exact a4
  generalize up2 (up2 (up2 (up2 f (x + 1) (3 * P.length) (nI (p / 576))) (x + 1) (3 * P.length + 1) (nI (p / 24 % 24))) (x + 1) (3 * P.length + 2) (nI (p % 24))) (x + 2) P.length (nI t) = f1 at *
  have no : ∀ j, j ≠ 1 → j ≠ 2 → x + j ∉ [x + 1, x + 2] := fun j h1 h2 q => by
    simp only [List.mem_cons, List.not_mem_nil, or_false] at q
    omega
  have fx : f1 x = f x := fr1 x (no 0 (by decide) (by decide))
  refine v_Model_put_1 _ _ _ _ ⟨(mks f1).1.1, ?_⟩
  rw [e7, mi_sil, fx, c4, t5, nI_mul, nI_add]
  have rz1 : RowZ (sil h f1 l) (x + 4) (x + 5) T := rz.s H (fr1 _ (no 4 (by decide) (by decide))) (fr1 _ (no 5 (by decide) (by decide)))
  refine ⟨(mks f1).2.2.2.2.1.1, SpI.mono (row_put rz1 (by rw [(mks f1).2.2.2.2.1.2.2.2]; omega) _) ?_⟩
  rintro _ _ ⟨f2, T2, rfl, fr2, rz2, mem, len⟩
  rw [si_sil] at *
  rw [mi_sil] at fr2
  have n45 : ∀ j, j ≠ 4 → j ≠ 5 → x + j ∉ [x + 4, x + 5] := fun j h1 h2 q => by
    simp only [List.mem_cons, List.not_mem_nil, or_false] at q
    omega
  have fx2 : f2 x = f x := (fr2 x (n45 0 (by decide) (by decide))).trans fx
  refine ⟨(mks f2).1.1, ?_⟩
  rintro _ rfl
  rw [wi_sil, mi_sil, fx2, c4, nI_1]
  rw [nI_toI (by omega)] at mem
  have fr3 : Fr [x, x + 1, x + 2, x + 4, x + 5] f (up2 f2 x 4 (nI (P.length + 1))) := by
    refine Fr.up (Fr.trans (fr1.mono ?_) (fr2.mono ?_)) List.mem_cons_self
    · intro a ha
      simp only [List.mem_cons, List.not_mem_nil, or_false] at *
      omega
    · intro a ha
      simp only [List.mem_cons, List.not_mem_nil, or_false] at *
      omega
  refine ⟨_, rfl, fr3, ⟨up2_s, fun j hj => by rw [up2_ni hj, fx2]⟩, fun i hi => ?_, T2, rz2.s H (up2_row (by omega)) (up2_row (by omega)), ?_, fun z => ?_⟩
  · rw [up2_row (by omega), up2_row (by omega), fr2 _ (n45 1 (by decide) (by decide)), fr2 _ (n45 2 (by decide) (by decide))]
    exact s1 i hi
  · rw [pl_len]; omega
  · rw [mem, tk.2, pl_len]
    refine ⟨fun q => ?_, fun ⟨i, hi, e⟩ => ?_⟩
    · rcases q with q | ⟨i, hi, e⟩
      · exact ⟨P.length, by omega, by rw [gEnd, q]; omega⟩
      · exact ⟨i, by omega, by rw [gLeft hi, e]⟩
    · by_cases w : i = P.length
      · subst w
        rw [gEnd] at e
        exact Or.inl (by rw [e]; omega)
      · rw [gLeft (by omega)] at e
        exact Or.inr ⟨i, by omega, e⟩
