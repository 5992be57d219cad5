/-! rows of whole numbers; places that are moved -/
def zS (F : Nat → Int) (n : Nat) : List Int := (List.range n).map F
theorem zS_len (F : Nat → Int) (n : Nat) : (zS F n).length = n := by unfold zS; rw [List.length_map, List.length_range]
theorem zS_getD {F : Nat → Int} {n i : Nat} (h : i < n) : (zS F n).getD i 0 = F i := by
  unfold zS
  rw [List.getD_eq_getElem?_getD, List.getElem?_map, List.getElem?_range h]
  rfl
theorem zS_mem {F : Nat → Int} {n : Nat} {x : Int} : x ∈ zS F n ↔ ∃ i, i < n ∧ F i = x := by
  unfold zS
  rw [List.mem_map]
  constructor
  · rintro ⟨i, hi, e⟩; exact ⟨i, List.mem_range.mp hi, e⟩
  · rintro ⟨i, hi, e⟩; exact ⟨i, List.mem_range.mpr hi, e⟩
theorem zgetD_lt {L : List Int} {j : Nat} (h : j < L.length) : L.getD j 0 = L[j] := by
  rw [List.getD_eq_getElem?_getD, List.getElem?_eq_getElem h]
  rfl
theorem zsrt_lt {S : List Int} (h : S.Pairwise (· < ·)) {i j : Nat} (hij : i < j) (hj : j < S.length) : S.getD i 0 < S.getD j 0 := by
  rw [zgetD_lt hj, zgetD_lt (by omega)]
  exact List.pairwise_iff_getElem.mp h i j (by omega) hj hij
theorem zS_srt {F : Nat → Int} {n : Nat} (h : ∀ i j, i < j → j < n → F i < F j) : (zS F n).Pairwise (· < ·) := by
  rw [List.pairwise_iff_getElem]
  intro i j hi hj hij
  rw [← zgetD_lt hi, ← zgetD_lt hj]
  rw [zS_len] at hi hj
  rw [zS_getD hi, zS_getD hj]
  exact h i j hij hj
theorem zmem_getD {L : List Int} {x : Int} (h : x ∈ L) : ∃ j, j < L.length ∧ L.getD j 0 = x := by
  obtain ⟨j, hj, e⟩ := List.mem_iff_getElem.mp h
  exact ⟨j, hj, by rw [zgetD_lt hj]; exact e⟩
theorem zgetD_mem {L : List Int} {j : Nat} (h : j < L.length) : L.getD j 0 ∈ L := by rw [zgetD_lt h]; exact List.getElem_mem h
theorem zsrt_eq : ∀ {S S' : List Int}, S.Pairwise (· < ·) → S'.Pairwise (· < ·) → (∀ x, x ∈ S ↔ x ∈ S') → S = S'
  | [], [], _, _, _ => rfl
  | [], b :: S', _, _, h => absurd ((h b).mpr List.mem_cons_self) List.not_mem_nil
  | a :: S, [], _, _, h => absurd ((h a).mp List.mem_cons_self) List.not_mem_nil
  | a :: S, b :: S', h1, h2, h => by
    have p1 := List.pairwise_cons.mp h1
    have p2 := List.pairwise_cons.mp h2
    have e : a = b := by
      rcases List.mem_cons.mp ((h a).mp List.mem_cons_self) with q | q
      · exact q
      · rcases List.mem_cons.mp ((h b).mpr List.mem_cons_self) with q' | q'
        · exact q'.symm
        · have := p2.1 a q
          have := p1.1 b q'
          omega
    subst e
    have : S = S' := zsrt_eq p1.2 p2.2 (fun x => ⟨fun hx => by
      rcases List.mem_cons.mp ((h x).mp (List.mem_cons_of_mem _ hx)) with q | q
      · have := p1.1 x hx
        omega
      · exact q, fun hx => by
      rcases List.mem_cons.mp ((h x).mpr (List.mem_cons_of_mem _ hx)) with q | q
      · have := p2.1 x hx
        omega
      · exact q⟩)
    rw [this]
/-- a sorted row of the class -/
def RowZ (h : MH) (x a : Nat) (T : List Int) : Prop := (kd h x = 9 ∧ mr h x 0 = a ∧ kd h a = 20 ∧ T.length ≤ ln h a ∧ ln h a ≤ 1000 ∧ x ≠ a) ∧ mi h x 1 = nI T.length ∧ (∀ j, j < T.length → (mi h a j).toInt = T.getD j 0) ∧ T.Pairwise (· < ·)
theorem RowZ.row {h : MH} {x a : Nat} {T : List Int} (r : RowZ h x a T) : RowAt h x T.length (fun j => T.getD j 0) := by
  obtain ⟨⟨r1, r2, r3, r4, r5, r6⟩, r7, r8, r9⟩ := r
  exact ⟨r1, by rw [r2]; exact r3, r7, by rw [r2]; exact r4, by omega, fun i hi => by rw [r2]; exact r8 i hi, fun i j h1 h2 => zsrt_lt r9 h1 h2⟩
theorem row_put {h : MH} {x a : Nat} {T : List Int} (r : RowZ h x a T) (lt : T.length < ln h a) (y : Int32) : SpI k_Row_put [.ref x, .int y] h (fun _ g => ∃ f' T', g = si h f' ∧ Fr [x, a] (mi h) f' ∧ RowZ g x a T' ∧ (∀ z, z ∈ T' ↔ z = y.toInt ∨ z ∈ T) ∧ T'.length ≤ T.length + 1) := by
  obtain ⟨⟨r1, r2, r3, r4, r5, r6⟩, r7, r8, r9⟩ := id r
  refine SpI.mono (sp_Row_put y r.row (by rw [r2]; exact r6) (by rw [r2]; exact r5)) ?_
  rw [r2]
  rintro b g (⟨_, e, k, hk, ek⟩ | ⟨nm, (⟨_, _, hn⟩ | ⟨_, hn, k, hk, lo, hi, f2, e, p1, p2⟩)⟩)
  · subst g
    exact ⟨mi h, T, rfl, Fr.refl, r, fun z => ⟨Or.inr, fun q => by
      rcases q with q | q
      · rw [q, ← ek]; exact zgetD_mem hk
      · exact q⟩, by omega⟩
  · omega
  · subst g
    obtain ⟨_, _, q1, _, _, q2, q3⟩ := p2
    have e2 : mr (si h f2) x 0 = a := r2
    rw [e2] at q2
    refine ⟨f2, zS (insF (fun j => T.getD j 0) k y.toInt) (T.length + 1), rfl, fun b hb => p1 b (fun q => hb (by rw [q]; exact List.mem_cons_self)) (fun q => hb (by rw [q, r2]; exact List.mem_cons_of_mem _ List.mem_cons_self)), ⟨⟨r1, r2, r3, by rw [zS_len]; exact hn, r5, r6⟩, by rw [zS_len]; exact q1, fun j hj => ?_, zS_srt q3⟩, fun z => ?_, by rw [zS_len]; exact Nat.le_refl _⟩
    · rw [zS_len] at hj
      rw [zS_getD hj]; exact q2 j hj
    · rw [zS_mem, insF_mem hk]
      refine ⟨fun q => ?_, fun q => ?_⟩
      · rcases q with q | ⟨i, hi, e⟩
        · exact Or.inl q
        · exact Or.inr (by rw [← e]; exact zgetD_mem hi)
      · rcases q with q | q
        · exact Or.inl q
        · exact Or.inr (zmem_getD q)
/-- where an operation takes a place -/
def mvV (c i x y z : Nat) : Int := eM c (3 * i) * x + eM c (3 * i + 1) * y + eM c (3 * i + 2) * z + eZ c i
def mvN (c i p : Nat) : Nat := (mvV c i (p / 576) (p / 24 % 24) (p % 24) % 24).toNat
def mvC (c p : Nat) : Nat := (mvN c 0 p * 24 + mvN c 1 p) * 24 + mvN c 2 p
theorem mvN_lt (c i p : Nat) : mvN c i p < 24 := by unfold mvN; omega
theorem mvC_lt (c p : Nat) : mvC c p < 13824 := by
  have := mvN_lt c 0 p; have := mvN_lt c 1 p; have := mvN_lt c 2 p
  unfold mvC; omega
theorem eM_ab (c j : Nat) (h : j < 9) : Ab (eM c j) 1 := by have := eM_small c j h; exact Ab.of (by omega) (by omega)
theorem mvV_ab {c i x y z : Nat} (hi : i < 3) (hx : x < 24) (hy : y < 24) (hz : z < 24) : Ab (mvV c i x y z) 92 := by
  have s := eZ_ok c i hi
  exact (((eM_ab c (3 * i) (by omega)).mul (Ab.of (a := 23) (by omega) (by omega) : Ab (x : Int) 23)).add ((eM_ab c (3 * i + 1) (by omega)).mul (Ab.of (a := 23) (by omega) (by omega) : Ab (y : Int) 23))).add ((eM_ab c (3 * i + 2) (by omega)).mul (Ab.of (a := 23) (by omega) (by omega) : Ab (z : Int) 23)) |>.add (Ab.of (a := 23) (by omega) (by omega))
theorem mvN_z {c i p : Nat} : mvV c i (p / 576) (p / 24 % 24) (p % 24) % 24 = (mvN c i p : Int) := by unfold mvN; omega
theorem sp_Motion_move {h : MH} {f : (Nat → Nat → Int32)} {l : (Nat → Nat → Int64)} {c p : Nat} (hm : MatAt f 37 (eM c)) (hs : ShAt f 38 (eZ c)) (hp : p < 13824) : SpI k_Motion_move [.ref 36, .int (nI p)] (sil h f l) (fun r g => g = sil h f l ∧ r = nI (mvC c p)) := by
  have step : ∀ (i t : Nat) (Rt : Value → MH → Prop), i < 3 → t < 576 → WM k_Motion_move p_Motion_move_1 [.ref 36, Jv, .int (nI (p / 576)), .int (nI (p / 24 % 24)), .int (nI (p % 24)), .int (nI (t * 24 + mvN c i p)), .int (nI (i + 1)), Jv] [] (sil h f l) 0 0 Rt →
      WM k_Motion_move p_Motion_move_1 [.ref 36, Jv, .int (nI (p / 576)), .int (nI (p / 24 % 24)), .int (nI (p % 24)), .int (nI t), .int (nI i), Jv] [] (sil h f l) 0 0 Rt := by
    intro i t Rt hi ht next
    have e0 : f 37 (3 * i) = zI (eM c (3 * i)) := of_toI (hm _ (by omega))
    have e1 : f 37 (3 * i + 1) = zI (eM c (3 * i + 1)) := of_toI (hm _ (by omega))
    have e2 : f 37 (3 * i + 2) = zI (eM c (3 * i + 2)) := of_toI (hm _ (by omega))
    have e3 : f 38 i = zI (eZ c i) := of_toI (hs _ hi)
    have ab := mvV_ab (c := c) hi (show p / 576 < 24 by omega) (show p / 24 % 24 < 24 by omega) (show p % 24 < 24 by omega)
    have b1 := ab.lo
    have b2 := ab.hi
    refine v_Motion_move_1 _ _ _ _ _ _ _ _ ?_
    simp (disch := omega) only [(show (0 : Int32) = nI 0 from rfl), (show (1 : Int32) = nI 1 from rfl), (show (2 : Int32) = nI 2 from rfl), (show (3 : Int32) = nI 3 from rfl), (show (24 : Int32) = nI 24 from rfl), (show (576 : Int32) = nI 576 from rfl), nI_add, nI_mul, nI_1, ix_nI, nI_toI, div_nI, irm_nI, InB_t, zI_add, zI_sub, zI_mul, zI_neg, nI_addZ, zI_addN, nI_mulZ, zI_mulN, nI_subZ, zI_subN, zI_toI, Int.cast_ofNat_Int, mi_sil, ml_sil, hn_sil, wi_sil, wl_sil, up2_ne, up2_s, true_and, and_true, forall_eq, true_implies, implies_true, forall_const, ne_eq, K9, R9_0, K10, L10, K20, R20_0, K21, L21, K23, R23_0, K24, L24, K26, R26_0, K27, L27, K30, R30_0, K31, L31, K33, R33_0, K34, L34, K36, R36_0, K37, L37, R9_1, K11, L11, R20_1, K22, L22, R23_1, K25, L25, R26_1, K28, L28, R30_1, K32, L32, R33_1, K35, L35, R36_1, K38, L38, e0, e1, e2, e3]
    refine ⟨fun _ => ?_, fun q => absurd (by omega) q⟩
    refine SpI.mono (sp_floorMod _ _ (by rw [nI_toI (by decide)]; decide)) ?_
    rintro r g0 ⟨e, er⟩
    subst g0
    rw [nI_toI (by decide)] at er
    have ev : (zI (eM c (3 * i) * ((p / 576 : Nat) : Int) + eM c (3 * i + 1) * ((p / 24 % 24 : Nat) : Int) + eM c (3 * i + 2) * ((p % 24 : Nat) : Int) + eZ c i)).toInt = mvV c i (p / 576) (p / 24 % 24) (p % 24) := zI_toI (by show _ ≤ mvV c i (p / 576) (p / 24 % 24) (p % 24); omega) (by show mvV c i (p / 576) (p / 24 % 24) (p % 24) < _; omega)
    rw [ev] at er
    have er2 : r = nI (mvN c i p) := by
      rw [of_toI er]
      show zI (mvV c i (p / 576) (p / 24 % 24) (p % 24) % 24) = _
      rw [mvN_z, zI_nat]
    rw [er2, nI_add]
    exact next
  have n0 := mvN_lt c 0 p
  have n1 := mvN_lt c 1 p
  refine v_Motion_move _ _ _ _ ?_
  rw [show (576 : Int32) = nI 576 from rfl, show (24 : Int32) = nI 24 from rfl, div_nI (by omega) (by decide) (by decide), div_nI (by omega) (by decide) (by decide), irm_nI (by omega) (by decide) (by decide), irm_nI (by omega) (by decide) (by decide)]
  refine step 0 0 _ (by decide) (by decide) (step 1 _ _ (by decide) (by omega) (step 2 _ _ (by decide) (by omega) ?_))
  refine v_Motion_move_1 _ _ _ _ _ _ _ _ ⟨fun q => absurd q (by decide), fun _ => ⟨_, rfl, rfl, ?_⟩⟩
  unfold mvC
  rw [Nat.zero_mul, Nat.zero_add]
theorem sp_Ref_taken {h : MH} {f : (Nat → Nat → Int32)} {l : (Nat → Nat → Int64)} {c p : Nat} (hc : cOK c) (hp : p < 13824) : SpI k_Ref_taken [.ref 54, .int (nI c), .int (nI p)] (sil h f l) (fun r g => r = nI (mvC c p) ∧ ∃ f', g = sil h f' l ∧ Fr [57, 58] f f') := by
  refine v_Ref_taken _ _ _ _ _ ⟨K54, ?_⟩
  rw [R54_3, R54_4]
  refine SpV.mono (open_ab hc) ?_
  rintro _ ⟨f', rfl, fr, hm, hs⟩
  have step : ∀ (i t : Nat) (Rt : Value → MH → Prop), i < 3 → t < 576 → WM k_Ref_taken p_Ref_taken_1 [.ref 54, Jv, Jv, .int (nI (p / 576)), .int (nI (p / 24 % 24)), .int (nI (p % 24)), .int (nI (t * 24 + mvN c i p)), .int (nI (i + 1)), Jv] [] (sil h f' l) 0 0 Rt →
      WM k_Ref_taken p_Ref_taken_1 [.ref 54, Jv, Jv, .int (nI (p / 576)), .int (nI (p / 24 % 24)), .int (nI (p % 24)), .int (nI t), .int (nI i), Jv] [] (sil h f' l) 0 0 Rt := by
    intro i t Rt hi ht next
    have e0 : f' 57 (3 * i) = zI (eM c (3 * i)) := of_toI (hm _ (by omega))
    have e1 : f' 57 (3 * i + 1) = zI (eM c (3 * i + 1)) := of_toI (hm _ (by omega))
    have e2 : f' 57 (3 * i + 2) = zI (eM c (3 * i + 2)) := of_toI (hm _ (by omega))
    have e3 : f' 58 i = zI (eZ c i) := of_toI (hs _ hi)
    have ab := mvV_ab (c := c) hi (show p / 576 < 24 by omega) (show p / 24 % 24 < 24 by omega) (show p % 24 < 24 by omega)
    have b1 := ab.lo
    have b2 := ab.hi
    have ev : irm (irm (zI (eM c (3 * i) * ((p / 576 : Nat) : Int) + eM c (3 * i + 1) * ((p / 24 % 24 : Nat) : Int) + eM c (3 * i + 2) * ((p % 24 : Nat) : Int) + eZ c i)) (nI 24) + nI 24) (nI 24) = nI (mvN c i p) := by
      have := irm_fm (x := mvV c i (p / 576) (p / 24 % 24) (p % 24)) (d := 24) (by omega) (by omega) (by decide) (by decide)
      refine this.trans ?_
      show zI (mvV c i (p / 576) (p / 24 % 24) (p % 24) % 24) = _
      rw [mvN_z, zI_nat]
    have ec : nI (24 * t + mvN c i p) = nI (t * 24 + mvN c i p) := by rw [Nat.mul_comm]
    refine v_Ref_taken_1 _ _ _ _ _ _ _ _ ?_
    simp (disch := omega) only [(show (0 : Int32) = nI 0 from rfl), (show (1 : Int32) = nI 1 from rfl), (show (2 : Int32) = nI 2 from rfl), (show (3 : Int32) = nI 3 from rfl), (show (24 : Int32) = nI 24 from rfl), (show (576 : Int32) = nI 576 from rfl), nI_add, nI_mul, nI_1, ix_nI, nI_toI, div_nI, irm_nI, InB_t, zI_add, zI_sub, zI_mul, zI_neg, nI_addZ, zI_addN, nI_mulZ, zI_mulN, nI_subZ, zI_subN, zI_toI, Int.cast_ofNat_Int, mi_sil, ml_sil, hn_sil, wi_sil, wl_sil, up2_ne, up2_s, true_and, and_true, forall_eq, true_implies, implies_true, forall_const, ne_eq, K54, R54_3, K57, L57, R54_4, K58, L58, e0, e1, e2, e3, ev, ec]
    exact ⟨fun _ => next, fun q => absurd (by omega) q⟩
  have n0 := mvN_lt c 0 p
  have n1 := mvN_lt c 1 p
  rw [show (576 : Int32) = nI 576 from rfl, show (24 : Int32) = nI 24 from rfl, div_nI (by omega) (by decide) (by decide), div_nI (by omega) (by decide) (by decide), irm_nI (by omega) (by decide) (by decide), irm_nI (by omega) (by decide) (by decide)]
  refine step 0 0 _ (by decide) (by decide) (step 1 _ _ (by decide) (by omega) (step 2 _ _ (by decide) (by omega) ?_))
  refine v_Ref_taken_1 _ _ _ _ _ _ _ _ ⟨fun q => absurd q (by decide), fun _ => ⟨_, rfl, ?_, f', rfl, fr⟩⟩
  unfold mvC
  rw [Nat.zero_mul, Nat.zero_add]
/-! orbits -/
def Orb (S : List Nat) (p : Nat) (T : List Int) : Prop := T.Pairwise (· < ·) ∧ ∀ z, z ∈ T ↔ ∃ c ∈ S, z = (mvC c p : Int)
def OrbK (S : List Nat) (p k : Nat) (T : List Int) : Prop := T.Pairwise (· < ·) ∧ (∀ z, z ∈ T ↔ ∃ j, j < k ∧ z = (mvC (S.getD j 0) p : Int)) ∧ T.length ≤ k
theorem OrbK.fin {S : List Nat} {p : Nat} {T : List Int} (h : OrbK S p S.length T) : Orb S p T := ⟨h.1, fun z => (h.2.1 z).trans ⟨fun ⟨j, hj, e⟩ => ⟨_, getD_mem hj, e⟩, fun ⟨c, hc, e⟩ => by
  obtain ⟨j, hj, ej⟩ := mem_getD hc
  exact ⟨j, hj, by rw [ej]; exact e⟩⟩⟩
theorem Orb.fn {S : List Nat} {p : Nat} {T T' : List Int} (h : Orb S p T) (h' : Orb S p T') : T = T' := zsrt_eq h.1 h'.1 (fun z => (h.2 z).trans (h'.2 z).symm)
theorem Orb.rng {S : List Nat} {p : Nat} {T : List Int} (h : Orb S p T) : ∀ z ∈ T, 0 ≤ z ∧ z < 13824 := fun z hz => by
  obtain ⟨c, _, e⟩ := (h.2 z).mp hz
  have := mvC_lt c p
  omega
theorem GrpB.same {h k : MH} {O : Nat → Nat} {t g : Nat} {S MK : List Nat} {A : List Nat} (b : GrpB h O t g S MK) (c : Kp A h k) (hA : ∀ a ∈ A, a < 99) : GrpB k O t g S MK := b.kp c (fun a ha => Or.inl (hA a ha)) (fun _ _ => rfl)
theorem sp_Ho_gatherOrbit {h : MH} {f : (Nat → Nat → Int32)} {l : (Nat → Nat → Int64)} {O : Nat → Nat} {t g p : Nat} {S MK : List Nat} (H : SS h) (ok : GOk S) (b : GrpB (sil h f l) O t g S MK) (hp : p < 13824) : SpV k_Ho_gatherOrbit [.ref 5, .ref g, .int (nI p)] (sil h f l) (fun k => ∃ f' T, k = sil h f' l ∧ Fr [37, 38, 39, 40] f f' ∧ RowZ k 39 40 T ∧ Orb S p T ∧ T.length ≤ 192) := by
  have w := ok.2.1
  have main : ∀ d k (f1 : (Nat → Nat → Int32)) (T : List Int), S.length - k = d → k ≤ S.length → Fr [37, 38, 39, 40] f f1 → RowZ (sil h f1 l) 39 40 T → OrbK S p k T →
      WM k_Ho_gatherOrbit p_Ho_gatherOrbit_1 [.ref 5, .ref g, .int (nI p), .int (nI k)] [] (sil h f1 l) 0 0 (fun _ k => ∃ f' T, k = sil h f' l ∧ Fr [37, 38, 39, 40] f f' ∧ RowZ k 39 40 T ∧ Orb S p T ∧ T.length ≤ 192) := by
    intro d
    induction d with
    | zero =>
      intro k f1 T hd hk fr rz ob
      have e : k = S.length := by omega
      subst e
      have b' := b.same (Kp.si2 H fr Fr.refl) (by decide)
      refine v_Ho_gatherOrbit_1 _ _ _ _ _ _ ⟨b'.2.1.1, ?_⟩
      rw [b'.2.1.2.1, b'.2.2.1.2.2, nI_toI (by omega)]
      exact ⟨b'.2.2.1.1, fun c => absurd c (by omega), fun _ => ⟨f1, T, rfl, fr, rz, ob.fin, by have := ob.2.2; omega⟩⟩
    | succ d ih =>
      intro k f1 T hd hk fr rz ob
      have kl : k < S.length := by omega
      have b' := b.same (Kp.si2 H fr Fr.refl) (by decide)
      refine v_Ho_gatherOrbit_1 _ _ _ _ _ _ ⟨b'.2.1.1, ?_⟩
      rw [b'.2.1.2.1, b'.2.2.1.2.2, b'.2.2.1.2.1, nI_toI (by omega), nI_toI (by omega), ix_nI (by omega), b'.2.2.2.1.2.2 k kl, R5_9]
      refine ⟨b'.2.2.1.1, fun _ => ⟨Kd5, b'.2.2.2.1.1, by rw [b'.2.2.2.1.2.1]; exact InB_nI kl (by omega), K36, SpV.mono (open_done (ok.c _ (getD_mem kl))) ?_⟩, fun c => absurd (by omega) c⟩
      rintro _ ⟨f2, rfl, fr2, m, s⟩
      rw [R5_9, R5_10]
      refine ⟨Kd5, K36, SpI.mono (sp_Motion_move m s hp) ?_⟩
      rintro r g0 ⟨e0, rfl⟩
      subst g0
      have mb := mvC_lt (S.getD k 0) p
      have rz2 : RowZ (sil h f2 l) 39 40 T := ⟨rz.1, by rw [mi_sil, fr2 39 (by decide)]; exact rz.2.1, fun j hj => by rw [mi_sil, fr2 40 (by decide)]; exact rz.2.2.1 j hj, rz.2.2.2⟩
      refine ⟨K39, SpI.mono (row_put rz2 (by have := ob.2.2; show T.length < 384; omega) _) ?_⟩
      rintro r g0 ⟨f3, T', e3, fr3, rz3, mem, len⟩
      rw [si_sil] at e3
      subst g0
      rw [nI_1]
      have ob2 := ob.2.2
      refine ih (k + 1) f3 T' (by omega) (by omega) ((fr.trans (fr2.mono (by decide))).trans (Fr.mono fr3 (by decide))) rz3 ⟨rz3.2.2.2, fun z => ?_, by omega⟩
      rw [mem z, nI_toI (by omega), ob.2.1 z]
      constructor
      · rintro (q | ⟨j, hj, e⟩)
        · exact ⟨k, by omega, q⟩
        · exact ⟨j, by omega, e⟩
      · rintro ⟨j, hj, e⟩
        by_cases q : j = k
        · subst q; exact Or.inl e
        · exact Or.inr ⟨j, by omega, e⟩
  refine v_Ho_gatherOrbit _ _ _ _ _ ⟨Kd5, ?_⟩
  rw [R5_10]
  refine ⟨K39, v_Row_clear _ _ _ ⟨K39, ?_⟩⟩
  rintro _ rfl
  rw [wi_sil]
  refine main _ 0 (up2 f 39 1 0) [] rfl (Nat.zero_le _) (Fr.refl.up (by decide)) ⟨⟨K39, R39_0, K40, Nat.zero_le _, by show 384 ≤ 1000; decide, by decide⟩, ?_, fun j hj => absurd hj (Nat.not_lt_zero j), List.Pairwise.nil⟩ ⟨List.Pairwise.nil, fun z => ⟨fun q => absurd q List.not_mem_nil, fun ⟨j, hj, _⟩ => absurd hj (Nat.not_lt_zero j)⟩, Nat.zero_le _⟩
  rw [mi_sil, up2_s]
  rfl
