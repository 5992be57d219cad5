/-! waves of a group -/
theorem sub_lenG {α : Type} [DecidableEq α] : ∀ (L M : List α), L.Nodup → (∀ x ∈ L, x ∈ M) → L.length ≤ M.length
  | [], _, _, _ => Nat.zero_le _
  | x :: L, M, hn, h => by
    have hn' := List.nodup_cons.mp hn
    have hx : x ∈ M := h x List.mem_cons_self
    have := sub_lenG L (M.erase x) hn'.2 (fun y hy => (List.mem_erase_of_ne (fun e => hn'.1 (by rw [← e]; exact hy))).mpr (h y (List.mem_cons_of_mem _ hy)))
    rw [List.length_erase_of_mem hx] at this
    have := List.length_pos_of_mem hx
    simp only [List.length_cons]
    omega
theorem len_eqG {α : Type} [DecidableEq α] {L M : List α} (h1 : L.Nodup) (h2 : M.Nodup) (h : ∀ x, x ∈ L ↔ x ∈ M) : L.length = M.length :=
  Nat.le_antisymm (sub_lenG L M h1 (fun x hx => (h x).mp hx)) (sub_lenG M L h2 (fun x hx => (h x).mpr hx))
theorem gGet {α : Type} {d : α} {L : List α} {j : Nat} (h : j < L.length) : L.getD j d = L[j] := by
  rw [List.getD_eq_getElem?_getD, List.getElem?_eq_getElem h]
  rfl
theorem gMem {α : Type} {d : α} {L : List α} {j : Nat} (h : j < L.length) : L.getD j d ∈ L := by rw [gGet h]; exact List.getElem_mem h
theorem gEx {α : Type} {d : α} {L : List α} {x : α} (h : x ∈ L) : ∃ j, j < L.length ∧ L.getD j d = x := by
  obtain ⟨j, hj, e⟩ := List.mem_iff_getElem.mp h
  exact ⟨j, hj, by rw [gGet hj]; exact e⟩
theorem gLeft {α : Type} {d : α} {L N : List α} {j : Nat} (h : j < L.length) : (L ++ N).getD j d = L.getD j d := by
  rw [List.getD_eq_getElem?_getD, List.getD_eq_getElem?_getD, List.getElem?_append_left h]
theorem gEnd {α : Type} {d : α} {L : List α} {x : α} : (L ++ [x]).getD L.length d = x := by
  rw [List.getD_eq_getElem?_getD, List.getElem?_append_right (Nat.le_refl _), Nat.sub_self]
  rfl
abbrev V3 : Type := Int × Int × Int
def wB (v : V3) (n : Nat) : Prop := (-(n : Int) ≤ v.1 ∧ v.1 ≤ n) ∧ (-(n : Int) ≤ v.2.1 ∧ v.2.1 ≤ n) ∧ (-(n : Int) ≤ v.2.2 ∧ v.2.2 ≤ n)
def wN (v : V3) : V3 := (-v.1, -v.2.1, -v.2.2)
def wc (v : V3) : Int := (v.1 * 361 + v.2.1) * 361 + v.2.2
def rc (v : V3) : Int := (v.1 + 200) * 160801 + (v.2.1 + 200) * 401 + v.2.2 + 200
theorem wc_inj {v w : V3} (hv : wB v 180) (hw : wB w 180) (h : wc v = wc w) : v = w := by
  obtain ⟨a, b, c⟩ := v
  obtain ⟨a', b', c'⟩ := w
  unfold wc at h
  unfold wB at hv hw
  simp only at h hv hw
  have h1 : a = a' := by omega
  have h2 : b = b' := by omega
  have h3 : c = c' := by omega
  rw [h1, h2, h3]
theorem rc_inj {v w : V3} (hv : wB v 180) (hw : wB w 180) (h : rc v = rc w) : v = w := by
  obtain ⟨a, b, c⟩ := v
  obtain ⟨a', b', c'⟩ := w
  unfold rc at h
  unfold wB at hv hw
  simp only at h hv hw
  have h1 : a = a' := by omega
  have h2 : b = b' := by omega
  have h3 : c = c' := by omega
  rw [h1, h2, h3]
theorem wc_neg (v : V3) : wc (wN v) = -wc v := by unfold wc wN; simp only; omega
theorem wN_b {v : V3} {n : Nat} (h : wB v n) : wB (wN v) n := by unfold wB wN at *; simp only; omega
theorem wc_rng {v : V3} (h : wB v 180) : -23600000 ≤ wc v ∧ wc v ≤ 23600000 := by unfold wB at h; unfold wc; omega
/-- where an operation takes a wave, and by which turn -/
def cwj (c : Nat) (v : V3) (j : Nat) : Int := v.1 * eM c j + v.2.1 * eM c (3 + j) + v.2.2 * eM c (6 + j)
def cw (c : Nat) (v : V3) : V3 := (cwj c v 0, cwj c v 1, cwj c v 2)
def wtZ (c : Nat) (v : V3) : Int := v.1 * eZ c 0 + v.2.1 * eZ c 1 + v.2.2 * eZ c 2
def wt (c : Nat) (v : V3) : Nat := (wtZ c v % 24).toNat
theorem wt_lt (c : Nat) (v : V3) : wt c v < 24 := by unfold wt; omega
theorem cwj_b {c j : Nat} {v : V3} (h : wB v 60) (hj : j < 3) : Ab (cwj c v j) 180 :=
  ((Ab.of (a := 60) h.1.1 h.1.2).mul (eM_ab c j (by omega))).add ((Ab.of (a := 60) h.2.1.1 h.2.1.2).mul (eM_ab c (3 + j) (by omega))) |>.add ((Ab.of (a := 60) h.2.2.1 h.2.2.2).mul (eM_ab c (6 + j) (by omega)))
theorem cw_b {c : Nat} {v : V3} (h : wB v 60) : wB (cw c v) 180 := by
  have a := cwj_b (c := c) h (show 0 < 3 by decide); have b := cwj_b (c := c) h (show 1 < 3 by decide); have d := cwj_b (c := c) h (show 2 < 3 by decide)
  exact ⟨⟨a.lo, a.hi⟩, ⟨b.lo, b.hi⟩, ⟨d.lo, d.hi⟩⟩
theorem eZ_ab (c j : Nat) (h : j < 3) : Ab (eZ c j) 23 := by have := eZ_ok c j h; exact Ab.of (by omega) (by omega)
theorem wtZ_b {c : Nat} {v : V3} (h : wB v 60) : Ab (wtZ c v) 4140 :=
  ((Ab.of (a := 60) h.1.1 h.1.2).mul (eZ_ab c 0 (by decide))).add ((Ab.of (a := 60) h.2.1.1 h.2.1.2).mul (eZ_ab c 1 (by decide))) |>.add ((Ab.of (a := 60) h.2.2.1 h.2.2.2).mul (eZ_ab c 2 (by decide)))
noncomputable def abK (S : List Nat) (v : V3) : Nat → Int32
  | 0 => 0
  | k + 1 => @ite _ (cw (S.getD k 0) v = v ∧ wt (S.getD k 0) v ≠ 0) (Classical.propDecidable _) 1 (abK S v k)
noncomputable def fxK (S : List Nat) (v : V3) : Nat → Int32
  | 0 => -1
  | k + 1 => @ite _ (cw (S.getD k 0) v = wN v ∧ fxK S v k = -1) (Classical.propDecidable _) (nI (wt (S.getD k 0) v)) (fxK S v k)
theorem abK_y {S : List Nat} {v : V3} {k : Nat} (h : cw (S.getD k 0) v = v ∧ wt (S.getD k 0) v ≠ 0) : abK S v (k + 1) = 1 := if_pos h
theorem abK_n {S : List Nat} {v : V3} {k : Nat} (h : ¬ (cw (S.getD k 0) v = v ∧ wt (S.getD k 0) v ≠ 0)) : abK S v (k + 1) = abK S v k := if_neg h
theorem fxK_y {S : List Nat} {v : V3} {k : Nat} (h : cw (S.getD k 0) v = wN v ∧ fxK S v k = -1) : fxK S v (k + 1) = nI (wt (S.getD k 0) v) := if_pos h
theorem fxK_n {S : List Nat} {v : V3} {k : Nat} (h : ¬ (cw (S.getD k 0) v = wN v ∧ fxK S v k = -1)) : fxK S v (k + 1) = fxK S v k := if_neg h
def StK (S : List Nat) (v : V3) (k : Nat) (z : Int) : Prop := ∃ j, j < k ∧ (z = wc (cw (S.getD j 0) v) ∨ z = -wc (cw (S.getD j 0) v))
def WvV (S : List Nat) (v : V3) (w r : Int32) : Prop := (w = 0 ∧ r = abK S v S.length) ∨ (w = 1 ∧ ∃ T : List Int, T.Nodup ∧ (∀ z, z ∈ T ↔ StK S v S.length z) ∧ r = nI T.length) ∨ (w ≠ 0 ∧ w ≠ 1 ∧ r = fxK S v S.length)
theorem WvV.fn {S : List Nat} {v : V3} {w r r' : Int32} (h : WvV S v w r) (h' : WvV S v w r') : r = r' := by
  rcases h with ⟨rfl, rfl⟩ | ⟨rfl, T, n, m, rfl⟩ | ⟨n0, n1, rfl⟩
  · rcases h' with ⟨_, rfl⟩ | ⟨e, _⟩ | ⟨n, _⟩
    · rfl
    · exact absurd e (by decide)
    · exact absurd rfl n
  · rcases h' with ⟨e, _⟩ | ⟨_, T', n', m', rfl⟩ | ⟨_, n, _⟩
    · exact absurd e (by decide)
    · rw [len_eqG n n' (fun z => (m z).trans (m' z).symm)]
    · exact absurd rfl n
  · rcases h' with ⟨e, _⟩ | ⟨e, _⟩ | ⟨_, _, rfl⟩
    · exact absurd e n0
    · exact absurd e n1
    · rfl
theorem sp_column {h : MH} {f : (Nat → Nat → Int32)} {l : (Nat → Nat → Int64)} {c j : Nat} {v : V3} (m : MatAt f 37 (eM c)) (hj : j < 3) : SpI k_Motion_column [.ref 36, .int (nI j), .int (zI v.1), .int (zI v.2.1), .int (zI v.2.2)] (sil h f l) (fun r g => g = sil h f l ∧ r = zI (cwj c v j)) := by
  have e0 : f 37 j = zI (eM c j) := of_toI (m _ (by omega))
  have e1 : f 37 (3 + j) = zI (eM c (3 + j)) := of_toI (m _ (by omega))
  have e2 : f 37 (6 + j) = zI (eM c (6 + j)) := of_toI (m _ (by omega))
  refine v_Motion_column _ _ _ _ _ _ _ ?_
  simp (disch := omega) only [(show (3 : Int32) = nI 3 from rfl), (show (6 : Int32) = nI 6 from rfl), nI_add, nI_mul, nI_1, ix_nI, nI_toI, div_nI, irm_nI, InB_t, zI_add, zI_sub, zI_mul, zI_neg, nI_addZ, zI_addN, nI_mulZ, zI_mulN, nI_subZ, zI_subN, zI_toI, Int.cast_ofNat_Int, mi_sil, ml_sil, hn_sil, wi_sil, wl_sil, up2_ne, up2_s, true_and, and_true, forall_eq, true_implies, implies_true, forall_const, ne_eq, K9, R9_0, K10, L10, K20, R20_0, K21, L21, K23, R23_0, K24, L24, K26, R26_0, K27, L27, K30, R30_0, K31, L31, K33, R33_0, K34, L34, K36, R36_0, K37, L37, e0, e1, e2]
  exact ⟨_, rfl, rfl⟩
theorem sp_turn {h : MH} {f : (Nat → Nat → Int32)} {l : (Nat → Nat → Int64)} {c : Nat} {v : V3} (s : ShAt f 38 (eZ c)) (hv : wB v 60) : SpI k_Motion_turn [.ref 36, .int (zI v.1), .int (zI v.2.1), .int (zI v.2.2)] (sil h f l) (fun r g => g = sil h f l ∧ r = nI (wt c v)) := by
  have e0 : f 38 0 = zI (eZ c 0) := of_toI (s _ (by omega))
  have e1 : f 38 1 = zI (eZ c 1) := of_toI (s _ (by omega))
  have e2 : f 38 2 = zI (eZ c 2) := of_toI (s _ (by omega))
  have b := wtZ_b (c := c) hv
  have b1 := b.lo
  have b2 := b.hi
  refine v_Motion_turn _ _ _ _ _ _ ?_
  simp (disch := omega) only [(show (0 : Int32) = nI 0 from rfl), (show (1 : Int32) = nI 1 from rfl), (show (2 : Int32) = nI 2 from rfl), (show (24 : Int32) = nI 24 from rfl), nI_add, nI_mul, nI_1, ix_nI, nI_toI, div_nI, irm_nI, InB_t, zI_add, zI_sub, zI_mul, zI_neg, nI_addZ, zI_addN, nI_mulZ, zI_mulN, nI_subZ, zI_subN, zI_toI, Int.cast_ofNat_Int, mi_sil, ml_sil, hn_sil, wi_sil, wl_sil, up2_ne, up2_s, true_and, and_true, forall_eq, true_implies, implies_true, forall_const, ne_eq, K9, R9_1, K11, L11, K20, R20_1, K22, L22, K23, R23_1, K25, L25, K26, R26_1, K28, L28, K30, R30_1, K32, L32, K33, R33_1, K35, L35, K36, R36_1, K38, L38, e0, e1, e2]
  refine SpI.mono (sp_floorMod _ _ (by rw [nI_toI (by decide)]; decide)) ?_
  rintro r g0 ⟨e, er⟩
  subst g0
  have ev : (zI (v.1 * eZ c 0 + v.2.1 * eZ c 1 + v.2.2 * eZ c 2)).toInt = wtZ c v := zI_toI (by show _ ≤ wtZ c v; omega) (by show wtZ c v < _; omega)
  rw [ev, nI_toI (by decide)] at er
  refine ⟨_, rfl, rfl, ?_⟩
  rw [of_toI er]
  show zI (wtZ c v % 24) = _
  rw [← zI_nat]
  unfold wt
  congr 1
  omega
theorem sp_waveCode {h : MH} {v : V3} : SpI k_Ho_waveCode [.int (zI v.1), .int (zI v.2.1), .int (zI v.2.2)] h (fun r g => g = h ∧ r = zI (wc v)) := by
  refine v_Ho_waveCode _ _ _ _ _ ⟨_, rfl, rfl, ?_⟩
  rw [show (361 : Int32) = zI 361 from rfl, zI_mul, zI_add, zI_mul, zI_add]
  rfl
theorem isW {v : V3} (h : wB v 60) : (zI v.1).toInt = v.1 ∧ (zI v.2.1).toInt = v.2.1 ∧ (zI v.2.2).toInt = v.2.2 := by
  unfold wB at h
  exact ⟨zI_toI (by omega) (by omega), zI_toI (by omega) (by omega), zI_toI (by omega) (by omega)⟩
/-- three numbers, and whether they are a wave -/
theorem sp_Ho_isWave {h : MH} (x y z : Int32) : SpI k_Ho_isWave [.int x, .int y, .int z] h (fun r g => g = h ∧ ((r = 1 ∧ wB (x.toInt, y.toInt, z.toInt) 60) ∨ (r = 0 ∧ ¬ wB (x.toInt, y.toInt, z.toInt) 60))) := by
  have t1 : (-60 : Int32).toInt = -60 := rfl
  have t2 : (60 : Int32).toInt = 60 := rfl
  refine v_Ho_isWave _ _ _ _ _ ?_
  rw [t1, t2]
  unfold wB
  exact ⟨fun c => ⟨_, rfl, rfl, Or.inr ⟨rfl, fun q => by simp only at q; omega⟩⟩, fun a1 => ⟨fun c => ⟨_, rfl, rfl, Or.inr ⟨rfl, fun q => by simp only at q; omega⟩⟩, fun a2 => ⟨fun c => ⟨_, rfl, rfl, Or.inr ⟨rfl, fun q => by simp only at q; omega⟩⟩, fun a3 => ⟨fun c => ⟨_, rfl, rfl, Or.inr ⟨rfl, fun q => by simp only at q; omega⟩⟩, fun a4 => ⟨fun c => ⟨_, rfl, rfl, Or.inr ⟨rfl, fun q => by simp only at q; omega⟩⟩, fun a5 => ⟨fun c => ⟨_, rfl, rfl, Or.inr ⟨rfl, fun q => by simp only at q; omega⟩⟩, fun a6 => ⟨_, rfl, rfl, Or.inl ⟨rfl, by simp only; omega⟩⟩⟩⟩⟩⟩⟩⟩
theorem sp_Ref_isWave {h : MH} (x y z : Int32) : SpI k_Ref_isWave [.int x, .int y, .int z] h (fun r g => g = h ∧ ((r = 1 ∧ wB (x.toInt, y.toInt, z.toInt) 60) ∨ (r = 0 ∧ ¬ wB (x.toInt, y.toInt, z.toInt) 60))) := by
  have t1 : (-60 : Int32).toInt = -60 := rfl
  have t2 : (60 : Int32).toInt = 60 := rfl
  refine v_Ref_isWave _ _ _ _ _ ?_
  rw [t1, t2]
  unfold wB
  exact ⟨fun c => ⟨_, rfl, rfl, Or.inr ⟨rfl, fun q => by simp only at q; omega⟩⟩, fun a1 => ⟨fun c => ⟨_, rfl, rfl, Or.inr ⟨rfl, fun q => by simp only at q; omega⟩⟩, fun a2 => ⟨fun c => ⟨_, rfl, rfl, Or.inr ⟨rfl, fun q => by simp only at q; omega⟩⟩, fun a3 => ⟨fun c => ⟨_, rfl, rfl, Or.inr ⟨rfl, fun q => by simp only at q; omega⟩⟩, fun a4 => ⟨fun c => ⟨_, rfl, rfl, Or.inr ⟨rfl, fun q => by simp only at q; omega⟩⟩, fun a5 => ⟨fun c => ⟨_, rfl, rfl, Or.inr ⟨rfl, fun q => by simp only at q; omega⟩⟩, fun a6 => ⟨_, rfl, rfl, Or.inl ⟨rfl, by simp only; omega⟩⟩⟩⟩⟩⟩⟩⟩
