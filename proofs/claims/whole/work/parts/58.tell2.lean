/-! the text of an operation, whole -/
def bI (b : Bool) : Int32 := if b then 1 else 0
theorem c_oneLetter {h : MH} {f0 f : (Nat → Nat → Int32)} {l : (Nat → Nat → Int64)} {L : List Nat} {c i k : Nat} {b : Bool} {Rt : Value → MH → Prop} (hi : i < 3) (hk : k < 3) (F : FW f0 f) (hm : MatAt f0 37 (eM c)) (ho : OutC f L) (hL : L.length < 46)
    (nx : ∀ f', FW f0 f' → OutC f' (L ++ oneL (eM c (3 * i + k)) k b) → WM k_Scribe_writeLetters p_Scribe_writeLetters_1 [.ref 6, .ref 36, .int (nI i), .int (bI (b && z1 (eM c (3 * i + k)))), .int (nI (k + 1)), Jv] [] (sil h f' l) 0 0 Rt) :
    WM k_Scribe_writeLetters p_Scribe_writeLetters_1 [.ref 6, .ref 36, .int (nI i), .int (bI b), .int (nI k), Jv] [] (sil h f l) 0 0 Rt := by
  have sm := eM_small c (3 * i + k) (by omega)
  have e37 : mi (sil h f l) 37 (3 * i + k) = zI (eM c (3 * i + k)) := by rw [mi_sil, F.1 37 (by decide)]; exact of_toI (hm _ (by omega))
  generalize eM c (3 * i + k) = v at *
  have tv : (zI v).toInt = v := zI_toI (by omega) (by omega)
  have tk : (nI k).toInt = (k : Int) := nI_toI (by omega)
  have t3 : (3 : Int32).toInt = 3 := rfl
  have two : ∀ (L1 : List Nat) (f1 : (Nat → Nat → Int32)) (x3 : Int32), FW f0 f1 → OutC f1 L1 → L1.length < 48 → v ≠ 0 → L1 ++ [120 + k] = L ++ oneL v k b → WM k_Scribe_writeLetters p_Scribe_writeLetters_2 [.ref 6, .ref 36, .int (nI i), .int x3, .int (nI k), .int (zI v)] [] (sil h f1 l) 0 0 Rt := by
    intro L1 f1 x3 F1 o1 hl nv el
    refine v_Scribe_writeLetters_2 _ _ _ _ _ _ _ _ ⟨fun w => absurd ?_ nv, fun _ => ⟨K6, ?_⟩⟩
    · have e := congrArg Int32.toInt w
      rw [tv] at e; exact e
    · rw [show (120 : Int32) + nI k = nI (120 + k) from nI_add 120 k]
      refine SpV.mono (c_chr (by omega) o1 hl) ?_
      rintro _ ⟨f2, rfl, F2, o2⟩
      rw [el] at o2
      have q := nx f2 (F1.trans F2) o2
      rw [show z1 v = false from decide_eq_false nv, Bool.and_false] at q
      rw [nI_1]
      exact q
  refine v_Scribe_writeLetters_1 _ _ _ _ _ _ _ ⟨fun _ => ⟨K36, ?_⟩, fun w => absurd (by rw [tk, t3]; omega) w⟩
  rw [R36_0, show (3 : Int32) * nI i = nI (3 * i) from nI_mul 3 i, nI_add, ix_nI (by omega), e37, tv]
  refine ⟨K37, InB_nI (show 3 * i + k < 9 by omega) (by omega), fun w => ⟨K6, SpV.mono (c_chr (x := 45) (by decide) ho (by omega)) ?_⟩, fun w1 => ⟨fun w2 => ⟨fun w3 => ⟨K6, SpV.mono (c_chr (x := 43) (by decide) ho (by omega)) ?_⟩, fun w3 => ?_⟩, fun w2 => ?_⟩⟩
  · rintro _ ⟨f1, rfl, F1, o1⟩
    refine two _ f1 _ (F.trans F1) o1 (by rw [List.length_append]; show L.length + 1 < 48; omega) (by omega) ?_
    unfold oneL
    rw [if_neg (by omega), if_pos w, List.append_assoc]
  · rintro _ ⟨f1, rfl, F1, o1⟩
    refine two _ f1 _ (F.trans F1) o1 (by rw [List.length_append]; show L.length + 1 < 48; omega) (by omega) ?_
    have hb : b = false := by
      cases b with
      | false => rfl
      | true => exact absurd w3 (by decide)
    unfold oneL
    rw [if_neg (by omega), if_neg w1, hb, List.append_assoc]
    rfl
  · have hb : b = true := by
      cases b with
      | false => exact absurd rfl w3
      | true => rfl
    refine two L f _ F ho (by omega) (by omega) ?_
    unfold oneL
    rw [if_neg (by omega), if_neg w1, hb]
    rfl
  · have v0 : v = 0 := by omega
    refine v_Scribe_writeLetters_2 _ _ _ _ _ _ _ _ ⟨fun _ => ?_, fun w => absurd (by rw [v0]; rfl) w⟩
    have q := nx f F (by unfold oneL; rw [if_pos v0, List.append_nil]; exact ho)
    rw [show z1 v = true from decide_eq_true v0, Bool.and_true] at q
    rw [nI_1]
    exact q
theorem c_letters {h : MH} {f0 f : (Nat → Nat → Int32)} {l : (Nat → Nat → Int64)} {L : List Nat} {c i : Nat} (hi : i < 3) (F : FW f0 f) (hm : MatAt f0 37 (eM c)) (ho : OutC f L) (hL : L.length < 42) :
    SpV k_Scribe_writeLetters [.ref 6, .ref 36, .int (nI i)] (sil h f l) (fun g => ∃ f', g = sil h f' l ∧ FW f0 f' ∧ OutC f' (L ++ letL (eM c) i)) := by
  have h1 := oneL_len (eM c (3 * i + 0)) 0 true
  refine v_Scribe_writeLetters _ _ _ _ _ ?_
  refine c_oneLetter (b := true) (k := 0) hi (by decide) F hm ho (by omega) ?_
  intro f1 F1 o1
  rw [Bool.true_and]
  have h2 := oneL_len (eM c (3 * i + 1)) 1 (z1 (eM c (3 * i + 0)))
  refine c_oneLetter (k := 1) hi (by decide) F1 hm o1 (by rw [List.length_append]; omega) ?_
  intro f2 F2 o2
  refine c_oneLetter (k := 2) hi (by decide) F2 hm o2 (by rw [List.length_append, List.length_append]; omega) ?_
  intro f3 F3 o3
  refine v_Scribe_writeLetters_1 _ _ _ _ _ _ _ ⟨fun w => absurd w (by decide), fun _ => ⟨f3, rfl, F3, ?_⟩⟩
  unfold letL
  rw [List.append_assoc, List.append_assoc] at o3
  rw [List.append_assoc]
  exact o3
theorem gcd_b {s : Nat} (hs : s < 24) (h0 : s ≠ 0) : 0 < Nat.gcd 24 s ∧ Nat.gcd 24 s ≤ 24 := ⟨Nat.gcd_pos_of_pos_left _ (by decide), Nat.gcd_le_left _ (by decide)⟩
theorem l2i_z {n : Nat} (hn : n < 1000000) : (zL (n : Int)).toInt32 = nI n := by
  rw [nI_zI]
  show (Int64.ofInt n).toInt32 = Int32.ofInt n
  rw [Int64.toInt32_ofInt]
theorem c_shift {h : MH} {f0 f : (Nat → Nat → Int32)} {l : (Nat → Nat → Int64)} {L : List Nat} {s : Nat} (hs : s < 24) (F : FW f0 f) (ho : OutC f L) (hL : L.length < 42) :
    SpV k_Scribe_writeShift [.ref 6, .int (nI s)] (sil h f l) (fun g => ∃ f', g = sil h f' l ∧ FW f0 f' ∧ OutC f' (L ++ shL s)) := by
  have e0 : (nI s = 0) = (s = 0) := nI_inj (y := 0) (by omega) (by decide)
  refine v_Scribe_writeShift _ _ _ _ ?_
  rw [e0]
  refine ⟨fun w => ⟨f, rfl, F, by unfold shL; rw [if_pos w, List.append_nil]; exact ho⟩, fun w => ?_⟩
  have gb := gcd_b hs w
  have el : (nI s).toInt64 = zL (s : Int) := by rw [i2l_z, nI_toI (by omega)]
  rw [el]
  refine SpL.mono (c_common (h := sil h f l) (a := s) (b := 24) (by omega) (by decide) (by omega)) ?_
  rintro r g ⟨e, er⟩
  subst g er
  rw [Nat.gcd_comm s 24, l2i_z (by omega)]
  refine ⟨K6, SpV.mono (c_chr (x := 43) (by decide) ho (by omega)) ?_⟩
  rintro _ ⟨f1, rfl, F1, o1⟩
  rw [show (24 : Int32) = nI 24 from rfl, div_nI (by omega) (by omega) (by omega), div_nI (by omega) (by omega) (by omega)]
  have q1 : s / Nat.gcd 24 s ≤ s := Nat.div_le_self _ _
  have q2 : 24 / Nat.gcd 24 s ≤ 24 := Nat.div_le_self _ _
  have n1 := numL_len (s / Nat.gcd 24 s)
  refine ⟨fun q => ?_, K6, SpV.mono (c_num (by omega) o1 (by rw [List.length_append]; show L.length + 1 < 46; omega)) ?_⟩
  · have := (nI_inj (x := Nat.gcd 24 s) (y := 0) (by omega) (by decide)).mp q
    omega
  rintro _ ⟨f2, rfl, F2, o2⟩
  refine ⟨K6, SpV.mono (c_chr (x := 47) (by decide) o2 (by rw [List.length_append, List.length_append]; show L.length + 1 + _ < 48; omega)) ?_⟩
  rintro _ ⟨f3, rfl, F3, o3⟩
  refine ⟨K6, SpV.mono (c_num (by omega) o3 (by rw [List.length_append, List.length_append, List.length_append]; show L.length + 1 + _ + 1 < 46; omega)) ?_⟩
  rintro _ ⟨f4, rfl, F4, o4⟩
  refine ⟨f4, rfl, F.trans (F1.trans (F2.trans (F3.trans F4))), ?_⟩
  unfold shL
  rw [if_neg w]
  simp only [List.append_assoc] at o4 ⊢
  exact o4
theorem c_row1 {h : MH} {f0 f : (Nat → Nat → Int32)} {l : (Nat → Nat → Int64)} {L : List Nat} {c i : Nat} {Rt : Value → MH → Prop} (hi : i < 3) (F : FW f0 f) (hm : MatAt f0 37 (eM c)) (hz : ShAt f0 38 (eZ c)) (ho : OutC f L) (hL : L.length < 36)
    (nx : ∀ f', FW f0 f' → OutC f' (L ++ rowT c i) → WM k_Scribe_write p_Scribe_write_1 [.ref 6, .ref 36, .int (nI (i + 1))] [] (sil h f' l) 0 0 Rt) :
    WM k_Scribe_write p_Scribe_write_2 [.ref 6, .ref 36, .int (nI i)] [] (sil h f l) 0 0 Rt := by
  refine v_Scribe_write_2 _ _ _ _ _ ⟨K6, SpV.mono (c_letters hi F hm ho (by omega)) ?_⟩
  rintro _ ⟨f1, rfl, F1, o1⟩
  have l1 := letL_len (eM c) i
  have e38 : mi (sil h f1 l) 38 (ix (nI i)) = nI (eS c i) := by
    rw [mi_sil, ix_nI (by omega), F1.1 38 (by decide), hz.z i hi, ← zI_nat]
    rfl
  rw [R36_1, e38, nI_1]
  refine ⟨K36, K38, InB_nI (show i < 3 from hi) (by omega), K6, SpV.mono (c_shift (eS_lt c i) F1 o1 (by rw [List.length_append]; omega)) ?_⟩
  rintro _ ⟨f2, rfl, F2, o2⟩
  rw [List.append_assoc] at o2
  exact nx f2 F2 o2
theorem sp_Scribe_write {h : MH} {f : (Nat → Nat → Int32)} {l : (Nat → Nat → Int64)} {c : Nat} (hm : MatAt f 37 (eM c)) (hz : ShAt f 38 (eZ c)) :
    SpI k_Scribe_write [.ref 6, .ref 36] (sil h f l) (fun r g => r = nI (tellL c).length ∧ ∃ f', g = sil h f' l ∧ FW f f' ∧ OutC f' (tellL c)) := by
  have l0 := rowT_len c 0
  have l1 := rowT_len c 1
  refine v_Scribe_write _ _ _ _ ⟨K6, ?_⟩
  rintro _ rfl
  rw [wi_sil]
  have F0 : FW f (up2 f 6 8 0) := ⟨Fr.refl.up (by decide), fun j hj => by rw [up2_ni hj]⟩
  have o0 : OutC (up2 f 6 8 0) [] := ⟨by rw [up2_s]; rfl, fun j hj => absurd hj (Nat.not_lt_zero j)⟩
  refine v_Scribe_write_1 _ _ _ _ _ ⟨fun _ => ⟨fun w => absurd w (by decide), fun _ => ?_⟩, fun w => absurd (by decide) w⟩
  refine c_row1 (i := 0) (by decide) F0 hm hz o0 (by decide) ?_
  intro f1 F1 o1
  rw [List.nil_append] at o1
  refine v_Scribe_write_1 _ _ _ _ _ ⟨fun _ => ⟨fun _ => ⟨K6, SpV.mono (c_chr (x := 44) (by decide) o1 (by omega)) ?_⟩, fun w => absurd (by decide) w⟩, fun w => absurd (by decide) w⟩
  rintro _ ⟨f2, rfl, F2, o2⟩
  refine c_row1 (i := 1) (by decide) (F1.trans F2) hm hz o2 (by rw [List.length_append]; show _ + 1 < 36; omega) ?_
  intro f3 F3 o3
  refine v_Scribe_write_1 _ _ _ _ _ ⟨fun _ => ⟨fun _ => ⟨K6, SpV.mono (c_chr (x := 44) (by decide) o3 (by rw [List.length_append, List.length_append]; show _ + 1 + _ < 48; omega)) ?_⟩, fun w => absurd (by decide) w⟩, fun w => absurd (by decide) w⟩
  rintro _ ⟨f4, rfl, F4, o4⟩
  refine c_row1 (i := 2) (by decide) (F3.trans F4) hm hz o4 (by rw [List.length_append, List.length_append, List.length_append]; show _ + 1 + _ + 1 < 36; omega) ?_
  intro f5 F5 o5
  have et : rowT c 0 ++ [44] ++ rowT c 1 ++ [44] ++ rowT c 2 = tellL c := by unfold tellL; simp only [List.append_assoc]
  rw [et] at o5
  refine v_Scribe_write_1 _ _ _ _ _ ⟨fun w => absurd w (by decide), fun _ => ⟨K6, _, rfl, ?_, f5, rfl, F5, o5⟩⟩
  rw [mi_sil]
  exact o5.1
/-! the reference tells -/
theorem r_oneLetter {h : MH} {f0 f : (Nat → Nat → Int32)} {l : (Nat → Nat → Int64)} {L B : List Nat} {c i k : Nat} {b : Bool} {Rt : Value → MH → Prop} (hi : i < 3) (hk : k < 3) (F : FV f0 f) (hm : MatAt f0 57 (eM c)) (ho : OutR f (B ++ L)) (hb : b = true ↔ L = []) (hL : (B ++ L).length < 46)
    (nx : ∀ f', FV f0 f' → OutR f' (B ++ (L ++ oneL (eM c (3 * i + k)) k b)) → WM k_Ref_tellOperation p_Ref_tellOperation_2 [.ref 54, Jv, .int (nI i), .int (nI B.length), .int (nI (k + 1)), Jv] [] (sil h f' l) 0 0 Rt) :
    WM k_Ref_tellOperation p_Ref_tellOperation_2 [.ref 54, Jv, .int (nI i), .int (nI B.length), .int (nI k), Jv] [] (sil h f l) 0 0 Rt := by
  have sm := eM_small c (3 * i + k) (by omega)
  have e57 : mi (sil h f l) 57 (3 * i + k) = zI (eM c (3 * i + k)) := by rw [mi_sil, F.1 57 (by decide)]; exact of_toI (hm _ (by omega))
  generalize eM c (3 * i + k) = v at *
  have tv : (zI v).toInt = v := zI_toI (by omega) (by omega)
  have tk : (nI k).toInt = (k : Int) := nI_toI (by omega)
  have t3 : (3 : Int32).toInt = 3 := rfl
  have ev : (zI v = 0) = (v = 0) := zI_inj (y := 0) (by omega) (by omega) (by decide) (by decide)
  rw [List.length_append] at hL
  have e14 : mi (sil h f l) 54 14 = nI (B.length + L.length) := by rw [mi_sil, ho.1, List.length_append]
  have tB : (nI B.length).toInt = (B.length : Int) := nI_toI (by omega)
  have t14 : (nI (B.length + L.length)).toInt = ((B.length + L.length : Nat) : Int) := nI_toI (by omega)
  have fin : ∀ (L1 : List Nat) (f1 : (Nat → Nat → Int32)), FV f0 f1 → OutR f1 L1 → L1.length < 60 → L1 ++ [120 + k] = B ++ (L ++ oneL v k b) → SpV k_Ref_say [.ref 54, .int ((120 : Int32) + nI k)] (sil h f1 l) (fun g13 => WM k_Ref_tellOperation p_Ref_tellOperation_2 [.ref 54, Jv, .int (nI i), .int (nI B.length), .int (nI k + 1), Jv] [] g13 0 0 Rt) := by
    intro L1 f1 F1 o1 hl el
    rw [show (120 : Int32) + nI k = nI (120 + k) from nI_add 120 k]
    refine SpV.mono (r_chr o1 hl) ?_
    rintro _ ⟨f2, rfl, F2, o2⟩
    rw [el] at o2
    rw [nI_1]
    exact nx f2 (F1.trans F2) o2
  refine v_Ref_tellOperation_2 _ _ _ _ _ _ ⟨fun _ => ⟨K54, ?_⟩, fun w => absurd (by rw [tk, t3]; omega) w⟩
  rw [R54_3, show (3 : Int32) * nI i = nI (3 * i) from nI_mul 3 i, nI_add, ix_nI (by omega), e57, tv, ev, e14, tB, t14]
  refine ⟨K57, InB_nI (show 3 * i + k < 9 by omega) (by omega), fun w => ?_, fun w => ⟨fun w1 => SpV.mono (r_chr (x := 45) ho (by rw [List.length_append]; omega)) ?_, fun w1 => ⟨fun w2 => SpV.mono (r_chr (x := 43) ho (by rw [List.length_append]; omega)) ?_, fun w2 => fin _ f F ho (by rw [List.length_append]; omega) ?_⟩⟩⟩
  · rw [nI_1]
    exact nx f F (by unfold oneL; rw [if_pos w, List.append_nil]; exact ho)
  · rintro _ ⟨f1, rfl, F1, o1⟩
    refine ⟨K54, fin _ f1 (F.trans F1) o1 (by rw [List.length_append, List.length_append]; show B.length + L.length + 1 < 60; omega) ?_⟩
    unfold oneL
    rw [if_neg w, if_pos w1]
    simp only [List.append_assoc]
  · rintro _ ⟨f1, rfl, F1, o1⟩
    refine ⟨K54, fin _ f1 (F.trans F1) o1 (by rw [List.length_append, List.length_append]; show B.length + L.length + 1 < 60; omega) ?_⟩
    have hf : b = false := by
      cases b with
      | false => rfl
      | true => have := hb.mp rfl; rw [this] at w2; simp at w2
    unfold oneL
    rw [if_neg w, if_neg w1, hf]
    simp only [List.append_assoc]
    rfl
  · have hL0 : L = [] := by
      cases L with
      | nil => rfl
      | cons x y => exact absurd (by simp only [List.length_cons]; omega) w2
    have ht := hb.mpr hL0
    unfold oneL
    rw [if_neg w, if_neg w1, ht, hL0]
    simp
theorem oneL_nil {v : Int} {k : Nat} {b : Bool} : oneL v k b = [] ↔ v = 0 := by
  unfold oneL
  constructor
  · intro h
    by_cases q : v = 0
    · exact q
    · rw [if_neg q] at h; simp at h
  · intro h; rw [if_pos h]
theorem row_nz {c i : Nat} (hi : i < 3) (hd : det9 (eM c) = 1 ∨ det9 (eM c) = -1) : letL (eM c) i ≠ [] := by
  intro h
  unfold letL at h
  rw [List.append_eq_nil_iff, List.append_eq_nil_iff, oneL_nil, oneL_nil, oneL_nil] at h
  obtain ⟨⟨h0, h1⟩, h2⟩ := h
  have : det9 (eM c) = 0 := by
    have : i = 0 ∨ i = 1 ∨ i = 2 := by omega
    unfold det9
    rcases this with rfl | rfl | rfl
    · simp only [Nat.mul_zero, Nat.zero_add] at h0 h1 h2; rw [h0, h1, h2]; simp
    · simp only [Nat.mul_one, Nat.reduceAdd] at h0 h1 h2; rw [h0, h1, h2]; simp
    · simp only [Nat.reduceMul, Nat.reduceAdd] at h0 h1 h2; rw [h0, h1, h2]; simp
  omega
theorem r_row1 {h : MH} {f0 f : (Nat → Nat → Int32)} {l : (Nat → Nat → Int64)} {B : List Nat} {c i : Nat} {Rt : Value → MH → Prop} (hi : i < 3) (hd : det9 (eM c) = 1 ∨ det9 (eM c) = -1) (F : FV f0 f) (hm : MatAt f0 57 (eM c)) (hz : ShAt f0 58 (eZ c)) (ho : OutR f B) (hL : B.length < 36)
    (nx : ∀ f', FV f0 f' → OutR f' (B ++ rowT c i) → WM k_Ref_tellOperation p_Ref_tellOperation_1 [.ref 54, Jv, .int (nI (i + 1)), Jv, Jv, Jv] [] (sil h f' l) 0 0 Rt) :
    WM k_Ref_tellOperation p_Ref_tellOperation_2 [.ref 54, Jv, .int (nI i), .int (nI B.length), .int (nI 0), Jv] [] (sil h f l) 0 0 Rt := by
  have h1 := oneL_len (eM c (3 * i + 0)) 0 true
  have h2 := oneL_len (eM c (3 * i + 1)) 1 (z1 (eM c (3 * i + 0)))
  have h3 := oneL_len (eM c (3 * i + 2)) 2 (z1 (eM c (3 * i + 0)) && z1 (eM c (3 * i + 1)))
  refine r_oneLetter (b := true) (k := 0) (L := []) hi (by decide) F hm (by rw [List.append_nil]; exact ho) (by simp) (by rw [List.append_nil]; omega) ?_
  intro f1 F1 o1
  rw [List.nil_append] at o1
  refine r_oneLetter (b := z1 (eM c (3 * i + 0))) (k := 1) hi (by decide) F1 hm o1 (by rw [oneL_nil]; unfold z1; simp) (by rw [List.length_append]; omega) ?_
  intro f2 F2 o2
  refine r_oneLetter (b := z1 (eM c (3 * i + 0)) && z1 (eM c (3 * i + 1))) (k := 2) hi (by decide) F2 hm o2 (by rw [List.append_eq_nil_iff, oneL_nil, oneL_nil]; unfold z1; simp) (by rw [List.length_append, List.length_append]; omega) ?_
  intro f3 F3 o3
  have o3 : OutR f3 (B ++ letL (eM c) i) := o3
  have ln := letL_len (eM c) i
  have e58 : ∀ f4, FV f0 f4 → mi (sil h f4 l) 58 (ix (nI i)) = nI (eS c i) := fun f4 F4 => by
    rw [mi_sil, ix_nI (by omega), F4.1 58 (by decide), hz.z i hi, ← zI_nat]
    rfl
  have hs := eS_lt c i
  have es : (nI (eS c i) = 0) = (eS c i = 0) := nI_inj (y := 0) (by omega) (by decide)
  have e14 : mi (sil h f3 l) 54 14 = nI (B.length + (letL (eM c) i).length) := by rw [mi_sil, o3.1, List.length_append]
  refine v_Ref_tellOperation_2 _ _ _ _ _ _ ⟨fun w => absurd w (by decide), fun _ => ⟨K54, ?_⟩⟩
  rw [R54_4, e58 f3 F3, es, e14, nI_toI (by omega), nI_toI (by omega), nI_1]
  refine ⟨K58, InB_nI (show i < 3 from hi) (by omega), fun w => ?_, fun w => ⟨fun _ => SpV.mono (r_chr (x := 43) o3 (by rw [List.length_append]; omega)) ?_, fun w2 => ?_⟩⟩
  · refine nx f3 F3 ?_
    unfold rowT shL
    rw [if_pos w, List.append_nil]
    exact o3
  · rintro _ ⟨f4, rfl, F4, o4⟩
    have F4' := F3.trans F4
    have gb := gcd_b hs w
    have q1 : eS c i / Nat.gcd 24 (eS c i) ≤ eS c i := Nat.div_le_self _ _
    have q2 : 24 / Nat.gcd 24 (eS c i) ≤ 24 := Nat.div_le_self _ _
    have n1 := numL_len (eS c i / Nat.gcd 24 (eS c i))
    refine v_Ref_tellOperation_3 _ _ _ _ ⟨K54, ?_⟩
    rw [R54_4, e58 f4 F4', nI_1]
    refine ⟨K58, InB_nI (show i < 3 from hi) (by omega), SpI.mono (r_common (h := sil h f4 l) 54 (eS c i) 24 (by decide) (by omega)) ?_⟩
    rintro r g ⟨e, er⟩
    subst g er
    rw [R54_4, e58 f4 F4', show (24 : Int32) = nI 24 from rfl, div_nI (by omega) (by omega) (by omega), div_nI (by omega) (by omega) (by omega)]
    refine ⟨K54, K58, InB_nI (show i < 3 from hi) (by omega), fun q => ?_, SpV.mono (r_num (by omega) o4 (by rw [List.length_append, List.length_append]; show _ + _ + 1 < 46; omega)) ?_⟩
    · have := (nI_inj (x := Nat.gcd 24 (eS c i)) (y := 0) (by omega) (by decide)).mp q
      omega
    rintro _ ⟨f5, rfl, F5, o5⟩
    refine ⟨K54, SpV.mono (r_chr (x := 47) o5 (by rw [List.length_append, List.length_append, List.length_append]; show _ + _ + 1 + _ < 60; omega)) ?_⟩
    rintro _ ⟨f6, rfl, F6, o6⟩
    refine ⟨K54, SpV.mono (r_num (by omega) o6 (by rw [List.length_append, List.length_append, List.length_append, List.length_append]; show _ + _ + 1 + _ + 1 < 46; omega)) ?_⟩
    rintro _ ⟨f7, rfl, F7, o7⟩
    refine nx f7 (F4'.trans (F5.trans (F6.trans F7))) ?_
    unfold rowT shL
    rw [if_neg w]
    simp only [List.append_assoc] at o7 ⊢
    exact o7
  · have nz := row_nz hi hd
    have : 0 < (letL (eM c) i).length := by
      cases hq : letL (eM c) i with
      | nil => exact absurd hq nz
      | cons x y => simp
    exact absurd (by omega) w2
theorem sp_Ref_tellOperation {h : MH} {f : (Nat → Nat → Int32)} {l : (Nat → Nat → Int64)} {c : Nat} (hc : isOp c) :
    SpI k_Ref_tellOperation [.ref 54, .int (nI c)] (sil h f l) (fun r g => r = nI (tellL c).length ∧ ∃ f', g = sil h f' l ∧ (Fr [54, 57, 58, 63] f f' ∧ ∀ j, j ≠ 14 → f' 54 j = f 54 j) ∧ OutR f' (tellL c)) := by
  have l0 := rowT_len c 0
  have l1 := rowT_len c 1
  have hd := hc.2
  refine v_Ref_tellOperation _ _ _ _ ⟨K54, ?_⟩
  rintro _ rfl
  rw [wi_sil, R54_3, R54_4]
  refine SpV.mono (sp_Ref_open (h := sil h (up2 f 54 14 0) l) (a := 57) (b := 58) rfl rfl rfl rfl (by decide) hc.1) ?_
  rintro _ ⟨f0, rfl, o, m0, s0⟩
  rw [si_sil]
  have o0 : OutR f0 [] := ⟨by rw [o 54 (by decide) (by decide), mi_sil, up2_s]; rfl, fun j hj => absurd hj (Nat.not_lt_zero j)⟩
  have fin : ∀ f', FV f0 f' → Fr [54, 57, 58, 63] f f' ∧ ∀ j, j ≠ 14 → f' 54 j = f 54 j := fun f' F => by
    refine ⟨fun a ha => ?_, fun j hj => ?_⟩
    · rw [F.1 a (fun q => ha (by simp only [List.mem_cons, List.not_mem_nil, or_false] at q ⊢; omega)), o a (fun q => ha (by rw [q]; decide)) (fun q => ha (by rw [q]; decide)), mi_sil, up2_row (fun q => ha (by rw [q]; decide))]
    · rw [F.2 j hj, o 54 (by decide) (by decide), mi_sil, up2_ni hj]
  refine v_Ref_tellOperation_1 _ _ _ _ ⟨fun _ => ⟨fun w => absurd w (by decide), fun _ => ⟨K54, ?_⟩⟩, fun w => absurd (by decide) w⟩
  rw [show mi (sil h f0 l) 54 14 = nI ([] : List Nat).length from o0.1]
  refine r_row1 (i := 0) (by decide) hd FV.refl m0 s0 o0 (by decide) ?_
  intro f1 F1 o1
  rw [List.nil_append] at o1
  refine v_Ref_tellOperation_1 _ _ _ _ ⟨fun _ => ⟨fun _ => ⟨K54, SpV.mono (r_chr (x := 44) o1 (by omega)) ?_⟩, fun w => absurd (by decide) w⟩, fun w => absurd (by decide) w⟩
  rintro _ ⟨f2, rfl, F2, o2⟩
  refine ⟨K54, ?_⟩
  have e2 : mi (sil h f2 l) 54 14 = _ := o2.1
  rw [e2]
  refine r_row1 (i := 1) (by decide) hd (F1.trans F2) m0 s0 o2 (by rw [List.length_append]; show _ + 1 < 36; omega) ?_
  intro f3 F3 o3
  refine v_Ref_tellOperation_1 _ _ _ _ ⟨fun _ => ⟨fun _ => ⟨K54, SpV.mono (r_chr (x := 44) o3 (by rw [List.length_append, List.length_append]; show _ + 1 + _ < 60; omega)) ?_⟩, fun w => absurd (by decide) w⟩, fun w => absurd (by decide) w⟩
  rintro _ ⟨f4, rfl, F4, o4⟩
  refine ⟨K54, ?_⟩
  have e4 : mi (sil h f4 l) 54 14 = _ := o4.1
  rw [e4]
  refine r_row1 (i := 2) (by decide) hd (F3.trans F4) m0 s0 o4 (by rw [List.length_append, List.length_append, List.length_append]; show _ + 1 + _ + 1 < 36; omega) ?_
  intro f5 F5 o5
  have et : rowT c 0 ++ [44] ++ rowT c 1 ++ [44] ++ rowT c 2 = tellL c := by unfold tellL; simp only [List.append_assoc]
  rw [et] at o5
  refine v_Ref_tellOperation_1 _ _ _ _ ⟨fun w => absurd w (by decide), fun _ => ⟨K54, _, rfl, ?_, f5, rfl, fin f5 F5, o5⟩⟩
  rw [mi_sil]
  exact o5.1
