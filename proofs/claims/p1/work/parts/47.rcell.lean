/-! the reference's cell -/
theorem cell_OK {a b c d e f : Int} (ha : sqI a) (h1 : 0 < a * b - f * f) (h2 : 0 < det6 a b c d e f) : OKs (a, b, c, 2 * d, 2 * e, 2 * f) := by
  refine PD_mk (by have := ha.1; omega) ?_ ?_
  · have e1 : 2 * f * (2 * f) = 4 * (f * f) := by grind
    rw [e1]; omega
  · have e1 : pD a b c (2 * d) (2 * e) (2 * f) = 4 * det6 a b c d e f := by unfold pD det6; grind
    rw [e1]; omega
theorem any_dot {h : MH} {f : (Nat → Nat → Int32)} {l : (Nat → Nat → Int64)} {k : Nat} (hk : k + 5 < 240) (x1 x2 x3 x4 x5 x6 : Int64) : SpL k_Ref_dot [.ref 77, .int (nI k), .long x1, .long x2, .long x3, .long x4, .long x5, .long x6] (sil h f l) (fun _ g => g = sil h f l) := by
  have b : ∀ j : Nat, j < 6 → InB (nI k + nI j) 240 := fun j hj => by rw [nI_add]; exact InB_nI (by omega) (by omega)
  exact v_Ref_dot _ _ _ _ _ _ _ _ _ _ ⟨K77, InB_nI (show k < 240 by omega) (by omega), b 1 (by decide), b 2 (by decide), b 3 (by decide), b 4 (by decide), b 5 (by decide), _, rfl, rfl⟩
theorem any_keeps {h : MH} {f : (Nat → Nat → Int32)} {l : (Nat → Nat → Int64)} {k : Nat} (hk : k + 5 < 240) : SpI k_Ref_keeps [.ref 57, .ref 77, .int (nI k)] (sil h f l) (fun _ g => g = sil h f l) := by
  have b0 : InB (nI k) 240 := InB_nI (by omega) (by omega)
  have b : ∀ j : Nat, j < 6 → InB (nI k + nI j) 240 := fun j hj => by rw [nI_add]; exact InB_nI (by omega) (by omega)
  have i : ∀ j : Nat, j < 9 → InB (nI j) 9 := fun j hj => InB_nI hj (by omega)
  have e2 : WM k_Ref_keeps p_Ref_keeps_2 [.ref 57, .ref 77, .int (nI k)] [] (sil h f l) 0 0 (fun v g => ∃ x, v = .int x ∧ g = sil h f l) := by
    refine v_Ref_keeps_2 _ _ _ _ _ ⟨K57, i 0 (by decide), i 3 (by decide), i 6 (by decide), i 2 (by decide), i 5 (by decide), i 8 (by decide), SpL.mono (any_dot hk _ _ _ _ _ _) ?_⟩
    rintro r _ rfl
    refine ⟨K77, b 4 (by decide), fun _ => ⟨K57, i 0 (by decide), i 3 (by decide), i 6 (by decide), i 1 (by decide), i 4 (by decide), i 7 (by decide), SpL.mono (any_dot hk _ _ _ _ _ _) ?_⟩, fun _ => ⟨_, rfl, rfl⟩⟩
    rintro r _ rfl
    exact ⟨K77, b 5 (by decide), fun _ => v_Ref_keeps_3 _ _ ⟨_, rfl, rfl⟩, fun _ => ⟨_, rfl, rfl⟩⟩
  have e1 : WM k_Ref_keeps p_Ref_keeps_1 [.ref 57, .ref 77, .int (nI k)] [] (sil h f l) 0 0 (fun v g => ∃ x, v = .int x ∧ g = sil h f l) := by
    refine v_Ref_keeps_1 _ _ _ _ _ ⟨K57, i 2 (by decide), i 5 (by decide), i 8 (by decide), SpL.mono (any_dot hk _ _ _ _ _ _) ?_⟩
    rintro r _ rfl
    refine ⟨K77, b 2 (by decide), fun _ => ⟨K57, i 1 (by decide), i 4 (by decide), i 7 (by decide), i 2 (by decide), i 5 (by decide), i 8 (by decide), SpL.mono (any_dot hk _ _ _ _ _ _) ?_⟩, fun _ => ⟨_, rfl, rfl⟩⟩
    rintro r _ rfl
    exact ⟨K77, b 3 (by decide), fun _ => e2, fun _ => ⟨_, rfl, rfl⟩⟩
  refine v_Ref_keeps _ _ _ _ _ ⟨K57, i 0 (by decide), i 3 (by decide), i 6 (by decide), SpL.mono (any_dot hk _ _ _ _ _ _) ?_⟩
  rintro r _ rfl
  refine ⟨K77, b0, fun _ => ⟨K57, i 1 (by decide), i 4 (by decide), i 7 (by decide), SpL.mono (any_dot hk _ _ _ _ _ _) ?_⟩, fun _ => ⟨_, rfl, rfl⟩⟩
  rintro r _ rfl
  exact ⟨K77, b 1 (by decide), fun _ => e1, fun _ => ⟨_, rfl, rfl⟩⟩
/-- the count of what keeps the six -/
theorem ref_count {h : MH} {f0 f : (Nat → Nat → Int32)} {l : (Nat → Nat → Int64)} {n : Nat} (hn : n < 40) (fr : Fr [54, 57, 58, 78] f0 f) (h32 : f 54 32 = nI n) (x9 : Int32) :
    WM k_Ref_cell p_Ref_cell_5 [.ref 54, Jv, Jv, Jv, Jv, Jv, Jv, Jv, .int (nI (6 * n)), .int x9, .int (nI 0), Jv] [] (sil h f l) 0 0 (fun v g => ∃ r, v = .int r ∧ r = nI n ∧ ∃ f', g = sil h f' l ∧ Fr [54, 57, 58, 78] f0 f') := by
  refine up_ind 19683 (fun _ (p : (Nat → Nat → Int32) × Int32) => Fr [54, 57, 58, 78] f0 p.1 ∧ p.1 54 32 = nI n) (fun i p => WM k_Ref_cell p_Ref_cell_5 [.ref 54, Jv, Jv, Jv, Jv, Jv, Jv, Jv, .int (nI (6 * n)), .int p.2, .int (nI i), Jv] [] (sil h p.1 l) 0 0 _) ?_ ?_ 0 (f, x9) (by decide) ⟨fr, h32⟩
  · rintro i ⟨f1, c⟩ hi ⟨q1, q2⟩ ih
    have ti : (nI i).toInt = (i : Int) := nI_toI (by omega)
    have t1 : (19683 : Int32).toInt = 19683 := rfl
    refine v_Ref_cell_5 _ _ _ _ _ _ ⟨fun _ => ⟨K54, ?_⟩, fun w => absurd (by rw [ti, t1]; omega) w⟩
    rw [show (13824 : Int32) * nI i = nI (13824 * i) from nI_mul 13824 i, R54_3, R54_4, nI_1]
    refine SpV.mono (sp_Ref_open (h := sil h f1 l) (a := 57) (b := 58) (c := 13824 * i) rfl rfl rfl rfl (by decide) (by unfold cOK; omega)) ?_
    rintro _ ⟨f2, rfl, o1, m1, s1⟩
    rw [si_sil, R54_3]
    have fr2 : Fr [57, 58] f1 f2 := fun a ha => o1 a (fun q => ha (by rw [q]; decide)) (fun q => ha (by rw [q]; decide))
    have k1 : Fr [54, 57, 58, 78] f0 f2 := q1.trans (fr2.mono (by decide))
    have k2 : f2 54 32 = nI n := by rw [fr2 54 (by decide)]; exact q2
    have six : ∀ s0 : Int32, WM k_Ref_cell p_Ref_cell_6 [.ref 54, Jv, Jv, Jv, Jv, Jv, Jv, Jv, .int (nI (6 * n)), Jv, .int (nI i), Jv] [.int s0] (sil h f2 l) 0 0 (fun v g => ∃ r, v = .int r ∧ r = nI n ∧ ∃ f', g = sil h f' l ∧ Fr [54, 57, 58, 78] f0 f') := by
      intro s0
      refine v_Ref_cell_6 _ _ _ _ _ _ ⟨K54, ?_⟩
      rw [R54_3, R54_30, nI_1]
      refine SpI.mono (any_keeps (by omega)) ?_
      rintro r _ rfl
      exact ⟨fun _ => ih (f2, _) ⟨k1, k2⟩, fun _ => ih (f2, _) ⟨k1, k2⟩⟩
    refine ⟨K54, SpI.mono (sp_Ref_determinant (h := sil h f2 l) (a := 57) rfl rfl m1) ?_⟩
    rintro r g ⟨e, -⟩
    subst g
    exact ⟨fun _ => six _, fun _ => ⟨fun _ => six _, fun _ => ih (f2, _) ⟨k1, k2⟩⟩⟩
  · rintro ⟨f1, c⟩ ⟨q1, q2⟩
    refine v_Ref_cell_5 _ _ _ _ _ _ ⟨fun w => absurd w (by decide), fun _ => ⟨K54, ?_⟩⟩
    have q2' : f1 54 32 = nI n := q2
    rw [R54_31, show mi (sil h f1 l) 54 32 = nI n from q2]
    refine ⟨K78, InB_nI (show n < 40 from hn) (by omega), ?_⟩
    rintro _ rfl
    rintro _ rfl
    have e2 : mi (wi (sil h f1 l) 78 (ix (nI n)) c) 54 32 = nI n := by rw [wi_sil, mi_sil, up2_ne (by decide)]; exact q2
    rw [e2, nI_1]
    refine ⟨_, rfl, ?_, _, rfl, (q1.up (by decide)).up (by decide)⟩
    rw [mi_wi, up2_s]
    show nI (n + 1) - nI 1 = _
    rw [pk_sub (by omega)]
    rfl
