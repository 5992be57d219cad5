/-! the reference's cell with its numbers -/
def RCel (f : (Nat → Nat → Int32)) (l : (Nat → Nat → Int64)) (CS : List S6) : Prop := CS.length ≤ 40 ∧ f 54 32 = nI CS.length ∧ ∀ j, j < CS.length → SixA l 76 (6 * j) (CS.getD j z6) ∧ ∃ k u, Red k (db (CS.getD j z6)) u ∧ SixA l 77 (6 * j) (hf u) ∧ f 78 j = nI (symN (hf u))
theorem RCel.lo {f : (Nat → Nat → Int32)} {l l' : (Nat → Nat → Int64)} {CS : List S6} (hc : RCel f l CS) (fr : Fr [76, 79] l l') (lo : ∀ j, j < 6 * CS.length → l' 76 j = l 76 j) : RCel f l' CS := by
  refine ⟨hc.1, hc.2.1, fun j hj => ?_⟩
  obtain ⟨a, k, u, b, c, d⟩ := hc.2.2 j hj
  refine ⟨fun i hi => by rw [lo _ (by omega)]; exact a i hi, k, u, b, fun i hi => by rw [fr 77 (by decide)]; exact c i hi, d⟩
theorem RCel.fr {f f' : (Nat → Nat → Int32)} {l l' : (Nat → Nat → Int64)} {CS : List S6} (hc : RCel f l CS) (e0 : f' 54 32 = f 54 32) (e1 : l' 76 = l 76) (e2 : l' 77 = l 77) (e3 : f' 78 = f 78) : RCel f' l' CS := by
  unfold RCel SixA at *
  rw [e0, e1, e2, e3]
  exact hc
def RcP (h : MH) (f : (Nat → Nat → Int32)) (l : (Nat → Nat → Int64)) (CS : List S6) (s : S6) (Q : Prop) (r : Int32) (g : MH) : Prop := (Q ∧ r = nI CS.length ∧ ∃ f' l', g = sil h f' l' ∧ Fr [54, 57, 58, 78] f f' ∧ (∀ j, j ≠ 32 → f' 54 j = f 54 j) ∧ Fr [76, 77, 79] l l' ∧ RCel f' l' (CS ++ [s])) ∨ (¬ Q ∧ r = -1 ∧ ∃ l', g = sil h f l' ∧ Fr [76, 79] l l' ∧ RCel f l' CS)
noncomputable def symK (s : S6) (n : Nat) : Nat := ((List.range n).filter fun k => @decide (kpS s (colV (eM (13824 * k)) 0) (colV (eM (13824 * k)) 1) (colV (eM (13824 * k)) 2)) (Classical.propDecidable _)).length
theorem symK_N (s : S6) : symN s = symK s 19683 := rfl
theorem symK_y {s : S6} {n : Nat} (h : kpS s (colV (eM (13824 * n)) 0) (colV (eM (13824 * n)) 1) (colV (eM (13824 * n)) 2)) : symK s (n + 1) = symK s n + 1 := by
  unfold symK
  rw [List.range_succ, List.filter_append, List.length_append]
  rw [List.filter_cons_of_pos (a := n) (@decide_eq_true _ (Classical.propDecidable _) h)]
  rfl
theorem symK_n {s : S6} {n : Nat} (h : ¬ kpS s (colV (eM (13824 * n)) 0) (colV (eM (13824 * n)) 1) (colV (eM (13824 * n)) 2)) : symK s (n + 1) = symK s n := by
  unfold symK
  rw [List.range_succ, List.filter_append, List.length_append]
  rw [List.filter_cons_of_neg (a := n) (fun q => h (@of_decide_eq_true _ (Classical.propDecidable _) q))]
  rfl
theorem symK_le (s : S6) (n : Nat) : symK s n ≤ n := by
  have := List.length_filter_le (fun k => @decide (kpS s (colV (eM (13824 * k)) 0) (colV (eM (13824 * k)) 1) (colV (eM (13824 * k)) 2)) (Classical.propDecidable _)) (List.range n)
  rw [List.length_range] at this
  exact this
theorem ref_countV {h : MH} {f0 f : (Nat → Nat → Int32)} {l : (Nat → Nat → Int64)} {n : Nat} {s : S6} (hn : n < 40) (fr : Fr [54, 57, 58, 78] f0 f) (f5 : ∀ j, j ≠ 32 → f 54 j = f0 54 j) (f7 : f 78 = f0 78) (h32 : f 54 32 = nI n) (six : SixA l 77 (6 * n) s) (hs : ∀ i, i < 6 → Ab (nth6 s i) 100000000) (hd : 0 < det6 (nth6 s 0) (nth6 s 1) (nth6 s 2) (nth6 s 3) (nth6 s 4) (nth6 s 5)) :
    WM k_Ref_cell p_Ref_cell_5 [.ref 54, Jv, Jv, Jv, Jv, Jv, Jv, Jv, .int (nI (6 * n)), .int (nI (symK s 0)), .int (nI 0), Jv] [] (sil h f l) 0 0 (fun v g => ∃ r, v = .int r ∧ r = nI n ∧ ∃ f', g = sil h f' l ∧ Fr [54, 57, 58, 78] f0 f' ∧ (∀ j, j ≠ 32 → f' 54 j = f0 54 j) ∧ f' 54 32 = nI (n + 1) ∧ (∀ j, j ≠ n → f' 78 j = f0 78 j) ∧ f' 78 n = nI (symN s)) := by
  refine up_ind 19683 (fun _ (p : (Nat → Nat → Int32)) => Fr [54, 57, 58, 78] f0 p ∧ p 54 32 = nI n ∧ (∀ j, j ≠ 32 → p 54 j = f0 54 j) ∧ p 78 = f0 78) (fun i p => WM k_Ref_cell p_Ref_cell_5 [.ref 54, Jv, Jv, Jv, Jv, Jv, Jv, Jv, .int (nI (6 * n)), .int (nI (symK s i)), .int (nI i), Jv] [] (sil h p l) 0 0 _) ?_ ?_ 0 f (by decide) ⟨fr, h32, f5, f7⟩
  · rintro i f1 hi ⟨q1, q2, q3, q4⟩ ih
    have ti : (nI i).toInt = (i : Int) := nI_toI (by omega)
    have t1 : (19683 : Int32).toInt = 19683 := rfl
    have ck : cOK (13824 * i) := by unfold cOK; omega
    refine v_Ref_cell_5 _ _ _ _ _ _ ⟨fun _ => ⟨K54, ?_⟩, fun w => absurd (by rw [ti, t1]; omega) w⟩
    rw [show (13824 : Int32) * nI i = nI (13824 * i) from nI_mul 13824 i, R54_3, R54_4, nI_1]
    refine SpV.mono (open_ab ck) ?_
    rintro _ ⟨f2, rfl, fr2, m1, s1⟩
    rw [R54_3]
    have k1 : Fr [54, 57, 58, 78] f0 f2 := q1.trans (fr2.mono (by decide))
    have e54 : f2 54 = f1 54 := fr2 54 (by decide)
    have e78 : f2 78 = f1 78 := fr2 78 (by decide)
    have k2 : Fr [54, 57, 58, 78] f0 f2 ∧ f2 54 32 = nI n ∧ (∀ j, j ≠ 32 → f2 54 j = f0 54 j) ∧ f2 78 = f0 78 := ⟨k1, by rw [e54]; exact q2, by rw [e54]; exact q3, by rw [e78]; exact q4⟩
    have z0 : ∀ x : Int32, x + (0 : Int32) = x := fun x => Int32.add_zero x
    have yes : WM k_Ref_cell p_Ref_cell_6 [.ref 54, Jv, Jv, Jv, Jv, Jv, Jv, Jv, .int (nI (6 * n)), Jv, .int (nI i), Jv] [.int (nI (symK s i))] (sil h f2 l) 0 0 (fun v g => ∃ r, v = .int r ∧ r = nI n ∧ ∃ f', g = sil h f' l ∧ Fr [54, 57, 58, 78] f0 f' ∧ (∀ j, j ≠ 32 → f' 54 j = f0 54 j) ∧ f' 54 32 = nI (n + 1) ∧ (∀ j, j ≠ n → f' 78 j = f0 78 j) ∧ f' 78 n = nI (symN s)) := by
      refine v_Ref_cell_6 _ _ _ _ _ _ ⟨K54, ?_⟩
      rw [R54_3, R54_30]
      refine SpI.mono (sp_Ref_keeps K77 L77 (by omega) six hs m1 (fun j hj => eM_small _ j hj)) ?_
      rintro r _ ⟨rfl, ⟨rfl, kp⟩ | ⟨rfl, kp⟩⟩
      · refine ⟨fun q => absurd q (by decide), fun _ => ?_⟩
        rw [nI_1, nI_1, ← symK_y kp]
        exact ih f2 k2
      · refine ⟨fun _ => ?_, fun q => absurd rfl q⟩
        rw [nI_1, z0, ← symK_n kp]
        exact ih f2 k2
    refine ⟨K54, SpI.mono (sp_Ref_determinant (h := sil h f2 l) (a := 57) rfl rfl m1) ?_⟩
    rintro r g ⟨e, rfl⟩
    subst g
    refine ⟨fun _ => yes, fun n1 => ⟨fun _ => yes, fun n2 => ?_⟩⟩
    have nk : ¬ kpS s (colV (eM (13824 * i)) 0) (colV (eM (13824 * i)) 1) (colV (eM (13824 * i)) 2) := fun q => by
      rcases kp_det q hd with w | w
      · rw [w] at n1; exact n1 rfl
      · rw [w] at n2; exact n2 rfl
    rw [z0, ← symK_n nk]
    exact ih f2 k2
  · rintro f1 ⟨q1, q2, q3, q4⟩
    refine v_Ref_cell_5 _ _ _ _ _ _ ⟨fun w => absurd w (by decide), fun _ => ⟨K54, ?_⟩⟩
    rw [R54_31, show mi (sil h f1 l) 54 32 = nI n from q2]
    refine ⟨K78, InB_nI (show n < 40 from hn) (by omega), ?_⟩
    rintro _ rfl
    rintro _ rfl
    rw [ix_nI (by omega), wi_sil, mi_sil, up2_ne (show (54 : Nat) ≠ 78 by decide), q2, nI_1, wi_sil, mi_sil, up2_s, nI_prd]
    refine ⟨_, rfl, rfl, _, rfl, (q1.up (by decide)).up (by decide), fun j hj => ?_, up2_s, fun j hj => ?_, ?_⟩
    · rw [up2_ni hj, up2_ne (by decide)]; exact q3 j hj
    · rw [up2_ne (by decide), up2_ni hj, q4]
    · rw [up2_ne (by decide), up2_s]; rfl
theorem hf_ab {u : S6} (ho : OKs u) (hT : tT u ≤ 30000) : ∀ i, i < 6 → Ab (nth6 (hf u) i) 100000000 := by
  have bb := OK_BB ho (by omega)
  obtain ⟨a, b, c, x, y, z⟩ := u
  obtain ⟨⟨a1, a2⟩, ⟨b1, b2⟩, ⟨d1, d2⟩, ⟨x1, x2⟩, ⟨y1, y2⟩, ⟨z1, z2⟩⟩ := bb
  intro i hi
  have : i = 0 ∨ i = 1 ∨ i = 2 ∨ i = 3 ∨ i = 4 ∨ i = 5 := by omega
  rcases this with rfl | rfl | rfl | rfl | rfl | rfl
  · exact Ab.of (show _ ≤ a by omega) (show a ≤ _ by omega)
  · exact Ab.of (show _ ≤ b by omega) (show b ≤ _ by omega)
  · exact Ab.of (show _ ≤ c by omega) (show c ≤ _ by omega)
  · exact Ab.of (show _ ≤ x / 2 by omega) (show x / 2 ≤ _ by omega)
  · exact Ab.of (show _ ≤ y / 2 by omega) (show y / 2 ≤ _ by omega)
  · exact Ab.of (show _ ≤ z / 2 by omega) (show z / 2 ≤ _ by omega)
theorem det_pD (a b c d e f : Int) : 4 * det6 a b c d e f = pD a b c (2 * d) (2 * e) (2 * f) := by unfold det6 pD; grind
theorem hf_det {u : S6} (ev : Ev u) : 4 * det6 (nth6 (hf u) 0) (nth6 (hf u) 1) (nth6 (hf u) 2) (nth6 (hf u) 3) (nth6 (hf u) 4) (nth6 (hf u) 5) = pDs u := by
  obtain ⟨a, b, c, x, y, z⟩ := u
  obtain ⟨e1, e2, e3⟩ := ev
  show 4 * det6 a b c (x / 2) (y / 2) (z / 2) = pD a b c x y z
  rw [det_pD, show 2 * (x / 2) = x by omega, show 2 * (y / 2) = y by omega, show 2 * (z / 2) = z by omega]
theorem hf_pos {u : S6} (ho : OKs u) (ev : Ev u) : 0 < det6 (nth6 (hf u) 0) (nth6 (hf u) 1) (nth6 (hf u) 2) (nth6 (hf u) 3) (nth6 (hf u) 4) (nth6 (hf u) 5) := by
  have e := hf_det ev
  have p : 0 < pDs u := by
    obtain ⟨a, b, c, x, y, z⟩ := u
    exact ho.2.2.2.2.2.2
  omega
theorem ref_cell3V {h : MH} {f : (Nat → Nat → Int32)} {l0 l : (Nat → Nat → Int64)} {CS : List S6} {n : Nat} {s : S6} (hc : RCel f l0 CS) (en : CS.length = n) (hn : n < 40) (h32 : f 54 32 = nI n) (fr0 : Fr [76, 79] l0 l) (lo0 : ∀ j, j < 6 * n → l 76 j = l0 76 j) (ok : OKs (db s)) (hT : tT (db s) ≤ 30000) (six : SixA l 76 (6 * n) s) :
    WM k_Ref_cell p_Ref_cell_3 [.ref 54, Jv, Jv, Jv, Jv, Jv, Jv, Jv, .int (nI (6 * n)), .int (nI 0), Jv, Jv] [] (sil h f l) 0 0 (fun v q => ∃ r, v = .int r ∧ r = nI n ∧ ∃ f' l', q = sil h f' l' ∧ Fr [54, 57, 58, 78] f f' ∧ (∀ j, j ≠ 32 → f' 54 j = f 54 j) ∧ Fr [76, 77, 79] l0 l' ∧ RCel f' l' (CS ++ [s])) := by
  have t6 : (6 : Int32).toInt = 6 := rfl
  have e4 : ∀ (l1 : (Nat → Nat → Int64)) k u, Fr [76, 79] l0 l1 → l1 76 = l 76 → Red k (db s) u → Six l1 (hf u) → WM k_Ref_cell p_Ref_cell_4 [.ref 54, Jv, Jv, Jv, Jv, Jv, Jv, Jv, .int (nI (6 * n)), .int (nI 0), Jv, Jv] [] (sil h f l1) 0 0 (fun v q => ∃ r, v = .int r ∧ r = nI n ∧ ∃ f' l', q = sil h f' l' ∧ Fr [54, 57, 58, 78] f f' ∧ (∀ j, j ≠ 32 → f' 54 j = f 54 j) ∧ Fr [76, 77, 79] l0 l' ∧ RCel f' l' (CS ++ [s])) := by
    intro l1 k u fr1 e76 rd s6
    have kk := rd.k ok
    have ev := kk.2.2.1 (Ev_db s)
    have six1 : ∀ i, i < 6 → l1 79 i = zL (nth6 (hf u) i) := fun i hi => by
      generalize hf u = w at s6 ⊢
      obtain ⟨a, b, c, x, y, z⟩ := w
      obtain ⟨t0, t1, t2, t3, t4, t5⟩ := s6
      have : i = 0 ∨ i = 1 ∨ i = 2 ∨ i = 3 ∨ i = 4 ∨ i = 5 := by omega
      rcases this with rfl | rfl | rfl | rfl | rfl | rfl <;> assumption
    refine up_ind 6 (fun i (l2 : (Nat → Nat → Int64)) => Fr [77] l1 l2 ∧ (∀ j, j < 6 * n → l2 77 j = l1 77 j) ∧ ∀ j, j < i → l2 77 (6 * n + j) = zL (nth6 (hf u) j)) (fun i l2 => WM k_Ref_cell p_Ref_cell_4 [.ref 54, Jv, Jv, Jv, Jv, Jv, Jv, Jv, .int (nI (6 * n)), .int (nI i), Jv, Jv] [] (sil h f l2) 0 0 _) ?_ ?_ 0 l1 (by decide) ⟨Fr.refl, fun _ _ => rfl, fun j hj => absurd hj (Nat.not_lt_zero j)⟩
    · rintro i l2 hi ⟨q1, q2, q3⟩ ih
      have ti : (nI i).toInt = (i : Int) := nI_toI (by omega)
      refine v_Ref_cell_4 _ _ _ _ _ ⟨fun _ => ⟨K54, ?_⟩, fun w => absurd (by rw [ti, t6]; omega) w⟩
      rw [R54_33, R54_30, nI_add, ix_nI (by omega), ix_nI (by omega), nI_1, ml_sil, q1 79 (by decide), six1 i hi]
      refine ⟨K79, InB_nI (show i < 6 from hi) (by omega), K77, InB_nI (show 6 * n + i < 240 by omega) (by omega), ?_⟩
      rintro _ rfl
      rw [wl_sil]
      refine ih _ ⟨q1.up (by decide), fun j hj => by rw [up2_ni (by omega)]; exact q2 j hj, fun j hj => ?_⟩
      by_cases e : j = i
      · subst e; exact up2_s
      · rw [up2_ni (by omega)]; exact q3 j (by omega)
    · rintro l2 ⟨q1, q2, q3⟩
      refine v_Ref_cell_4 _ _ _ _ _ ⟨fun w => absurd w (by decide), fun _ => ?_⟩
      refine WM.mono' (ref_countV (s := hf u) hn Fr.refl (fun _ _ => rfl) rfl h32 q3 (hf_ab kk.1 (by omega)) (hf_pos kk.1 ev)) ?_
      rintro v q ⟨r, e1, e2, f', e3, g1, g2, g3, g4, g5⟩
      refine ⟨r, e1, e2, f', l2, e3, g1, g2, (fr1.mono (by decide)).trans (q1.mono (by decide)), by rw [cS_len]; omega, by rw [cS_len, en]; exact g3, fun j hj => ?_⟩
      rw [cS_len, en] at hj
      have e76' : l2 76 = l 76 := (q1 76 (by decide)).trans e76
      by_cases ej : j = n
      · subst ej
        rw [← en, gEnd, en]
        exact ⟨fun i hi => by rw [e76']; exact six i hi, k, u, rd, q3, g5⟩
      · rw [gLeft (by omega)]
        obtain ⟨a, k', u', b, c, d⟩ := hc.2.2 j (by omega)
        exact ⟨fun i hi => by rw [e76', lo0 _ (by omega)]; exact a i hi, k', u', b, fun i hi => by rw [q2 _ (by omega), fr1 77 (by decide)]; exact c i hi, by rw [g4 j ej]; exact d⟩
  refine up_ind 6 (fun i (l2 : (Nat → Nat → Int64)) => Fr [79] l l2 ∧ ∀ j, j < i → l2 79 j = l 76 (6 * n + j)) (fun i l2 => WM k_Ref_cell p_Ref_cell_3 [.ref 54, Jv, Jv, Jv, Jv, Jv, Jv, Jv, .int (nI (6 * n)), .int (nI i), Jv, Jv] [] (sil h f l2) 0 0 _) ?_ ?_ 0 l (by decide) ⟨Fr.refl, fun j hj => absurd hj (Nat.not_lt_zero j)⟩
  · rintro i l2 hi ⟨q1, q2⟩ ih
    have ti : (nI i).toInt = (i : Int) := nI_toI (by omega)
    refine v_Ref_cell_3 _ _ _ _ _ ⟨fun _ => ⟨K54, ?_⟩, fun w => absurd (by rw [ti, t6]; omega) w⟩
    rw [R54_33, R54_29, nI_add, ix_nI (by omega), ix_nI (by omega), nI_1, ml_sil]
    refine ⟨K76, InB_nI (show 6 * n + i < 240 by omega) (by omega), K79, InB_nI (show i < 6 from hi) (by omega), ?_⟩
    rintro _ rfl
    rw [wl_sil]
    refine ih _ ⟨q1.up (by decide), fun j hj => ?_⟩
    by_cases ej : j = i
    · subst ej; rw [up2_s, q1 76 (by decide)]
    · rw [up2_ni ej]; exact q2 j (by omega)
  · rintro l2 ⟨q1, q2⟩
    have s6 : Six l2 s := by
      obtain ⟨a, b, c, d, e, g⟩ := s
      exact ⟨by rw [q2 0 (by decide)]; exact six 0 (by decide), by rw [q2 1 (by decide)]; exact six 1 (by decide), by rw [q2 2 (by decide)]; exact six 2 (by decide), by rw [q2 3 (by decide)]; exact six 3 (by decide), by rw [q2 4 (by decide)]; exact six 4 (by decide), by rw [q2 5 (by decide)]; exact six 5 (by decide)⟩
    refine v_Ref_cell_3 _ _ _ _ _ ⟨fun w => absurd w (by decide), fun _ => ⟨K54, SpV.mono (sp_Ref_reduce (l := l2) ok (by omega) s6) ?_⟩⟩
    rintro _ ⟨l3, k, u, rfl, fr3, rd, s3⟩
    exact e4 l3 k u ((fr0.trans (q1.mono (by decide))).trans (fr3.mono (by decide))) ((fr3 76 (by decide)).trans (q1 76 (by decide))) rd s3
theorem sp_Ref_cellN {h : MH} {f : (Nat → Nat → Int32)} {l : (Nat → Nat → Int64)} {CS : List S6} {n : Nat} (hn : CS.length = n) (hb : n ≤ 40) (h32 : f 54 32 = nI n) (hc : RCel f l CS) (x1 x2 x3 x4 x5 x6 : Int32) : SpI k_Ref_cell [.ref 54, .int x1, .int x2, .int x3, .int x4, .int x5, .int x6] (sil h f l) (fun r g => RcP h f l CS (x1.toInt, x2.toInt, x3.toInt, x4.toInt, x5.toInt, x6.toInt) (cellOk n x1.toInt x2.toInt x3.toInt x4.toInt x5.toInt x6.toInt) r g) := by
  have t40 : (40 : Int32).toInt = 40 := rfl
  have tn : (nI n).toInt = (n : Int) := nI_toI (by omega)
  have z1 : ¬ (1 : Int32) = 0 := by decide
  have a1 : (1 : Int64).toInt = 1 := rfl
  have a2 : (10000 : Int64).toInt = 10000 := rfl
  have a3 : (-10000 : Int64).toInt = -10000 := rfl
  have sq : ∀ x : Int32, (((1 : Int64).toInt ≤ x.toInt64.toInt ∧ x.toInt64.toInt ≤ (10000 : Int64).toInt) ↔ sqI x.toInt) := fun x => by rw [i2l_int, a1, a2]; rfl
  have mx : ∀ x : Int32, (((-10000 : Int64).toInt ≤ x.toInt64.toInt ∧ x.toInt64.toInt ≤ (10000 : Int64).toInt) ↔ mxI x.toInt) := fun x => by rw [i2l_int, a3, a2]; rfl
  generalize hQ : cellOk n x1.toInt x2.toInt x3.toInt x4.toInt x5.toInt x6.toInt = Q
  have bad : ∀ l1 : (Nat → Nat → Int64), Fr [76, 79] l l1 → (∀ j, j < 6 * n → l1 76 j = l 76 j) → ¬ Q → ∃ v, Value.int (-1) = .int v ∧ RcP h f l CS (x1.toInt, x2.toInt, x3.toInt, x4.toInt, x5.toInt, x6.toInt) Q v (sil h f l1) := fun l1 fr lo q => ⟨_, rfl, Or.inr ⟨q, rfl, l1, rfl, fr, hc.lo fr (fun j hj => lo j (by rw [hn] at hj; exact hj))⟩⟩
  have no : ¬ Q → WM k_Ref_cell p_Ref_cell_1 [.ref 54, .int x1, .int x2, .int x3, .int x4, .int x5, .int x6, Jv, Jv, Jv, Jv, Jv] [.int (0 : Int32)] (sil h f l) 0 0 (fun v g => ∃ r, v = .int r ∧ RcP h f l CS (x1.toInt, x2.toInt, x3.toInt, x4.toInt, x5.toInt, x6.toInt) Q r g) := fun q =>
    v_Ref_cell_1 _ _ _ _ _ _ _ _ _ _ ⟨fun _ => bad l Fr.refl (fun _ _ => rfl) q, fun w => absurd rfl w⟩
  refine v_Ref_cell _ _ _ _ _ _ _ _ _ ⟨K54, ?_⟩
  rw [show mi (sil h f l) 54 32 = nI n from h32, tn, t40]
  refine ⟨fun c0 => ?_, fun c => no (fun q => by rw [← hQ] at q; have := q.1; omega)⟩
  refine SpI.mono (sp_Ref_between _ _ _) ?_
  rintro r g ⟨e, (⟨u, v, rfl⟩ | ⟨u, rfl⟩)⟩ <;> subst g
  case inr => exact ⟨fun _ => no (fun q => by rw [← hQ] at q; exact u ((sq _).mpr q.2.1)), fun w => absurd rfl w⟩
  have q1 := (sq x1).mp ⟨u, v⟩
  refine ⟨fun w => absurd w z1, fun _ => SpI.mono (sp_Ref_between _ _ _) ?_⟩
  rintro r g ⟨e, (⟨u, v, rfl⟩ | ⟨u, rfl⟩)⟩ <;> subst g
  case inr => exact ⟨fun _ => no (fun q => by rw [← hQ] at q; exact u ((sq _).mpr q.2.2.1)), fun w => absurd rfl w⟩
  have q2 := (sq x2).mp ⟨u, v⟩
  refine ⟨fun w => absurd w z1, fun _ => SpI.mono (sp_Ref_between _ _ _) ?_⟩
  rintro r g ⟨e, (⟨u, v, rfl⟩ | ⟨u, rfl⟩)⟩ <;> subst g
  case inr => exact ⟨fun _ => no (fun q => by rw [← hQ] at q; exact u ((sq _).mpr q.2.2.2.1)), fun w => absurd rfl w⟩
  have q3 := (sq x3).mp ⟨u, v⟩
  refine ⟨fun w => absurd w z1, fun _ => SpI.mono (sp_Ref_between _ _ _) ?_⟩
  rintro r g ⟨e, (⟨u, v, rfl⟩ | ⟨u, rfl⟩)⟩ <;> subst g
  case inr => exact ⟨fun _ => no (fun q => by rw [← hQ] at q; exact u ((mx _).mpr q.2.2.2.2.1)), fun w => absurd rfl w⟩
  have q4 := (mx x4).mp ⟨u, v⟩
  refine ⟨fun w => absurd w z1, fun _ => SpI.mono (sp_Ref_between _ _ _) ?_⟩
  rintro r g ⟨e, (⟨u, v, rfl⟩ | ⟨u, rfl⟩)⟩ <;> subst g
  case inr => exact ⟨fun _ => no (fun q => by rw [← hQ] at q; exact u ((mx _).mpr q.2.2.2.2.2.1)), fun w => absurd rfl w⟩
  have q5 := (mx x5).mp ⟨u, v⟩
  refine ⟨fun w => absurd w z1, fun _ => SpI.mono (sp_Ref_between _ _ _) ?_⟩
  rintro r g ⟨e, (⟨u, v, rfl⟩ | ⟨u, rfl⟩)⟩ <;> subst g
  case inr => exact ⟨fun _ => no (fun q => by rw [← hQ] at q; exact u ((mx _).mpr q.2.2.2.2.2.2.1)), fun w => absurd rfl w⟩
  have q6 := (mx x6).mp ⟨u, v⟩
  refine ⟨fun w => absurd w z1, fun _ => ?_⟩
  have ab1 := (q1.ab.mul q2.ab).sub (q6.ab.mul q6.ab)
  have ab1l := ab1.lo
  have ab1h := ab1.hi
  have ab2 := det6_ab q1 q2 q3 q4 q5 q6
  have ab2l := ab2.lo
  have ab2h := ab2.hi
  have z0 : (0 : Int64).toInt = 0 := rfl
  have et : (x1.toInt64 * x2.toInt64 - x6.toInt64 * x6.toInt64).toInt = x1.toInt * x2.toInt - x6.toInt * x6.toInt := by
    rw [i2l_z, i2l_z, i2l_z, zL_mul, zL_mul, zL_sub, zL_toI (by omega) (by omega)]
  refine v_Ref_cell_1 _ _ _ _ _ _ _ _ _ _ ⟨fun w => absurd w z1, fun _ => ?_⟩
  rw [lc_gt, et, z0, show mi (sil h f l) 54 32 = nI n from h32, R54_29, show (6 : Int32) * nI n = nI (6 * n) from nI_mul 6 n]
  refine ⟨fun c7 => ?_, fun c => bad l Fr.refl (fun _ _ => rfl) (fun q => by rw [← hQ] at q; exact c q.2.2.2.2.2.2.2.1)⟩
  have bI : ∀ j : Nat, j < 6 → InB (nI (6 * n) + nI j) 240 := fun j hj => by rw [nI_add]; exact InB_nI (by omega) (by omega)
  have iI : ∀ j : Nat, j < 6 → ix (nI (6 * n) + nI j) = 6 * n + j := fun j hj => by rw [nI_add]; exact ix_nI (by omega)
  refine ⟨K54, K76, InB_nI (show 6 * n < 240 by omega) (by omega), ?_⟩
  rintro _ rfl
  refine ⟨bI 1 (by decide), ?_⟩
  rintro _ rfl
  refine ⟨bI 2 (by decide), ?_⟩
  rintro _ rfl
  refine ⟨bI 3 (by decide), ?_⟩
  rintro _ rfl
  rw [ix_nI (by omega), show ix (nI (6 * n) + (1 : Int32)) = 6 * n + 1 from iI 1 (by decide), show ix (nI (6 * n) + (2 : Int32)) = 6 * n + 2 from iI 2 (by decide), show ix (nI (6 * n) + (3 : Int32)) = 6 * n + 3 from iI 3 (by decide), wl_sil, wl_sil, wl_sil, wl_sil]
  refine v_Ref_cell_2 _ _ _ _ _ _ ⟨K54, ?_⟩
  rw [R54_29]
  refine ⟨K76, bI 4 (by decide), ?_⟩
  rintro _ rfl
  refine ⟨bI 5 (by decide), ?_⟩
  rintro _ rfl
  rw [show ix (nI (6 * n) + (4 : Int32)) = 6 * n + 4 from iI 4 (by decide), show ix (nI (6 * n) + (5 : Int32)) = 6 * n + 5 from iI 5 (by decide), wl_sil, wl_sil, i2l_z, i2l_z, i2l_z, i2l_z, i2l_z, i2l_z]
  generalize hl2 : up2 (up2 (up2 (up2 (up2 (up2 l 76 (6 * n) (zL x1.toInt)) 76 (6 * n + 1) (zL x2.toInt)) 76 (6 * n + 2) (zL x3.toInt)) 76 (6 * n + 3) (zL x4.toInt)) 76 (6 * n + 4) (zL x5.toInt)) 76 (6 * n + 5) (zL x6.toInt) = l2
  have s0 : l2 76 (6 * n) = zL x1.toInt := by rw [← hl2]; simp (disch := omega) only [up2_ni, up2_s]
  have s1 : l2 76 (6 * n + 1) = zL x2.toInt := by rw [← hl2]; simp (disch := omega) only [up2_ni, up2_s]
  have s2 : l2 76 (6 * n + 2) = zL x3.toInt := by rw [← hl2]; simp (disch := omega) only [up2_ni, up2_s]
  have s3 : l2 76 (6 * n + 3) = zL x4.toInt := by rw [← hl2]; simp (disch := omega) only [up2_ni, up2_s]
  have s4 : l2 76 (6 * n + 4) = zL x5.toInt := by rw [← hl2]; simp (disch := omega) only [up2_ni, up2_s]
  have s5 : l2 76 (6 * n + 5) = zL x6.toInt := by rw [← hl2]; simp (disch := omega) only [up2_ni, up2_s]
  have m76 : (76 : Nat) ∈ [76, 79] := by decide
  have fr2 : Fr [76, 79] l l2 := by rw [← hl2]; exact (((((Fr.refl.up m76).up m76).up m76).up m76).up m76).up m76
  have lo2 : ∀ j, j < 6 * n → l2 76 j = l 76 j := fun j hj => by rw [← hl2]; simp (disch := omega) only [up2_ni]
  refine v_Ref_determinantOf _ _ _ _ ⟨K76, InB_nI (show 6 * n < 240 by omega) (by omega), bI 1 (by decide), bI 2 (by decide), bI 3 (by decide), bI 4 (by decide), bI 5 (by decide), _, rfl, ?_⟩
  rw [ix_nI (by omega), show ix (nI (6 * n) + (1 : Int32)) = 6 * n + 1 from iI 1 (by decide), show ix (nI (6 * n) + (2 : Int32)) = 6 * n + 2 from iI 2 (by decide), show ix (nI (6 * n) + (3 : Int32)) = 6 * n + 3 from iI 3 (by decide), show ix (nI (6 * n) + (4 : Int32)) = 6 * n + 4 from iI 4 (by decide), show ix (nI (6 * n) + (5 : Int32)) = 6 * n + 5 from iI 5 (by decide), ml_sil, s0, s1, s2, s3, s4, s5]
  show (0 < (lg_cmp _ (0 : Int64)).toInt → _) ∧ (¬ 0 < (lg_cmp _ (0 : Int64)).toInt → _)
  have ed : (zL x1.toInt * (zL x2.toInt * zL x3.toInt - zL x4.toInt * zL x4.toInt) - zL x6.toInt * (zL x6.toInt * zL x3.toInt - zL x4.toInt * zL x5.toInt) + zL x5.toInt * (zL x6.toInt * zL x4.toInt - zL x2.toInt * zL x5.toInt)).toInt = det6 x1.toInt x2.toInt x3.toInt x4.toInt x5.toInt x6.toInt := by
    simp only [zL_mul, zL_sub, zL_add]
    exact zL_toI (by show _ ≤ det6 _ _ _ _ _ _; omega) (by show det6 _ _ _ _ _ _ < _; omega)
  rw [lc_gt, ed, z0]
  refine ⟨fun c8 => ?_, fun c => bad l2 fr2 lo2 (fun q => by rw [← hQ] at q; exact c q.2.2.2.2.2.2.2.2)⟩
  have hq : Q := by rw [← hQ]; exact ⟨by omega, q1, q2, q3, q4, q5, q6, c7, c8⟩
  have ok6 : okC (x1.toInt, x2.toInt, x3.toInt, x4.toInt, x5.toInt, x6.toInt) := ⟨n, by omega, q1, q2, q3, q4, q5, q6, c7, c8⟩
  refine WM.mono' (ref_cell3V (l0 := l) (s := (x1.toInt, x2.toInt, x3.toInt, x4.toInt, x5.toInt, x6.toInt)) hc hn (by omega) h32 fr2 lo2 (cell_OK q1 c7 c8) (by show x1.toInt + x2.toInt + x3.toInt ≤ 30000; have := q1.2; have := q2.2; have := q3.2; omega) (fun i hi => ?_)) ?_
  · have : i = 0 ∨ i = 1 ∨ i = 2 ∨ i = 3 ∨ i = 4 ∨ i = 5 := by omega
    rcases this with rfl | rfl | rfl | rfl | rfl | rfl <;> assumption
  rintro v g ⟨r, e1, e2, w⟩
  exact ⟨r, e1, Or.inl ⟨hq, e2.trans (by rw [hn]), w⟩⟩
theorem sp_Ref_cellV {h : MH} {f : (Nat → Nat → Int32)} {l : (Nat → Nat → Int64)} {CS : List S6} (hc : RCel f l CS) (x1 x2 x3 x4 x5 x6 : Int32) : SpI k_Ref_cell [.ref 54, .int x1, .int x2, .int x3, .int x4, .int x5, .int x6] (sil h f l) (fun r g => RcP h f l CS (x1.toInt, x2.toInt, x3.toInt, x4.toInt, x5.toInt, x6.toInt) (cellOk CS.length x1.toInt x2.toInt x3.toInt x4.toInt x5.toInt x6.toInt) r g) := sp_Ref_cellN rfl hc.1 hc.2.1 hc x1 x2 x3 x4 x5 x6
