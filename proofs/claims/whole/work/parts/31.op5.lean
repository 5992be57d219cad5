/-! the product of two operations, by their codes; -1: it is none -/
def eZ (c : Nat) : Nat → Int := fun j => (eS c j : Int)
theorem eZ_ok (c : Nat) : sOK (eZ c) := fun j _ => ⟨by unfold eZ; omega, by have := eS_lt c j; unfold eZ; omega⟩
theorem mulS_ok (M S T : Nat → Int) : sOK (mulS M S T) := fun j _ => ⟨Int.emod_nonneg _ (by decide), Int.emod_lt_of_pos _ (by decide)⟩
noncomputable def prod (p q : Nat) : Int := @ite Int (small (mul9 (eM p) (eM q))) (Classical.propDecidable _) (enc (mul9 (eM p) (eM q)) (mulS (eM p) (eZ p) (eZ q))) (-1)
theorem prod_s {p q : Nat} (h : small (mul9 (eM p) (eM q))) : prod p q = enc (mul9 (eM p) (eM q)) (mulS (eM p) (eZ p) (eZ q)) := if_pos h
theorem prod_n {p q : Nat} (h : ¬ small (mul9 (eM p) (eM q))) : prod p q = -1 := if_neg h
theorem prod_rng (p q : Nat) : prod p q = -1 ∨ (small (mul9 (eM p) (eM q)) ∧ 0 ≤ prod p q ∧ prod p q < 272097792) := by
  by_cases h : small (mul9 (eM p) (eM q))
  · rw [prod_s h]
    exact Or.inr ⟨h, enc_rng h (mulS_ok _ _ _)⟩
  · exact Or.inl (prod_n h)
theorem prod_b (p q : Nat) : -1 ≤ prod p q ∧ prod p q < 272097792 := by
  rcases prod_rng p q with e | e <;> omega
theorem MatAt.z {f : Nat → Nat → Int32} {a : Nat} {M : Nat → Int} (h : MatAt f a M) : ∀ j, j < 9 → f a j = zI (M j) := fun j hj => of_toI (h j hj)
theorem ShAt.z {f : Nat → Nat → Int32} {a : Nat} {M : Nat → Int} (h : ShAt f a M) : ∀ j, j < 3 → f a j = zI (M j) := fun j hj => of_toI (h j hj)
theorem sp_Ref_closed {h : MH} {a b : Nat} {M S : Nat → Int} (ka : kd h a = 20) (la : ln h a = 9) (kb : kd h b = 20) (lb : ln h b = 3) (hM : MatAt (mi h) a M) (hS : ShAt (mi h) b S) :
    SpI k_Ref_closed [.ref a, .ref b] h (fun r h' => h' = h ∧ ((small M ∧ r = zI (enc M S)) ∨ (¬ small M ∧ r = zI (-1)))) := by
  have e := hM.z
  have es := hS.z
  refine v_Ref_closed a b h _ ?_
  refine up_ind (α := Unit) 9 (fun i _ => ∀ j, j < i → -1 ≤ M j ∧ M j ≤ 1) (fun i _ => WM k_Ref_closed p_Ref_closed_1 [.ref a, .ref b, .int (zI (pe M i)), .int (nI i)] [] h 0 0 _) ?_ ?_ 0 () (by decide) (fun j hj => absurd hj (Nat.not_lt_zero j))
  · intro i _ hi hI ih
    have hb1 := hb_lo (mi h a i)
    have hb2 := hb_hi (mi h a i)
    rw [hM i hi] at hb1 hb2
    refine v_Ref_closed_1 a b _ _ _ _ ?_
    simp (disch := omega) only [↓(show (-1 : Int32) = zI (-1) from rfl), (show (0 : Int32) = nI 0 from rfl), (show (1 : Int32) = nI 1 from rfl), (show (2 : Int32) = nI 2 from rfl), (show (3 : Int32) = nI 3 from rfl), (show (9 : Int32) = nI 9 from rfl), (show (24 : Int32) = nI 24 from rfl), (show (576 : Int32) = nI 576 from rfl), (show (13824 : Int32) = nI 13824 from rfl), nI_add, nI_mul, nI_1, ix_nI, nI_toI, div_nI, irm_nI, InB_t, zI_add, zI_sub, zI_mul, zI_neg, nI_addZ, zI_addN, nI_mulZ, zI_mulN, nI_subZ, zI_subN, zI_toI, Int.cast_ofNat_Int, mi_sil, ml_sil, hn_sil, wi_sil, wl_sil, up2_ne, up2_s, true_and, and_true, forall_eq, true_implies, implies_true, forall_const, ne_eq, ka, la, e, l_m1]
    refine ⟨fun _ => ⟨fun c => ⟨_, rfl, Or.inr ⟨fun q => ?_, rfl⟩⟩, fun c1 => ⟨fun c => ⟨_, rfl, Or.inr ⟨fun q => ?_, rfl⟩⟩, fun c2 => ?_⟩⟩, fun c => absurd (by omega) c⟩
    · have := q i hi; omega
    · have := q i hi; omega
    · have := ih () (fun j hj => by
        by_cases q : j = i
        · subst q; omega
        · exact hI j (by omega))
      simp only [pe] at this
      rw [show 3 * pe M i + M i + 1 = pe M i * 3 + M i + 1 by omega]
      exact this
  · intro _ hI
    refine v_Ref_closed_1 a b _ _ _ _ ?_
    simp (disch := omega) only [↓(show (-1 : Int32) = zI (-1) from rfl), (show (0 : Int32) = nI 0 from rfl), (show (1 : Int32) = nI 1 from rfl), (show (2 : Int32) = nI 2 from rfl), (show (3 : Int32) = nI 3 from rfl), (show (9 : Int32) = nI 9 from rfl), (show (24 : Int32) = nI 24 from rfl), (show (576 : Int32) = nI 576 from rfl), (show (13824 : Int32) = nI 13824 from rfl), nI_add, nI_mul, nI_1, ix_nI, nI_toI, div_nI, irm_nI, InB_t, zI_add, zI_sub, zI_mul, zI_neg, nI_addZ, zI_addN, nI_mulZ, zI_mulN, nI_subZ, zI_subN, zI_toI, Int.cast_ofNat_Int, mi_sil, ml_sil, hn_sil, wi_sil, wl_sil, up2_ne, up2_s, true_and, and_true, forall_eq, true_implies, implies_true, forall_const, ne_eq, ka, kb, la, lb, e, es, l_m1]
    refine ⟨fun c => absurd c (by decide), fun _ => ⟨_, rfl, Or.inl ⟨hI, ?_⟩⟩⟩
    rw [pe_9]
    unfold enc
    congr 1
    omega
theorem sp_Ref_times {h : MH} {f : (Nat → Nat → Int32)} {l : (Nat → Nat → Int64)} {p q : Nat} (hp : cOK p) (hq : cOK q) :
    SpI k_Ref_times [.ref 54, .int (nI p), .int (nI q)] (sil h f l) (fun r g => r = zI (prod p q) ∧ ∃ f', g = sil h f' l ∧ ∀ a, a ≠ 57 → a ≠ 58 → a ≠ 59 → a ≠ 60 → a ≠ 95 → a ≠ 96 → f' a = f a) := by
  refine v_Ref_times 54 _ _ _ _ ?_
  simp (disch := omega) only [(show (0 : Int32) = nI 0 from rfl), (show (1 : Int32) = nI 1 from rfl), (show (2 : Int32) = nI 2 from rfl), (show (3 : Int32) = nI 3 from rfl), (show (6 : Int32) = nI 6 from rfl), (show (24 : Int32) = nI 24 from rfl), nI_add, nI_mul, nI_1, ix_nI, nI_toI, div_nI, irm_nI, InB_t, zI_add, zI_sub, zI_mul, zI_neg, nI_addZ, zI_addN, nI_mulZ, zI_mulN, nI_subZ, zI_subN, zI_toI, Int.cast_ofNat_Int, mi_sil, ml_sil, hn_sil, wi_sil, wl_sil, up2_ne, up2_s, true_and, and_true, forall_eq, true_implies, implies_true, forall_const, ne_eq, K54, R54_3, K57, L57, R54_4, K58, L58, R54_5, K59, L59, R54_6, K60, L60, R54_59, K95, L95, R54_60, K96, L96]
  refine SpV.mono (sp_Ref_open (h := sil h f l) (a := 57) (b := 58) rfl rfl rfl rfl (by decide) hp) ?_
  rintro _ ⟨f1, rfl, o1, m1, s1⟩
  rw [si_sil]
  simp (disch := omega) only [(show (0 : Int32) = nI 0 from rfl), (show (1 : Int32) = nI 1 from rfl), (show (2 : Int32) = nI 2 from rfl), (show (3 : Int32) = nI 3 from rfl), (show (6 : Int32) = nI 6 from rfl), (show (24 : Int32) = nI 24 from rfl), nI_add, nI_mul, nI_1, ix_nI, nI_toI, div_nI, irm_nI, InB_t, zI_add, zI_sub, zI_mul, zI_neg, nI_addZ, zI_addN, nI_mulZ, zI_mulN, nI_subZ, zI_subN, zI_toI, Int.cast_ofNat_Int, mi_sil, ml_sil, hn_sil, wi_sil, wl_sil, up2_ne, up2_s, true_and, and_true, forall_eq, true_implies, implies_true, forall_const, ne_eq, K54, R54_3, K57, L57, R54_4, K58, L58, R54_5, K59, L59, R54_6, K60, L60, R54_59, K95, L95, R54_60, K96, L96, R54_5]
  refine SpV.mono (sp_Ref_open (h := sil h f1 l) (a := 59) (b := 60) rfl rfl rfl rfl (by decide) hq) ?_
  rintro _ ⟨f2, rfl, o2, m2, s2⟩
  rw [si_sil]
  have m1 : MatAt f2 57 (eM p) := fun j hj => by rw [o2 57 (by decide) (by decide)]; exact m1 j hj
  have s1 : ShAt f2 58 (eZ p) := fun j hj => by rw [o2 58 (by decide) (by decide)]; exact s1 j hj
  have s2 : ShAt f2 60 (eZ q) := s2
  have o2 : ∀ a, a ≠ 57 → a ≠ 58 → a ≠ 59 → a ≠ 60 → f2 a = f a := fun a a1 a2 a3 a4 => by rw [o2 a a3 a4]; exact o1 a a1 a2
  have e1 := m1.z
  have e2 := m2.z
  have e3 := s1.z
  have e4 := s2.z
  have M1 := eM_small p
  have M2 := eM_small q
  refine up_ind (α := (Nat → Nat → Int32)) 3 (fun i g => (∀ a, a ≠ 95 → a ≠ 96 → g a = f2 a) ∧ (∀ j, j < 3 * i → g 95 j = zI (mul9 (eM p) (eM q) j)) ∧ (∀ j, j < i → g 96 j = zI (mulS (eM p) (eZ p) (eZ q) j))) (fun i g => WM k_Ref_times p_Ref_times_1 [.ref 54, Jv, Jv, .int (nI i), Jv] [] (sil h g l) 0 0 _) ?_ ?_ 0 f2 (by decide) ⟨fun _ _ _ => rfl, fun j hj => absurd hj (Nat.not_lt_zero j), fun j hj => absurd hj (Nat.not_lt_zero j)⟩
  · intro i g hi ⟨g1, g2, g3⟩ ih
    refine v_Ref_times_1 54 _ _ _ ?_
    simp (disch := omega) only [(show (0 : Int32) = nI 0 from rfl), (show (1 : Int32) = nI 1 from rfl), (show (2 : Int32) = nI 2 from rfl), (show (3 : Int32) = nI 3 from rfl), (show (6 : Int32) = nI 6 from rfl), (show (24 : Int32) = nI 24 from rfl), nI_add, nI_mul, nI_1, ix_nI, nI_toI, div_nI, irm_nI, InB_t, zI_add, zI_sub, zI_mul, zI_neg, nI_addZ, zI_addN, nI_mulZ, zI_mulN, nI_subZ, zI_subN, zI_toI, Int.cast_ofNat_Int, mi_sil, ml_sil, hn_sil, wi_sil, wl_sil, up2_ne, up2_s, true_and, and_true, forall_eq, true_implies, implies_true, forall_const, ne_eq, K54, R54_3, K57, L57, R54_4, K58, L58, R54_5, K59, L59, R54_6, K60, L60, R54_59, K95, L95, R54_60, K96, L96]
    refine ⟨fun _ => ?_, fun c => absurd (by omega) c⟩
    refine up_ind (α := (Nat → Nat → Int32)) 3 (fun k g => (∀ a, a ≠ 95 → a ≠ 96 → g a = f2 a) ∧ (∀ j, j < 3 * i + k → g 95 j = zI (mul9 (eM p) (eM q) j)) ∧ (∀ j, j < i → g 96 j = zI (mulS (eM p) (eZ p) (eZ q) j))) (fun k g => WM k_Ref_times p_Ref_times_2 [.ref 54, Jv, Jv, .int (nI i), .int (nI k)] [] (sil h g l) 0 0 _) ?_ ?_ 0 g (by decide) ⟨g1, g2, g3⟩
    · intro k g hk ⟨g1, g2, g3⟩ ih2
      have x1 := g1 57 (by decide) (by decide)
      have x2 := g1 59 (by decide) (by decide)
      refine v_Ref_times_2 54 _ _ _ _ ?_
      simp (disch := omega) only [(show (0 : Int32) = nI 0 from rfl), (show (1 : Int32) = nI 1 from rfl), (show (2 : Int32) = nI 2 from rfl), (show (3 : Int32) = nI 3 from rfl), (show (6 : Int32) = nI 6 from rfl), (show (24 : Int32) = nI 24 from rfl), nI_add, nI_mul, nI_1, ix_nI, nI_toI, div_nI, irm_nI, InB_t, zI_add, zI_sub, zI_mul, zI_neg, nI_addZ, zI_addN, nI_mulZ, zI_mulN, nI_subZ, zI_subN, zI_toI, Int.cast_ofNat_Int, mi_sil, ml_sil, hn_sil, wi_sil, wl_sil, up2_ne, up2_s, true_and, and_true, forall_eq, true_implies, implies_true, forall_const, ne_eq, K54, R54_3, K57, L57, R54_4, K58, L58, R54_5, K59, L59, R54_6, K60, L60, R54_59, K95, L95, R54_60, K96, L96, x1, x2, e1, e2]
      refine ⟨fun _ => ?_, fun c => absurd (by omega) c⟩
      refine ih2 _ ⟨fun a a1 a2 => by rw [up2_row a1, g1 a a1 a2], fun j hj => ?_, fun j hj => by rw [up2_ne (by decide), g3 j hj]⟩
      by_cases q : j = 3 * i + k
      · rw [q, up2_s, mul9_at _ _ hk]
      · rw [up2_ni q, g2 j (by omega)]
    · intro g ⟨g1, g2, g3⟩
      have x1 := g1 57 (by decide) (by decide)
      have x2 := g1 58 (by decide) (by decide)
      have x3 := g1 60 (by decide) (by decide)
      refine v_Ref_times_2 54 _ _ _ _ ?_
      simp (disch := omega) only [(show (0 : Int32) = nI 0 from rfl), (show (1 : Int32) = nI 1 from rfl), (show (2 : Int32) = nI 2 from rfl), (show (3 : Int32) = nI 3 from rfl), (show (6 : Int32) = nI 6 from rfl), (show (24 : Int32) = nI 24 from rfl), nI_add, nI_mul, nI_1, ix_nI, nI_toI, div_nI, irm_nI, InB_t, zI_add, zI_sub, zI_mul, zI_neg, nI_addZ, zI_addN, nI_mulZ, zI_mulN, nI_subZ, zI_subN, zI_toI, Int.cast_ofNat_Int, mi_sil, ml_sil, hn_sil, wi_sil, wl_sil, up2_ne, up2_s, true_and, and_true, forall_eq, true_implies, implies_true, forall_const, ne_eq, K54, R54_3, K57, L57, R54_4, K58, L58, R54_5, K59, L59, R54_6, K60, L60, R54_59, K95, L95, R54_60, K96, L96, x1, x2, x3, e1, e3, e4]
      refine ⟨fun c => absurd c (by decide), fun _ => ?_⟩
      refine v_Ref_times_3 54 _ _ _ _ ?_
      simp (disch := omega) only [(show (0 : Int32) = nI 0 from rfl), (show (1 : Int32) = nI 1 from rfl), (show (2 : Int32) = nI 2 from rfl), (show (3 : Int32) = nI 3 from rfl), (show (6 : Int32) = nI 6 from rfl), (show (24 : Int32) = nI 24 from rfl), nI_add, nI_mul, nI_1, ix_nI, nI_toI, div_nI, irm_nI, InB_t, zI_add, zI_sub, zI_mul, zI_neg, nI_addZ, zI_addN, nI_mulZ, zI_mulN, nI_subZ, zI_subN, zI_toI, Int.cast_ofNat_Int, mi_sil, ml_sil, hn_sil, wi_sil, wl_sil, up2_ne, up2_s, true_and, and_true, forall_eq, true_implies, implies_true, forall_const, ne_eq, K54, R54_3, K57, L57, R54_4, K58, L58, R54_5, K59, L59, R54_6, K60, L60, R54_59, K95, L95, R54_60, K96, L96]
      have ab : Ab (eM p (3 * i) * eZ q 0 + eM p (3 * i + 1) * eZ q 1 + eM p (3 * i + 2) * eZ q 2 + eZ p i) 100 := by
        have z : ∀ c j, j < 3 → Ab (eZ c j) 23 := fun c j hj => Ab.of (by have := eZ_ok c j hj; omega) (by have := eZ_ok c j hj; omega)
        exact (((((M1.ab (by omega)).mul (z q 0 (by decide))).add ((M1.ab (by omega)).mul (z q 1 (by decide)))).add ((M1.ab (by omega)).mul (z q 2 (by decide)))).add (z p i hi)).wk (by decide)
      have a1 := ab.lo
      have a2 := ab.hi
      rw [irm_fm (by omega) (by omega) (by decide) (by decide)]
      refine ih _ ⟨fun a a1 a2 => by rw [up2_row a2, g1 a a1 a2], fun j hj => by rw [up2_ne (by decide), g2 j (by omega)], fun j hj => ?_⟩
      by_cases w : j = i
      · rw [w, up2_s]; rfl
      · rw [up2_ni w, g3 j (by omega)]
  · intro g ⟨g1, g2, g3⟩
    refine v_Ref_times_1 54 _ _ _ ?_
    simp (disch := omega) only [(show (0 : Int32) = nI 0 from rfl), (show (1 : Int32) = nI 1 from rfl), (show (2 : Int32) = nI 2 from rfl), (show (3 : Int32) = nI 3 from rfl), (show (6 : Int32) = nI 6 from rfl), (show (24 : Int32) = nI 24 from rfl), nI_add, nI_mul, nI_1, ix_nI, nI_toI, div_nI, irm_nI, InB_t, zI_add, zI_sub, zI_mul, zI_neg, nI_addZ, zI_addN, nI_mulZ, zI_mulN, nI_subZ, zI_subN, zI_toI, Int.cast_ofNat_Int, mi_sil, ml_sil, hn_sil, wi_sil, wl_sil, up2_ne, up2_s, true_and, and_true, forall_eq, true_implies, implies_true, forall_const, ne_eq, K54, R54_3, K57, L57, R54_4, K58, L58, R54_5, K59, L59, R54_6, K60, L60, R54_59, K95, L95, R54_60, K96, L96]
    refine ⟨fun c => absurd c (by decide), fun _ => ?_⟩
    have rb : ∀ j, j < 9 → Ab (mul9 (eM p) (eM q) j) 3 := fun j hj => ((((M1.ab (by omega)).mul (M2.ab (by omega))).add ((M1.ab (by omega)).mul (M2.ab (by omega)))).add ((M1.ab (by omega)).mul (M2.ab (by omega)))).wk (by decide)
    have mm : MatAt g 95 (mul9 (eM p) (eM q)) := fun j hj => by
      have a1 := (rb j hj).lo
      have a2 := (rb j hj).hi
      rw [g2 j (by omega), zI_toI (by omega) (by omega)]
    have ms : ShAt g 96 (mulS (eM p) (eZ p) (eZ q)) := fun j hj => by
      have := mulS_ok (eM p) (eZ p) (eZ q) j hj
      rw [g3 j (by omega), zI_toI (by omega) (by omega)]
    refine SpI.mono (sp_Ref_closed (h := sil h g l) (a := 95) (b := 96) rfl rfl rfl rfl mm ms) ?_
    rintro r _ ⟨rfl, hr⟩
    refine ⟨_, rfl, ?_, g, rfl, fun a a1 a2 a3 a4 a5 a6 => by rw [g1 a a5 a6, o2 a a1 a2 a3 a4]⟩
    rcases hr with ⟨u1, u2⟩ | ⟨u1, u2⟩
    · rw [u2, prod_s u1]
    · rw [u2, prod_n u1]
theorem sp_Ho_joined {h : MH} {f : (Nat → Nat → Int32)} {l : (Nat → Nat → Int64)} {p q : Nat} (hp : cOK p) (hq : cOK q) :
    SpI k_Ho_joined [.ref 5, .int (nI p), .int (nI q)] (sil h f l) (fun r g => r = zI (prod p q) ∧ ∃ f', g = sil h f' l ∧ ∀ a, a ≠ 31 → a ≠ 32 → a ≠ 34 → a ≠ 35 → a ≠ 37 → a ≠ 38 → f' a = f a) := by
  refine v_Ho_joined 5 _ _ _ _ ?_
  simp (disch := omega) only [nI_add, nI_mul, nI_1, ix_nI, nI_toI, div_nI, irm_nI, InB_t, zI_add, zI_sub, zI_mul, zI_neg, nI_addZ, zI_addN, nI_mulZ, zI_mulN, nI_subZ, zI_subN, zI_toI, Int.cast_ofNat_Int, mi_sil, ml_sil, hn_sil, wi_sil, wl_sil, up2_ne, up2_s, true_and, and_true, forall_eq, true_implies, implies_true, forall_const, ne_eq, Kd5, R5_7, K30, K9, K20, K23, K26, K33, K36, R5_8, R5_9]
  refine SpV.mono (sp_Motion_open (h := sil h f l) (x := 30) (a := 31) (b := 32) rfl rfl rfl rfl rfl rfl rfl (by decide) hp) ?_
  rintro _ ⟨f1, rfl, o1, m1, s1⟩
  rw [si_sil]
  simp (disch := omega) only [nI_add, nI_mul, nI_1, ix_nI, nI_toI, div_nI, irm_nI, InB_t, zI_add, zI_sub, zI_mul, zI_neg, nI_addZ, zI_addN, nI_mulZ, zI_mulN, nI_subZ, zI_subN, zI_toI, Int.cast_ofNat_Int, mi_sil, ml_sil, hn_sil, wi_sil, wl_sil, up2_ne, up2_s, true_and, and_true, forall_eq, true_implies, implies_true, forall_const, ne_eq, Kd5, R5_7, K30, K9, K20, K23, K26, K33, K36, R5_8, R5_9, R5_8]
  refine SpV.mono (sp_Motion_open (h := sil h f1 l) (x := 33) (a := 34) (b := 35) rfl rfl rfl rfl rfl rfl rfl (by decide) hq) ?_
  rintro _ ⟨f2, rfl, o2, m2, s2⟩
  rw [si_sil]
  simp (disch := omega) only [nI_add, nI_mul, nI_1, ix_nI, nI_toI, div_nI, irm_nI, InB_t, zI_add, zI_sub, zI_mul, zI_neg, nI_addZ, zI_addN, nI_mulZ, zI_mulN, nI_subZ, zI_subN, zI_toI, Int.cast_ofNat_Int, mi_sil, ml_sil, hn_sil, wi_sil, wl_sil, up2_ne, up2_s, true_and, and_true, forall_eq, true_implies, implies_true, forall_const, ne_eq, Kd5, R5_7, K30, K9, K20, K23, K26, K33, K36, R5_8, R5_9, R5_8]
  have m1 : MatAt f2 31 (eM p) := fun j hj => by rw [o2 31 (by decide) (by decide)]; exact m1 j hj
  have s1 : ShAt f2 32 (eZ p) := fun j hj => by rw [o2 32 (by decide) (by decide)]; exact s1 j hj
  have s2 : ShAt f2 35 (eZ q) := s2
  refine SpV.mono (sp_Motion_join (h := sil h f2 l) (x0 := 36) (x1 := 30) (x2 := 33) (a0 := 37) (b0 := 38) (a1 := 31) (b1 := 32) (a2 := 34) (b2 := 35) rfl rfl rfl rfl rfl rfl rfl rfl rfl rfl rfl rfl rfl rfl rfl rfl rfl rfl rfl rfl rfl (by decide) (by decide) (by decide) (by decide) (by decide) (by decide) (by decide) (by decide) (by decide) m1 s1 m2 s2 (eM_small p) (eM_small q) (eZ_ok p) (eZ_ok q)) ?_
  rintro _ ⟨f3, rfl, o3, m3, s3⟩
  rw [si_sil]
  simp (disch := omega) only [nI_add, nI_mul, nI_1, ix_nI, nI_toI, div_nI, irm_nI, InB_t, zI_add, zI_sub, zI_mul, zI_neg, nI_addZ, zI_addN, nI_mulZ, zI_mulN, nI_subZ, zI_subN, zI_toI, Int.cast_ofNat_Int, mi_sil, ml_sil, hn_sil, wi_sil, wl_sil, up2_ne, up2_s, true_and, and_true, forall_eq, true_implies, implies_true, forall_const, ne_eq, Kd5, R5_7, K30, K9, K20, K23, K26, K33, K36, R5_8, R5_9, R5_8]
  refine SpI.mono (sp_Motion_code (h := sil h f3 l) (x := 36) (a := 37) (b := 38) rfl rfl rfl rfl rfl rfl rfl m3 s3 (mulS_ok _ _ _)) ?_
  rintro r _ ⟨rfl, hr⟩
  refine ⟨_, rfl, ?_, f3, rfl, fun a a1 a2 a3 a4 a5 a6 => ?_⟩
  · rcases hr with ⟨u1, u2⟩ | ⟨u1, u2⟩
    · rw [of_toI u2, prod_s u1]
    · rw [u2, prod_n u1]; rfl
  · rw [o3 a a5 a6]
    show f2 a = f a
    rw [o2 a a3 a4]
    exact o1 a a1 a2
