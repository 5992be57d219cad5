/-! phases are told; none is there -/
def phOk (n : Nat) (p q : Int32) (e : Int64) : Prop := n < 40 ∧ (0 ≤ p.toInt ∧ p.toInt ≤ 99) ∧ (0 ≤ q.toInt ∧ q.toInt ≤ 99) ∧ p.toInt + q.toInt ≠ 0 ∧ -100000000 ≤ e.toInt ∧ e.toInt ≤ 100000000
def phF (f : (Nat → Nat → Int32)) (a b o k n : Nat) (p q : Int32) : (Nat → Nat → Int32) := up2 (up2 (up2 f a n p) b n q) o k (nI (n + 1))
theorem sum0 {p q : Int32} (h1 : 0 ≤ p.toInt ∧ p.toInt ≤ 99) (h2 : 0 ≤ q.toInt ∧ q.toInt ≤ 99) : (p + q = 0) ↔ p.toInt + q.toInt = 0 := by
  have t0 : (0 : Int32).toInt = 0 := rfl
  have e := hb_add p q (by omega)
  exact ⟨fun h => by rw [h, t0] at e; omega, fun h => hb_eq (by rw [e, h, t0])⟩
theorem sp_Phases_keep {h : MH} {f : (Nat → Nat → Int32)} {l : (Nat → Nat → Int64)} {n : Nat} (hn : f 50 3 = nI n) (h40 : n ≤ 40) (p q : Int32) (e : Int64) : SpI k_Phases_keep [.ref 50, .int p, .int q, .long e] (sil h f l) (fun r g =>
    (phOk n p q e ∧ r = nI n ∧ g = sil h (phF f 51 52 50 3 n p q) (up2 l 53 n e)) ∨ (¬ phOk n p q e ∧ r = -1 ∧ g = sil h f l)) := by
  have t40 : (40 : Int32).toInt = 40 := rfl
  have t99 : (99 : Int32).toInt = 99 := rfl
  have a1 : (-100000000 : Int64).toInt = -100000000 := rfl
  have a2 : (100000000 : Int64).toInt = 100000000 := rfl
  have tn : (nI n).toInt = (n : Int) := nI_toI (by omega)
  have no : ¬ phOk n p q e → ∃ v, Value.int (-1) = .int v ∧ ((phOk n p q e ∧ v = nI n ∧ sil h f l = sil h (phF f 51 52 50 3 n p q) (up2 l 53 n e)) ∨ (¬ phOk n p q e ∧ v = -1 ∧ sil h f l = sil h f l)) := fun q => ⟨_, rfl, Or.inr ⟨q, rfl, rfl⟩⟩
  refine v_Phases_keep _ _ _ _ _ _ ⟨K50, ?_⟩
  rw [show mi (sil h f l) 50 3 = nI n from hn, t40, t99, tn, R50_0, R50_1, R50_2, lc_lt, lc_gt, a1, a2]
  refine ⟨fun c1 => ⟨fun c => no (fun w => by have := w.2.1; omega), fun c2 => ⟨fun c => no (fun w => by have := w.2.1; omega), fun c3 => ⟨fun c => no (fun w => by have := w.2.2.1; omega), fun c4 => ⟨fun c => no (fun w => by have := w.2.2.1; omega), fun c5 => ⟨fun c => no (fun w => w.2.2.2.1 ((sum0 w.2.1 w.2.2.1).mp c)), fun c6 => ⟨fun c => no (fun w => by have := w.2.2.2.2; omega), fun c7 => ⟨fun c => no (fun w => by have := w.2.2.2.2; omega), fun c8 => ?_⟩⟩⟩⟩⟩⟩⟩, fun c => no (fun w => by have := w.1; omega)⟩
  have ok : phOk n p q e := ⟨by omega, by omega, by omega, fun w => c6 ((sum0 (by omega) (by omega)).mpr w), by omega, by omega⟩
  refine ⟨K51, InB_nI (show n < 40 by omega) (by omega), ?_⟩
  rintro _ rfl
  refine ⟨K52, InB_nI (show n < 40 by omega) (by omega), ?_⟩
  rintro _ rfl
  refine ⟨K53, InB_nI (show n < 40 by omega) (by omega), ?_⟩
  rintro _ rfl
  rintro _ rfl
  rw [ix_nI (by omega)]
  refine v_Phases_keep_1 _ _ _ ⟨_, rfl, Or.inl ⟨ok, rfl, ?_⟩⟩
  simp (disch := decide) only [wi_sil, wl_sil, mi_sil, up2_ne, hn, nI_1]
  rfl
theorem sp_Ho_phase {h : MH} {f : (Nat → Nat → Int32)} {l : (Nat → Nat → Int64)} {n : Nat} (hn : f 50 3 = nI n) (h40 : n ≤ 40) (p q : Int32) (e : Int64) : SpI k_Ho_phase [.ref 5, .int p, .int q, .long e] (sil h f l) (fun r g =>
    (phOk n p q e ∧ r = nI n ∧ g = sil h (phF f 51 52 50 3 n p q) (up2 l 53 n e)) ∨ (¬ phOk n p q e ∧ r = -1 ∧ g = sil h f l)) := by
  refine v_Ho_phase _ _ _ _ _ _ ⟨Kd5, ?_⟩
  rw [R5_18]
  refine ⟨K50, SpI.mono (sp_Phases_keep hn h40 p q e) ?_⟩
  intro r g w
  exact ⟨_, rfl, w⟩
theorem sp_Ref_between {h : MH} (x a b : Int64) : SpI k_Ref_between [.long x, .long a, .long b] h (fun r g => g = h ∧ ((a.toInt ≤ x.toInt ∧ x.toInt ≤ b.toInt ∧ r = 1) ∨ (¬ (a.toInt ≤ x.toInt ∧ x.toInt ≤ b.toInt) ∧ r = 0))) := by
  refine v_Ref_between _ _ _ _ _ ?_
  rw [lc_lt, lc_gt]
  exact ⟨fun c => ⟨_, rfl, rfl, Or.inr ⟨by omega, rfl⟩⟩, fun c => ⟨fun c2 => ⟨_, rfl, rfl, Or.inr ⟨by omega, rfl⟩⟩, fun c2 => ⟨_, rfl, rfl, Or.inl ⟨by omega, by omega, rfl⟩⟩⟩⟩
theorem sp_Ref_phase {h : MH} {f : (Nat → Nat → Int32)} {l : (Nat → Nat → Int64)} {n : Nat} (hn : f 54 56 = nI n) (h40 : n ≤ 40) (p q : Int32) (e : Int64) : SpI k_Ref_phase [.ref 54, .int p, .int q, .long e] (sil h f l) (fun r g =>
    (phOk n p q e ∧ r = nI n ∧ g = sil h (phF f 92 93 54 56 n p q) (up2 l 94 n e)) ∨ (¬ phOk n p q e ∧ r = -1 ∧ g = sil h f l)) := by
  have a1 : (-100000000 : Int64).toInt = -100000000 := rfl
  have a2 : (100000000 : Int64).toInt = 100000000 := rfl
  have a3 : (0 : Int64).toInt = 0 := rfl
  have a4 : (99 : Int64).toInt = 99 := rfl
  have e40 : (nI n = (40 : Int32)) = (n = 40) := nI_inj (y := 40) (by omega) (by decide)
  have no : ¬ phOk n p q e → ∃ v, Value.int (-1) = .int v ∧ ((phOk n p q e ∧ v = nI n ∧ sil h f l = sil h (phF f 92 93 54 56 n p q) (up2 l 94 n e)) ∨ (¬ phOk n p q e ∧ v = -1 ∧ sil h f l = sil h f l)) := fun q => ⟨_, rfl, Or.inr ⟨q, rfl, rfl⟩⟩
  have z1 : ¬ (1 : Int32) = 0 := by decide
  refine v_Ref_phase _ _ _ _ _ _ ⟨K54, ?_⟩
  rw [show mi (sil h f l) 54 56 = nI n from hn, e40]
  refine ⟨fun c => no (fun w => by have := w.1; omega), fun c0 => SpI.mono (sp_Ref_between _ _ _) ?_⟩
  rintro r g ⟨e0, hr⟩
  subst g
  rw [i2l_int, a3, a4] at hr
  rcases hr with ⟨c1, c2, rfl⟩ | ⟨c1, rfl⟩
  · refine ⟨fun w => absurd w z1, fun _ => SpI.mono (sp_Ref_between _ _ _) ?_⟩
    rintro r g ⟨e0, hr⟩
    subst g
    rw [i2l_int, a3, a4] at hr
    rcases hr with ⟨c3, c4, rfl⟩ | ⟨c3, rfl⟩
    · refine ⟨fun w => absurd w z1, fun _ => ⟨fun c => no (fun w => w.2.2.2.1 ((sum0 w.2.1 w.2.2.1).mp c)), fun c5 => SpI.mono (sp_Ref_between _ _ _) ?_⟩⟩
      rintro r g ⟨e0, hr⟩
      subst g
      rw [a1, a2] at hr
      rcases hr with ⟨c6, c7, rfl⟩ | ⟨c6, rfl⟩
      · refine ⟨fun w => absurd w z1, fun _ => ⟨K54, ?_⟩⟩
        have ok : phOk n p q e := ⟨by omega, by omega, by omega, fun w => c5 ((sum0 (by omega) (by omega)).mpr w), by omega, by omega⟩
        rw [R54_53, R54_54, R54_55, show mi (sil h f l) 54 56 = nI n from hn]
        refine ⟨K92, InB_nI (show n < 40 by omega) (by omega), ?_⟩
        rintro _ rfl
        have e1 : ∀ x y : Int32, mi (wi (sil h f l) 92 x.toNatClampNeg y) 54 56 = nI n := fun x y => by rw [wi_sil, mi_sil, up2_ne (by decide)]; exact hn
        rw [show mi (wi (sil h f l) 92 (ix (nI n)) p) 54 56 = nI n from e1 (nI n) p]
        refine ⟨K93, InB_nI (show n < 40 by omega) (by omega), ?_⟩
        rintro _ rfl
        rw [show mi (wi (wi (sil h f l) 92 (ix (nI n)) p) 93 (ix (nI n)) q) 54 56 = nI n by rw [wi_sil, wi_sil, mi_sil, up2_ne (by decide), up2_ne (by decide)]; exact hn]
        refine ⟨K94, InB_nI (show n < 40 by omega) (by omega), ?_⟩
        rintro _ rfl
        rintro _ rfl
        rw [ix_nI (by omega), nI_1]
        refine v_Ref_phase_1 _ _ _ ⟨K54, _, rfl, Or.inl ⟨ok, ?_, ?_⟩⟩
        · rw [wi_sil, wi_sil, wl_sil, wi_sil, mi_sil, up2_s]
          show nI (n + 1) - nI 1 = _
          rw [pk_sub (by omega)]
          rfl
        · rw [wi_sil, wi_sil, wl_sil, wi_sil]
          rfl
      · exact ⟨fun _ => no (fun w => c6 w.2.2.2.2), fun w => absurd rfl w⟩
    · exact ⟨fun _ => no (fun w => c3 w.2.2.1), fun w => absurd rfl w⟩
  · exact ⟨fun _ => no (fun w => c1 w.2.1), fun w => absurd rfl w⟩
/-- above, while no phase is told -/
theorem no_Ho_above {h : MH} {f : (Nat → Nat → Int32)} {l : (Nat → Nat → Int64)} (hn : f 50 3 = nI 0) (x y : Int32) : SpL k_Ho_above [.ref 5, .int x, .int y] (sil h f l) (fun r g => g = sil h f l ∧ r = 0) := by
  have t0 : (nI 0).toInt = 0 := rfl
  have z0 : (0 : Int32).toInt = 0 := rfl
  refine v_Ho_above _ _ _ _ _ ?_
  rw [R5_18, show mi (sil h f l) 50 3 = nI 0 from hn, t0]
  refine ⟨fun _ => ⟨Kd5, K50, ?_⟩, fun _ => ⟨fun _ => ⟨_, rfl, rfl, rfl⟩, fun c => ⟨Kd5, K50, fun c2 => absurd c2 c, fun _ => ⟨_, rfl, rfl, rfl⟩⟩⟩⟩
  refine v_Phases_countStable _ _ _ (v_Phases_countStable_1 _ _ _ _ _ ⟨K50, ?_⟩)
  rw [show mi (sil h f l) 50 3 = nI 0 from hn, t0, z0]
  exact ⟨fun c => absurd c (by decide), fun _ => ⟨_, rfl, _, rfl, rfl, rfl⟩⟩
theorem no_Ref_above {h : MH} {f : (Nat → Nat → Int32)} {l : (Nat → Nat → Int64)} (hn : f 54 56 = nI 0) (x y : Int32) : SpL k_Ref_above [.ref 54, .int x, .int y] (sil h f l) (fun r g => g = sil h f l ∧ r = 0) := by
  have t0 : (nI 0).toInt = 0 := rfl
  have z0 : (0 : Int32).toInt = 0 := rfl
  refine v_Ref_above _ _ _ _ _ ?_
  rw [show mi (sil h f l) 54 56 = nI 0 from hn, t0]
  refine ⟨fun _ => ?_, fun _ => ⟨fun _ => ⟨_, rfl, rfl, rfl⟩, fun c => ⟨K54, fun c2 => absurd c2 c, fun _ => ⟨_, rfl, rfl, rfl⟩⟩⟩⟩
  refine v_Ref_above_1 _ _ _ _ _ ⟨K54, ?_⟩
  rw [show mi (sil h f l) 54 56 = nI 0 from hn, t0, z0]
  exact ⟨fun c => absurd c (by decide), fun _ => ⟨_, rfl, rfl, rfl⟩⟩
