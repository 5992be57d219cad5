/-! read and choose in the class and in the reference -/
def HoRead (f f' : (Nat → Nat → Int32)) (T : Nat) (r : Int32) (res : Except (Nat × Nat) Nat) : Prop := match res with
  | .error e => r = zI (-1) ∧ FP f f' ∧ f' 6 2 = nI 0 ∧ f' 6 4 = nI e.1 ∧ f' 6 5 = nI e.2
  | .ok c => cOK c ∧ if T = 40 then r = zI (-1) ∧ FP f f' ∧ f' 6 2 = nI 0 ∧ f' 6 4 = nI 5 ∧ f' 6 5 = zI (-1) else r = nI T ∧ ∃ f1, FP f f1 ∧ f1 6 2 = nI 0 ∧ f1 6 4 = nI 0 ∧ f1 6 5 = zI (-1) ∧ f' = keepF f1 T c
theorem sp_Ho_read {h : MH} {f : (Nat → Nat → Int32)} {l : (Nat → Nat → Int64)} {n T : Nat} (h2 : f 6 2 = nI n) (hn : n ≤ 100) (hT : f 5 3 = nI T) (h40 : T ≤ 40) : SpI k_Ho_read [.ref 5] (sil h f l) (fun r g => ∃ f', g = sil h f' l ∧ HoRead f f' T r (rdC (f 8) n)) := by
  have t40 : (40 : Int32).toInt = 40 := rfl
  have tT : (nI T).toInt = (T : Int) := nI_toI (by omega)
  refine v_Ho_read _ _ _ ⟨Kd5, ?_⟩
  rw [R5_0]
  refine ⟨K6, SpI.mono (sp_Scribe_parse h2 hn) ?_⟩
  rintro r _ ⟨f1, rfl, F1, z2, pe⟩
  have q5 : mi (sil h f1 l) 5 3 = nI T := by rw [mi_sil, F1.1 5 (by decide)]; exact hT
  cases hr : rdC (f 8) n with
  | error e =>
    rw [hr] at pe
    exact ⟨fun _ => ⟨_, rfl, f1, rfl, rfl, F1, z2, pe.2.1, pe.2.2⟩, fun w => absurd (by rw [pe.1]; rfl) w⟩
  | ok c =>
    rw [hr] at pe
    obtain ⟨rfl, hc, z4, z5⟩ := pe
    have hc' : c < 272097792 := hc
    have nm : ¬ nI c = -1 := by
      intro q
      have e := congrArg Int32.toInt q
      rw [nI_toI (by omega), l_m1] at e
      omega
    refine ⟨fun w => absurd w nm, fun _ => ⟨Kd5, ?_⟩⟩
    rw [q5, tT, t40]
    refine ⟨fun w => ?_, fun w => ?_⟩
    · refine SpI.mono (sp_Ho_keepOperation (T := T) (by rw [F1.1 5 (by decide)]; exact hT) (by omega)) ?_
      rintro rr g ⟨e1, e2⟩
      subst g
      refine ⟨_, rfl, _, rfl, hc, ?_⟩
      rw [if_neg (by omega)]
      exact ⟨e1, f1, F1, z2, z4, z5, rfl⟩
    · rw [R5_0]
      refine ⟨K6, SpV.mono (sp_Scribe_report (5 : Int32) (-1)) ?_⟩
      rintro _ rfl
      refine ⟨_, rfl, _, rfl, hc, ?_⟩
      rw [if_pos (by omega)]
      refine ⟨rfl, (F1.up (by decide)).up (by decide), ?_, ?_, ?_⟩
      · rw [up2_ni (by decide), up2_ni (by decide)]; exact z2
      · rw [up2_ni (by decide), up2_s]; rfl
      · rw [up2_s]; rfl
theorem enc_hi {M S : Nat → Int} (h : small M) (hs : sOK S) : (enc M S).toNat / 13824 = (enc9 M).toNat ∧ (enc M S).toNat % 13824 = (S 0 * 576 + S 1 * 24 + S 2).toNat := by
  have := enc9_rng h
  have h0 := hs 0 (by decide); have h1 := hs 1 (by decide); have h2 := hs 2 (by decide)
  unfold enc
  omega
theorem dec_M {M S : Nat → Int} (h : small M) (hs : sOK S) : ∀ j, j < 9 → eM (enc M S).toNat j = M j := by
  have e := (enc_hi h hs).1
  have h0 := h 0 (by decide); have h1 := h 1 (by decide); have h2 := h 2 (by decide); have h3 := h 3 (by decide); have h4 := h 4 (by decide)
  have h5 := h 5 (by decide); have h6 := h 6 (by decide); have h7 := h 7 (by decide); have h8 := h 8 (by decide)
  intro j hj
  unfold eM dM
  rw [e]
  unfold enc9
  have : j = 0 ∨ j = 1 ∨ j = 2 ∨ j = 3 ∨ j = 4 ∨ j = 5 ∨ j = 6 ∨ j = 7 ∨ j = 8 := by omega
  rcases this with rfl | rfl | rfl | rfl | rfl | rfl | rfl | rfl | rfl <;> simp only [Nat.sub_zero, Nat.reduceSub, Nat.reducePow] <;> omega
theorem dec_S {M S : Nat → Int} (h : small M) (hs : sOK S) : ∀ j, j < 3 → eZ (enc M S).toNat j = S j := by
  have e := (enc_hi h hs).2
  have h0 := hs 0 (by decide); have h1 := hs 1 (by decide); have h2 := hs 2 (by decide)
  intro j hj
  unfold eZ eS
  rw [e]
  have : j = 0 ∨ j = 1 ∨ j = 2 := by omega
  rcases this with rfl | rfl | rfl <;> simp only [Nat.sub_zero, Nat.reduceSub, Nat.reducePow] <;> omega
theorem det9_ext {M N : Nat → Int} (h : ∀ j, j < 9 → M j = N j) : det9 M = det9 N := by
  unfold det9
  rw [h 0 (by decide), h 1 (by decide), h 2 (by decide), h 3 (by decide), h 4 (by decide), h 5 (by decide), h 6 (by decide), h 7 (by decide), h 8 (by decide)]
/-- an operation: a code whose matrix has the determinant 1 or -1 -/
def isOp (c : Nat) : Prop := cOK c ∧ (det9 (eM c) = 1 ∨ det9 (eM c) = -1)
theorem rdC_op {T : Nat → Int32} {n c : Nat} (h : rdC T n = .ok c) (hn : n ≤ 100) : isOp c := by
  have S0 : sOK (fun _ => 0) := fun j _ => ⟨Int.le_refl 0, show (0 : Int) < 24 by decide⟩
  have M0 : MBd (fun _ => 0) 0 := fun j => ⟨show -((0 : Nat) : Int) ≤ 0 by decide, show (0 : Int) ≤ ((0 : Nat) : Int) by decide⟩
  cases h0 : exB T n 0 0 (fun _ => 0) (fun _ => 0) with
  | error e => rw [rdC_e (rdF_0 h0)] at h; cases h
  | ok r0 =>
    have b0 := exB_b (by decide) hn (by decide) M0 S0 h0
    cases h1 : exB T n 1 r0.1 r0.2.1 r0.2.2 with
    | error e => rw [rdC_e (rdF_1 h0 h1)] at h; cases h
    | ok r1 =>
      have b1 := exB_b (by decide) hn (b0.1 (by decide)) b0.2.2.1 b0.2.2.2 h1
      cases h3 : exB T n 2 r1.1 r1.2.1 r1.2.2 with
      | error e => rw [rdC_e ((rdF_2 h0 h1).trans h3)] at h; cases h
      | ok r2 =>
        have b2 := exB_b (by decide) hn (b1.1 (by decide)) b1.2.2.1 b1.2.2.2 h3
        rw [rdC_o ((rdF_2 h0 h1).trans h3)] at h
        by_cases sm : small r2.2.1
        · rw [if_pos sm] at h
          by_cases d : det9 r2.2.1 = 1 ∨ det9 r2.2.1 = -1
          · rw [if_pos d] at h
            cases h
            have rg := enc_rng sm b2.2.2.2
            refine ⟨by unfold cOK; omega, ?_⟩
            rw [det9_ext (dec_M sm b2.2.2.2)]
            exact d
          · rw [if_neg d] at h; cases h
        · rw [if_neg sm] at h; cases h
theorem sp_Ho_choose {h : MH} {f : (Nat → Nat → Int32)} {l : (Nat → Nat → Int64)} {T : Nat} (hT : f 5 3 = nI T) (h40 : T ≤ 40) (x : Int32) : SpI k_Ho_choose [.ref 5, .int x] (sil h f l) (fun r g => (∃ k, k < T ∧ x = nI k ∧ r = 1 ∧ g = sil h (up2 f 14 k (if f 14 k = 0 then 1 else 0)) l) ∨ (¬ (0 ≤ x.toInt ∧ x.toInt < T) ∧ r = 0 ∧ g = sil h f l)) := by
  have tT : (nI T).toInt = (T : Int) := nI_toI (by omega)
  refine v_Ho_choose _ _ _ _ ?_
  rw [mi_sil, hT, tT, R5_2]
  refine ⟨fun c => ⟨_, rfl, Or.inr ⟨fun q => by omega, rfl, rfl⟩⟩, fun c1 => ⟨Kd5, fun c2 => ?_, fun c => ⟨_, rfl, Or.inr ⟨fun q => by omega, rfl, rfl⟩⟩⟩⟩
  obtain ⟨k, rfl, hk⟩ := op_x (n := T) c1 c2 (by omega)
  rw [ix_nI (by omega)]
  refine ⟨K14, InB_nI (show k < 40 by omega) (by omega), fun w => ?_, fun w => ?_⟩
  · rintro _ rfl
    exact ⟨_, rfl, Or.inl ⟨k, hk, rfl, rfl, by rw [if_pos w]; rfl⟩⟩
  · rintro _ rfl
    exact ⟨_, rfl, Or.inl ⟨k, hk, rfl, rfl, by rw [if_neg w]; rfl⟩⟩
theorem sp_Ref_choose {h : MH} {f : (Nat → Nat → Int32)} {l : (Nat → Nat → Int64)} {T : Nat} (hT : f 54 1 = nI T) (h40 : T ≤ 40) (x : Int32) : SpI k_Ref_choose [.ref 54, .int x] (sil h f l) (fun r g => (∃ k, k < T ∧ x = nI k ∧ r = 1 ∧ g = sil h (up2 f 56 k (1 - f 56 k)) l) ∨ (¬ (0 ≤ x.toInt ∧ x.toInt < T) ∧ r = 0 ∧ g = sil h f l)) := by
  have tT : (nI T).toInt = (T : Int) := nI_toI (by omega)
  refine v_Ref_choose _ _ _ _ ⟨K54, ?_⟩
  by_cases q : 0 ≤ x.toInt ∧ x.toInt < T
  · refine v_Ref_isOperation _ _ _ _ ?_
    rw [mi_sil, hT, tT]
    refine ⟨fun c => absurd q.1 (by omega), fun c1 => ⟨K54, fun c2 => ⟨_, rfl, fun w => absurd w (by decide), fun _ => ⟨K54, ?_⟩⟩, fun c => absurd q.2 c⟩⟩
    obtain ⟨k, rfl, hk⟩ := op_x (n := T) c1 c2 (by omega)
    rw [R54_2, ix_nI (by omega)]
    refine ⟨K56, InB_nI (show k < 40 by omega) (by omega), ?_⟩
    rintro _ rfl
    exact ⟨_, rfl, Or.inl ⟨k, hk, rfl, rfl, rfl⟩⟩
  · refine SpI.mono (no_Ref_isOperation (h := sil h f l) K54 (fun w => q ⟨w.1, by have := w.2; rw [mi_sil, hT, tT] at this; exact this⟩)) ?_
    rintro r g ⟨e, er⟩
    subst g er
    exact ⟨fun _ => ⟨_, rfl, Or.inr ⟨q, rfl, rfl⟩⟩, fun w => absurd rfl w⟩
