/-! the machine is sound: signs, swaps, C by B, C by A -/
theorem rq (ρ : S6) (p : Vc) : rwv ρ (qR p) = qv (db ρ) p := by
  obtain ⟨a, b, c, d, e, f⟩ := ρ
  exact rwv_q a b c d e f p
theorem rb (ρ : S6) (p q : Vc) : 2 * rwv ρ (bR p q) = bv (db ρ) p q := by
  obtain ⟨a, b, c, d, e, f⟩ := ρ
  exact rwv_b a b c d e f p q
theorem rT (ρ : S6) (p q r : Vc) : rwv ρ (tR p q r) = tT (onB (db ρ) p q r) := by
  unfold tR
  rw [rwv_ad, rwv_ad, rq, rq, rq]
  show _ = qv (db ρ) p + qv (db ρ) q + qv (db ρ) r
  omega
theorem rT0 (ρ : S6) : rwv ρ tR0 = tT (db ρ) := by
  obtain ⟨a, b, c, d, e, f⟩ := ρ
  simp only [rwv, tR0, tT, db]; omega
theorem rd_ (ρ : S6) (g : Bool) (p q : Vc) : 2 * rwv ρ (dR g p q) = gJ1 g * bv (db ρ) p q := by
  unfold dR
  rw [rwv_sm, ← rb]
  grind
theorem nrm_sz {ρ : S6} {g : Bool} {p q r : Vc} (n : Nrm g (onB (db ρ) p q r)) : sz (bv (db ρ) q r) = 2 * rwv ρ (dR g q r) ∧ sz (bv (db ρ) p r) = 2 * rwv ρ (dR g p r) ∧ sz (bv (db ρ) p q) = 2 * rwv ρ (dR g p q) := by
  rw [rd_, rd_, rd_]
  cases g
  · have n : bv (db ρ) q r ≤ 0 ∧ bv (db ρ) p r ≤ 0 ∧ bv (db ρ) p q ≤ 0 := n
    rw [szn n.1, szn n.2.1, szn n.2.2]
    simp only [gJ1]
    refine ⟨?_, ?_, ?_⟩ <;> simp
  · have n : 0 < bv (db ρ) q r ∧ 0 < bv (db ρ) p r ∧ 0 < bv (db ρ) p q := n
    rw [szp (Int.le_of_lt n.1), szp (Int.le_of_lt n.2.1), szp (Int.le_of_lt n.2.2)]
    simp [gJ1]
theorem sgR_ok {s w : S6} (h : sgR s w) (ho : OKs s) : OKs w := by
  rcases h with ⟨q, e⟩ | ⟨q, e⟩ <;> subst e
  · exact OK_p ho q
  · exact OK_n ho q
theorem pm_ex {v w : Vc} (h : pm v w = true) : ∃ s, U1 s ∧ v = vsm s w := by
  unfold pm at h
  rw [Bool.or_eq_true] at h
  rcases h with h | h
  · refine ⟨1, Or.inl rfl, ?_⟩
    rw [vbq_eq h]
    obtain ⟨a, b, c⟩ := w
    simp [vsm]
  · exact ⟨-1, Or.inr rfl, vbq_eq h⟩
theorem sgW_n {ρ : S6} {g : Bool} {p q r : Vc} (h1 : 0 ≤ rwv ρ (sgW g q r)) (h2 : 0 ≤ rwv ρ (sgW g p r)) (h3 : 0 ≤ rwv ρ (sgW g p q)) : Nrm g (onB (db ρ) p q r) := by
  have e1 := rb ρ q r; have e2 := rb ρ p r; have e3 := rb ρ p q
  cases g
  · simp only [sgW, Bool.false_eq_true, if_false, rwv_sm] at h1 h2 h3
    show bv (db ρ) q r ≤ 0 ∧ bv (db ρ) p r ≤ 0 ∧ bv (db ρ) p q ≤ 0
    omega
  · simp only [sgW, if_true, rwv_ad, rwv_k] at h1 h2 h3
    show 0 < bv (db ρ) q r ∧ 0 < bv (db ρ) p r ∧ 0 < bv (db ρ) p q
    omega
theorem Env.le {t ρ u : S6} (E : Env t ρ u) {K : Nat} {s : S6} (r : Rn K t s) : tT t - tT s ≤ 10 * (K : Int) + 10 := by
  rcases Nat.eq_zero_or_pos K with e | e
  · subst e
    have r : t = s := r
    subst r
    omega
  · have := E.2.2.2.2 K s e r; omega
theorem sdSg {t ρ u : S6} (E : Env t ρ u) {g : Bool} {p' q' r' : Vc} {k1 k2 k3 : Ct} {c : Cx} {l : List Cx} (h : stSg g p' q' r' k1 k2 k3 c = some l) (R : Rfs t ρ u l) : ¬ Fct t ρ u c := by
  obtain ⟨st, g0, K, p, q, r, P, H⟩ := c
  rintro ⟨hl, fc⟩
  obtain ⟨i, e⟩ := if_some h
  subst e
  refine R.1 ⟨hl, ?_⟩
  simp only [Bool.and_eq_true] at i
  obtain ⟨i0, iK, i1, i2, i3, i4, i5, i6⟩ := i
  have e0 : st = 0 := Nat.eq_of_beq_eq_true i0
  subst e0
  have hK : K ≤ 1000 := Nat.le_of_ble_eq_true iK
  obtain ⟨s1, u1, rfl⟩ := pm_ex i1
  obtain ⟨s2, u2, rfl⟩ := pm_ex i2
  obtain ⟨s3, u3, rfl⟩ := pm_ex i3
  obtain ⟨a, b, c, d, e, f⟩ := ρ
  have nr := sgW_n (imp_ge E.1 hl i4) (imp_ge E.1 hl i5) (imp_ge E.1 hl i6)
  obtain ⟨s, n, w, rn, rd, g1, g2, hs⟩ := (show Fz0 t (a, b, c, d, e, f) u K p q r H from fc)
  have os := (rn.ok E.2.1).1
  have fl : sgR (onB (db (a, b, c, d, e, f)) p q r) (onB (db (a, b, c, d, e, f)) (vsm s1 p) (vsm s2 q) (vsm s3 r)) := by
    rw [onB_sg _ p q r s1 s2 s3 u1.sq u2.sq u3.sq] at nr ⊢
    exact flip_sgR u1 u2 u3 nr
  have ew := sgR_fn g2 fl
  rw [ew] at g1
  cases n with
  | zero =>
    exfalso
    have := red0_T rd
    have := E.le rn
    have := E.2.2.2.1
    omega
  | succ n =>
    obtain ⟨v, sv, rv⟩ := rd
    exact ⟨sgR_ok g1 os, s, n, v, rn, sv, rv, g1, nr, hs⟩
