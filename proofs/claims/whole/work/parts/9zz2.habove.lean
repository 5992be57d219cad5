/-! above of the class -/
theorem ab_no1 {PH : List Ph} {x y : Int32} (hl : PH.length ≤ 40) (q : ¬ (0 ≤ x.toInt ∧ x.toInt < PH.length)) : ¬ ∃ k, AbG PH x y k := fun ⟨k, a1, a2, _⟩ => q (by rw [a2, nI_toI (by omega)]; omega)
theorem ab_no2 {PH : List Ph} {x y : Int32} (q : ¬ (y = 0 ∨ y = 1)) : ¬ ∃ k, AbG PH x y k := fun ⟨k, _, _, a⟩ => q a
theorem sp_countStable {h : MH} {f : (Nat → Nat → Int32)} {l0 : (Nat → Nat → Int64)} {PH : List Ph} (ok : okPh PH) (ph : PhA f l0 51 52 53 50 3 PH) :
    SpI k_Phases_countStable [.ref 50] (sil h f l0) (fun r g => r = nI (stN PH PH.length) ∧ ∃ l', g = sil h f l' ∧ Fr [50] l0 l') := by
  have hl := ok.1
  refine v_Phases_countStable _ _ _ ?_
  have go : ∀ d k (l : (Nat → Nat → Int64)), PH.length - k = d → k ≤ PH.length → Fr [50] l0 l →
      WM k_Phases_countStable p_Phases_countStable_1 [.ref 50, .int (nI (stN PH k)), .int (nI k)] [] (sil h f l) 0 0 (fun v g => ∃ r, v = .int r ∧ r = nI (stN PH PH.length) ∧ ∃ l', g = sil h f l' ∧ Fr [50] l0 l') := by
    intro d
    induction d with
    | zero =>
      intro k l hd hk fr
      have e : k = PH.length := by omega
      subst e
      refine v_Phases_countStable_1 _ _ _ _ _ ⟨K50, ?_⟩
      rw [mi_sil, ph.1]
      exact ⟨fun q => absurd q (by omega), fun _ => ⟨_, rfl, rfl, l, rfl, fr⟩⟩
    | succ d ih =>
      intro k l hd hk fr
      have hk' : k < PH.length := by omega
      have pl : PhA f l 51 52 53 50 3 PH := ph.fr fr n53
      refine v_Phases_countStable_1 _ _ _ _ _ ⟨K50, ?_⟩
      rw [mi_sil, ph.1, nI_toI (by omega), nI_toI (by omega)]
      refine ⟨fun _ => SpV.mono (sp_weigh ok pl hk') ?_, fun q => absurd (by omega) q⟩
      rintro _ ⟨l', rfl, fr', _, x, y, ab, ex, ey⟩
      have z := ab.zero (Cd.b ok hk' (Nat.le_refl _)) (Or.inl ⟨rfl, rfl⟩) (phS_ab ok hk').1
      have bx : 0 ≤ x ∧ x ≤ 4000000000000 := by
        obtain ⟨U, L, S, m1, m2, rfl, rfl⟩ := ab
        have := (Cd.b ok hk' (Nat.le_refl _) _ _ m1.2.1).2.hi
        have hq := Nat.div_le_self U (Nat.gcd U (L * S))
        generalize U / Nat.gcd U (L * S) = q at hq ⊢
        omega
      rw [ml_sil, ex, lc_eq, show (0 : Int64) = zL 0 from rfl, zL_inj (by omega) (by omega) (by omega) (by omega), z, nI_1, nI_1]
      refine ⟨K50, fun c => ?_, fun c => ?_⟩
      · have := ih (k + 1) l' (by omega) (by omega) (fr.trans fr')
        rw [stN_y c] at this
        exact this
      · have := ih (k + 1) l' (by omega) (by omega) (fr.trans fr')
        rw [stN_n c] at this
        exact this
  exact go _ 0 l0 rfl (by omega) Fr.refl
theorem sp_Ho_above {h : MH} {f : (Nat → Nat → Int32)} {l : (Nat → Nat → Int64)} {PH : List Ph} (ok : okPh PH) (ph : PhA f l 51 52 53 50 3 PH) (x y : Int32) :
    SpL k_Ho_above [.ref 5, .int x, .int y] (sil h f l) (fun r g => AbvA (fun k => Cd PH k PH.length) PH x y r ∧ ∃ l', g = sil h f l' ∧ Fr [50] l l') := by
  have hl := ok.1
  have hs := stN_le (PH := PH) PH.length
  have t1 : (1 : Int32).toInt = 1 := rfl
  refine v_Ho_above _ _ _ _ _ ?_
  rw [R5_18, t1]
  refine ⟨fun c => ⟨Kd5, K50, SpI.mono (sp_countStable ok ph) ?_⟩, fun c0 => ⟨fun c => ⟨_, rfl, Or.inr ⟨c0, Or.inr ⟨ab_no1 hl (fun q => by omega), rfl⟩⟩, l, rfl, Fr.refl⟩, fun c1 => ⟨Kd5, K50, ?_⟩⟩⟩
  · rintro _ _ ⟨rfl, l', rfl, fr⟩
    refine ⟨_, rfl, Or.inl ⟨c, ?_⟩, l', rfl, fr⟩
    rw [i2l_z, nI_toI (by omega)]
  rw [mi_sil, ph.1, nI_toI (by omega)]
  have ey : ∀ y : Int32, ¬ y.toInt < 0 → ¬ 1 < y.toInt → y = 0 ∨ y = 1 := fun y h1 h2 => by
    have : y.toInt = 0 ∨ y.toInt = 1 := by omega
    exact this.imp (fun e => hb_eq e) (fun e => hb_eq e)
  refine ⟨fun c2 => ⟨fun c => ⟨_, rfl, Or.inr ⟨c0, Or.inr ⟨ab_no2 (fun q => ?_), rfl⟩⟩, l, rfl, Fr.refl⟩, fun c3 => ⟨fun c => ⟨_, rfl, Or.inr ⟨c0, Or.inr ⟨ab_no2 (fun q => ?_), rfl⟩⟩, l, rfl, Fr.refl⟩, fun c4 => ?_⟩⟩, fun c => ⟨_, rfl, Or.inr ⟨c0, Or.inr ⟨ab_no1 hl (fun q => by omega), rfl⟩⟩, l, rfl, Fr.refl⟩⟩
  · rcases q with rfl | rfl
    · exact absurd c (by decide)
    · exact absurd c (by decide)
  · rcases q with rfl | rfl
    · exact absurd c (by decide)
    · exact absurd c (by decide)
  obtain ⟨k, rfl, hk⟩ := op_x (n := PH.length) c1 c2 (by omega)
  refine SpV.mono (sp_weigh ok ph hk) ?_
  rintro _ ⟨l', rfl, fr', _, u, v, ab, ex, ey'⟩
  rw [R5_18, ml_sil, ex, ey']
  refine ⟨fun e => ⟨Kd5, K50, _, rfl, Or.inr ⟨c0, Or.inl ⟨k, u, v, ⟨hk, rfl, Or.inl e⟩, ab, by rw [if_pos e]⟩⟩, l', rfl, fr'⟩, fun e => ⟨Kd5, K50, _, rfl, Or.inr ⟨c0, Or.inl ⟨k, u, v, ⟨hk, rfl, (ey y c3 c4)⟩, ab, by rw [if_neg e]⟩⟩, l', rfl, fr'⟩⟩
