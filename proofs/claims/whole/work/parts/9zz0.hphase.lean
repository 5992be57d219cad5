/-! phases in the class: numbers -/
theorem div_zB {a b : Nat} (ha : a < 4611686018427387904) (h0 : 0 < b) (hb : b < 4611686018427387904) : zL (a : Int) / zL (b : Int) = zL ((a / b : Nat) : Int) := by
  have ta : (zL (a : Int)).toInt = a := zL_toI (by omega) (by omega)
  have tb : (zL (b : Int)).toInt = b := zL_toI (by omega) (by omega)
  apply hb_leq
  rw [Int64.toInt_div, ta, tb, show (a : Int).tdiv b = ((a / b : Nat) : Int) from rfl]
  have hq := Nat.div_le_self a b
  generalize a / b = q at hq ⊢
  rw [zL_toI (by omega) (by omega)]
  exact Int.bmod_eq_of_le (by omega) (by omega)
theorem lrm_zB {a b : Nat} (ha : a < 4611686018427387904) (h0 : 0 < b) (hb : b < 4611686018427387904) : lrm (zL (a : Int)) (zL (b : Int)) = zL ((a % b : Nat) : Int) := by
  unfold lrm
  rw [div_zB ha h0 hb, zL_mul, zL_sub]
  congr 1
  have := Nat.div_add_mod a b
  have e : ((a / b : Nat) : Int) * (b : Int) = ((b * (a / b) : Nat) : Int) := by rw [Int.natCast_mul, Int.mul_comm]
  rw [e]
  omega
theorem zB_ne {b : Nat} (hb : b < 4611686018427387904) : (zL (b : Int) = 0) = (b = 0) := by
  have := zL_inj (x := (b : Int)) (y := 0) (by omega) (by omega) (by decide) (by decide)
  rw [show ((0 : Int64)) = zL 0 from rfl, this]
  apply propext
  omega
theorem half_step {a b d : Nat} (hb : 0 < b) (h : b ≤ a) (hp : a * b < 2 ^ (d + 1)) : b * (a % b) < 2 ^ d := by
  have h1 := Nat.div_add_mod a b
  have h2 : 1 ≤ a / b := (Nat.le_div_iff_mul_le hb).mpr (by omega)
  have h3 : b * 1 ≤ b * (a / b) := Nat.mul_le_mul_left b h2
  have h4 := Nat.mod_lt a hb
  have h5 : 2 * (a % b) ≤ a := by omega
  have h6 : b * (2 * (a % b)) ≤ b * a := Nat.mul_le_mul_left b h5
  have e : b * (2 * (a % b)) = 2 * (b * (a % b)) := by rw [Nat.mul_left_comm]
  rw [Nat.pow_succ] at hp
  rw [Nat.mul_comm a b] at hp
  omega
theorem c_commonB {h : MH} {a b : Nat} (ha : a < 4611686018427387904) (h0 : 0 < b) (hb : b < 2097152) : SpL k_Ho_commonDivisor [.long (zL (a : Int)), .long (zL (b : Int))] h (fun x g => g = h ∧ x = zL ((Nat.gcd a b : Nat) : Int)) := by
  have t100 : (100 : Int32).toInt = 100 := rfl
  have one : ∀ a : Nat, 0 < a → a < 4611686018427387904 → SpL k_Math_maxJJJ [.long (zL (a : Int)), .long (1 : Int64)] h (fun r g => ∃ x, Value.long r = .long x ∧ g = h ∧ x = zL (a : Int)) := by
    intro a h1 h2
    refine SpL.mono (sp_maxL _ _) ?_
    rintro r g ⟨e, er⟩
    refine ⟨_, rfl, e, ?_⟩
    rw [er, if_neg (by rw [zL_toI (by omega) (by omega)]; show ¬ (a : Int) < 1; omega)]
  have main : ∀ (d a b k : Nat), k + d ≤ 98 → b ≤ a → a * b < 2 ^ d → 0 < a → a < 4611686018427387904 → WM k_Ho_commonDivisor p_Ho_commonDivisor_1 [Jv, Jv, Jv, Jv, .long (zL (a : Int)), Jv, .long (zL (b : Int)), Jv, .int (nI k), Jv, Jv] [] h 0 0 (fun v g => ∃ x, v = .long x ∧ g = h ∧ x = zL ((Nat.gcd a b : Nat) : Int)) := by
    intro d
    induction d with
    | zero =>
      intro a b k hk hb hp h0 ha
      have : b = 0 := by
        rcases Nat.eq_zero_or_pos b with e | e
        · exact e
        · have := Nat.mul_pos h0 e
          simp at hp
          omega
      subst this
      rw [Nat.gcd_zero_right]
      refine v_Ho_commonDivisor_1 _ _ _ _ _ ⟨fun _ => ⟨fun _ => one a h0 ha, fun w => absurd ?_ w⟩, fun _ => one a h0 ha⟩
      exact (lc_eq _ _).mpr rfl
    | succ d ih =>
      intro a b k hk hb hp h0 ha
      have tk : (nI k).toInt = (k : Int) := nI_toI (by omega)
      refine v_Ho_commonDivisor_1 _ _ _ _ _ ⟨fun _ => ⟨fun w => ?_, fun w => ?_⟩, fun w => absurd (by rw [tk, t100]; omega) w⟩
      · have e := (lc_eq _ _).mp w
        rw [zB_ne (by omega)] at e
        subst e
        rw [Nat.gcd_zero_right]
        exact one a h0 ha
      · have nb : ¬ zL (b : Int) = 0 := fun q => w ((lc_eq _ _).mpr q)
        have nb' : b ≠ 0 := fun q => nb ((zB_ne (by omega)).mpr q)
        refine ⟨nb, ?_⟩
        have hlt := Nat.mod_lt a (show 0 < b by omega)
        rw [lrm_zB ha (by omega) (by omega), nI_1, Nat.gcd_comm a b, Nat.gcd_rec b a, Nat.gcd_comm]
        exact ih b (a % b) (k + 1) (by omega) (by omega) (half_step (by omega) hb hp) (by omega) (by omega)
  refine v_Ho_commonDivisor _ _ _ _ (v_Ho_commonDivisor_1 _ _ _ _ _ ⟨fun _ => ⟨fun w => ?_, fun w => ?_⟩, fun w => absurd (by decide) w⟩)
  · have e := (lc_eq _ _).mp w
    rw [zB_ne (by omega)] at e
    omega
  · have nb : ¬ zL (b : Int) = 0 := fun q => w ((lc_eq _ _).mpr q)
    refine ⟨nb, ?_⟩
    have hlt := Nat.mod_lt a h0
    rw [lrm_zB ha h0 (by omega), Nat.gcd_comm a b, Nat.gcd_rec b a, Nat.gcd_comm]
    refine main 42 b (a % b) 1 (by decide) (by omega) ?_ h0 (by omega)
    have : b * (a % b) ≤ 2097151 * 2097151 := Nat.mul_le_mul (by omega) (by omega)
    exact Nat.lt_of_le_of_lt this (by decide)
/-! phases in the class: what is told -/
def PhA (f : (Nat → Nat → Int32)) (l : (Nat → Nat → Int64)) (a b c o v : Nat) (PH : List Ph) : Prop := f o v = nI PH.length ∧ ∀ i, i < PH.length → f a i = zI (phP PH i) ∧ f b i = zI (phQ PH i) ∧ l c i = zL (phE PH i)
theorem sp_Phases_cross {h : MH} {f : (Nat → Nat → Int32)} {l : (Nat → Nat → Int64)} {PH : List Ph} {i j : Nat} (ok : okPh PH) (ph : PhA f l 51 52 53 50 3 PH) (hi : i < PH.length) (hj : j < PH.length) : SpL k_Phases_cross [.ref 50, .int (nI i), .int (nI j)] (sil h f l) (fun r g => g = sil h f l ∧ r = zL (crs PH i j)) := by
  have hl := ok.1
  have b := crs_ab ok hi hj
  refine v_Phases_cross _ _ _ _ _ ⟨K50, ?_⟩
  rw [R50_0, R50_1, ix_nI (by omega), ix_nI (by omega), mi_sil, (ph.2 i hi).1, (ph.2 i hi).2.1, (ph.2 j hj).1, (ph.2 j hj).2.1, zI_mul, zI_mul, zI_sub, i2l_zI (by unfold crs at b; omega) (by unfold crs at b; omega), L51, L52]
  exact ⟨K51, InB_nI (by omega) (by omega), K52, InB_nI (by omega) (by omega), InB_nI (by omega) (by omega), InB_nI (by omega) (by omega), _, rfl, rfl, rfl⟩
def St5 (o p q : Nat) (C : CdT) (l0 l : (Nat → Nat → Int64)) : Prop := Fr [o] l0 l ∧ (∀ j, j ≠ p → j ≠ q → l o j = l0 o j) ∧ ∃ U L, l o p = zL U ∧ l o q = zL L ∧ MX C U L
theorem St5.ext {o p q : Nat} {C C' : CdT} {l0 l : (Nat → Nat → Int64)} (s : St5 o p q C l0 l) (e : ∀ u v, C' u v ↔ C u v) : St5 o p q C' l0 l := by
  obtain ⟨s1, s2, U, L, s3, s4, s5⟩ := s
  exact ⟨s1, s2, U, L, s3, s4, s5.ext e⟩
theorem mulB {u v : Int} (hu : Ab u 4000000000000) (hv : 0 < v ∧ v ≤ 9801) : Ab (u * v) 39204000000000000 := (hu.mul (Ab.of (a := 9801) (by omega) (by omega))).wk (by decide)
theorem sp_Phases_offer {h : MH} {f : (Nat → Nat → Int32)} {l0 l : (Nat → Nat → Int64)} {C : CdT} {u v : Int} (b : Cb C) (st : St5 50 4 5 C l0 l) (hu : Ab u 4000000000000) (hv : 0 < v ∧ v ≤ 9801) : SpV k_Phases_offer [.ref 50, .long (zL u), .long (zL v)] (sil h f l) (fun g => ∃ l', g = sil h f l' ∧ St5 50 4 5 (or1 C u v) l0 l') := by
  obtain ⟨s1, s2, U, L, s3, s4, s5⟩ := st
  have me : 50 ∈ [50] := List.mem_cons_self
  obtain ⟨bL, bU⟩ := b U L s5.2.1
  have w1 := mulB hu bL
  have w2 := mulB bU hv
  have a1 := w1.lo; have a2 := w1.hi; have a3 := w2.lo; have a4 := w2.hi
  refine v_Phases_offer _ _ _ _ _ ⟨K50, ?_⟩
  rw [ml_sil, s3, s4, zL_mul, zL_mul, lc_gt, zL_toI (by omega) (by omega), zL_toI (by omega) (by omega)]
  refine ⟨fun c => ?_, fun c => ⟨l, rfl, s1, s2, U, L, s3, s4, s5.keep c⟩⟩
  rintro _ rfl
  rintro _ rfl
  rw [wl_sil, wl_sil]
  refine ⟨_, rfl, (s1.up me).up me, fun j j1 j2 => by rw [up2_ni j2, up2_ni j1]; exact s2 j j1 j2, u, v, ?_, ?_, MX.take b s5 hv.1 c⟩
  · rw [up2_ni (by decide), up2_s]
  · rw [up2_s]
