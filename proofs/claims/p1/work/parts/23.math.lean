/-! the JDK's own small methods -/
def si (h : MH) (f : Nat → Nat → Int32) : MH := (hn h, kd h, ln h, f, ml h, mr h)
theorem wi_si {h : MH} {f : Nat → Nat → Int32} {a i : Nat} {x : Int32} : wi (si h f) a i x = si h (up2 f a i x) := rfl
theorem si_wi {h : MH} {a i : Nat} {x : Int32} : wi h a i x = si h (up2 (mi h) a i x) := rfl
theorem si_self {h : MH} : si h (mi h) = h := rfl
theorem kd_si {h : MH} {f : Nat → Nat → Int32} : kd (si h f) = kd h := rfl
theorem ln_si {h : MH} {f : Nat → Nat → Int32} : ln (si h f) = ln h := rfl
theorem hn_si {h : MH} {f : Nat → Nat → Int32} : hn (si h f) = hn h := rfl
theorem mr_si {h : MH} {f : Nat → Nat → Int32} : mr (si h f) = mr h := rfl
theorem ml_si {h : MH} {f : Nat → Nat → Int32} : ml (si h f) = ml h := rfl
theorem mi_si {h : MH} {f : Nat → Nat → Int32} : mi (si h f) = f := rfl
theorem emod_of {x y q t : Int} (h : x = q * y + t) (h0 : 0 ≤ t) (h1 : t < y) : x % y = t := by
  subst h
  rw [Int.add_comm, Int.add_mul_emod_self_right]
  exact Int.emod_eq_of_lt h0 h1
theorem tmod_neg {x y : Int} (hx : x < 0) (hy : 0 < y) : (x.tmod y = 0 → x % y = 0) ∧ (x.tmod y ≠ 0 → x % y = x.tmod y + y) := by
  have e := Int.tdiv_mul_add_tmod x y
  have hb := tmod_bounds (a := x) hy
  have ht : x.tmod y ≤ 0 := by
    have := Int.tmod_nonneg (a := -x) y (by omega)
    rw [Int.neg_tmod] at this
    omega
  refine ⟨fun h => ?_, fun h => ?_⟩
  · exact emod_of (q := x.tdiv y) (by omega) (Int.le_refl 0) hy
  · refine emod_of (q := x.tdiv y - 1) ?_ (by omega) (by omega)
    rw [Int.sub_mul]
    omega
theorem tmod_np {x y : Int} (hx : x < 0) : x.tmod y ≤ 0 := by
  have := Int.tmod_nonneg (a := -x) y (by omega)
  rw [Int.neg_tmod] at this
  omega
theorem sp_floorMod {h : MH} (x y : Int32) (hy : 0 < y.toInt) : SpI k_Math_floorMod [.int x, .int y] h (fun r h' => h' = h ∧ r.toInt = x.toInt % y.toInt) := by
  have e := hb_rem x y hy
  have hb := tmod_bounds (a := x.toInt) hy
  refine v_Math_floorMod x y h _ ⟨fun q => by rw [q] at hy; exact absurd hy (by decide), fun c1 => ⟨fun c2 => ⟨_, rfl, rfl, ?_⟩, fun c2 => ⟨_, rfl, rfl, ?_⟩⟩, fun c1 => ⟨_, rfl, rfl, ?_⟩⟩
  · have hx : x.toInt < 0 := by rcases (hb_xor x y).mp c1 with q | q <;> omega
    have e0 : x.toInt.tmod y.toInt = 0 := by rw [← e, c2]; rfl
    rw [e, e0, (tmod_neg hx hy).1 e0]
  · have hx : x.toInt < 0 := by rcases (hb_xor x y).mp c1 with q | q <;> omega
    have e0 : x.toInt.tmod y.toInt ≠ 0 := fun q => c2 (hb_eq (by rw [e, q]; rfl))
    have := hb_hi y
    have := tmod_np (y := y.toInt) hx
    rw [hb_add _ _ (by rw [e]; omega), e, (tmod_neg hx hy).2 e0]
  · have hx : 0 ≤ x.toInt := by
      rcases Int.lt_or_le x.toInt 0 with q | q
      · exact absurd ((hb_xor x y).mpr (Or.inl ⟨q, by omega⟩)) c1
      · exact q
    rw [e, Int.tmod_eq_emod_of_nonneg hx]
theorem sp_absI {h : MH} (x : Int32) (hx : -2147483648 < x.toInt) : SpI k_Math_absII [.int x] h (fun r h' => h' = h ∧ ((x.toInt < 0 ∧ r.toInt = -x.toInt) ∨ (0 ≤ x.toInt ∧ r.toInt = x.toInt))) :=
  v_Math_absII x h _ ⟨fun c => ⟨_, rfl, rfl, Or.inl ⟨c, hb_neg x hx⟩⟩, fun c => ⟨_, rfl, rfl, Or.inr ⟨by omega, rfl⟩⟩⟩
theorem sp_maxI {h : MH} (x y : Int32) : SpI k_Math_maxIII [.int x, .int y] h (fun r h' => h' = h ∧ r = if x.toInt < y.toInt then y else x) :=
  v_Math_maxIII x y h _ ⟨fun c => ⟨_, rfl, rfl, by rw [if_pos c]⟩, fun c => ⟨_, rfl, rfl, by rw [if_neg c]⟩⟩
theorem sp_minI {h : MH} (x y : Int32) : SpI k_Math_minIII [.int x, .int y] h (fun r h' => h' = h ∧ r = if y.toInt < x.toInt then y else x) :=
  v_Math_minIII x y h _ ⟨fun c => ⟨_, rfl, rfl, by rw [if_pos c]⟩, fun c => ⟨_, rfl, rfl, by rw [if_neg c]⟩⟩
theorem sp_absL {h : MH} (x : Int64) (hx : -9223372036854775808 < x.toInt) : SpL k_Math_absJJ [.long x] h (fun r h' => h' = h ∧ ((x.toInt < 0 ∧ r.toInt = -x.toInt) ∨ (0 ≤ x.toInt ∧ r.toInt = x.toInt))) := by
  refine v_Math_absJJ x h _ ⟨fun c => ⟨_, rfl, rfl, Or.inl ⟨(lc_lt _ _).mp c, hb_lneg x hx⟩⟩, fun c => ⟨_, rfl, rfl, Or.inr ⟨?_, rfl⟩⟩⟩
  rcases Int.lt_or_le x.toInt 0 with q | q
  · exact absurd ((lc_lt x 0).mpr q) c
  · exact q
theorem sp_maxL {h : MH} (x y : Int64) : SpL k_Math_maxJJJ [.long x, .long y] h (fun r h' => h' = h ∧ r = if x.toInt < y.toInt then y else x) :=
  v_Math_maxJJJ x y h _ ⟨fun c => ⟨_, rfl, rfl, by rw [if_pos ((lc_lt _ _).mp c)]⟩, fun c => ⟨_, rfl, rfl, by rw [if_neg (fun q => c ((lc_lt _ _).mpr q))]⟩⟩
theorem sp_minL {h : MH} (x y : Int64) : SpL k_Math_minJJJ [.long x, .long y] h (fun r h' => h' = h ∧ r = if y.toInt < x.toInt then y else x) :=
  v_Math_minJJJ x y h _ ⟨fun c => ⟨_, rfl, rfl, by rw [if_pos ((lc_gt _ _).mp c)]⟩, fun c => ⟨_, rfl, rfl, by rw [if_neg (fun q => c ((lc_gt _ _).mpr q))]⟩⟩
/-- Arrays.fill of ints -/
theorem sp_fillI {h : MH} (a : Nat) (x : Int32) (hk : kd h a = 20) (hl : ln h a < 2147483648) : SpV k_Arrays_fillaII [.ref a, .int x] h (fun h' => ∃ f, h' = si h f ∧ (∀ b, b ≠ a → f b = mi h b) ∧ (∀ j, j < ln h a → f a j = x) ∧ ∀ j, ln h a ≤ j → f a j = mi h a j) := by
  refine v_Arrays_fillaII a x h _ ⟨hk, ?_⟩
  have loop : ∀ (d i : Nat) (f : Nat → Nat → Int32), ln h a - i = d → i ≤ ln h a → (∀ b, b ≠ a → f b = mi h b) → (∀ j, j < i → f a j = x) → (∀ j, i ≤ j → f a j = mi h a j) →
      WM k_Arrays_fillaII p_Arrays_fillaII_1 [.ref a, .int x, .int (nI i), .int (Int32.ofNat (ln h a))] [] (si h f) 0 0 (fun _ h' => ∃ f, h' = si h f ∧ (∀ b, b ≠ a → f b = mi h b) ∧ (∀ j, j < ln h a → f a j = x) ∧ ∀ j, ln h a ≤ j → f a j = mi h a j) := by
    intro d
    induction d with
    | zero =>
      intro i f h1 h2 h3 h4 h5
      have e : i = ln h a := by omega
      subst e
      exact v_Arrays_fillaII_1 _ _ _ _ _ _ ⟨fun c => absurd c (by show ¬ (nI _).toInt < (nI _).toInt; omega), fun c => ⟨f, rfl, h3, h4, h5⟩⟩
    | succ d ih =>
      intro i f h1 h2 h3 h4 h5
      have t1 : (nI i).toInt = (i : Int) := nI_toInt (by omega)
      have t2 : (Int32.ofNat (ln h a)).toInt = (ln h a : Int) := nI_toInt hl
      refine v_Arrays_fillaII_1 _ _ _ _ _ _ ⟨fun c => ⟨hk, InB_nI (show i < ln (si h f) a by rw [ln_si]; omega) (by omega), ?_⟩, fun c => absurd (show (nI i).toInt < _ by omega) c⟩
      rintro _ rfl
      rw [ix_nI (by omega), nI_1, wi_si]
      refine ih (i + 1) _ (by omega) (by omega) (fun b hb => ?_) (fun j hj => ?_) (fun j hj => ?_)
      · funext j; rw [up2_id hb, h3 b hb]
      · by_cases e : j = i
        · subst e; rw [up2_s]
        · rw [up2_ix e, h4 j (by omega)]
      · rw [up2_ix (by omega), h5 j (by omega)]
  exact loop _ 0 (mi h) rfl (Nat.zero_le _) (fun _ _ => rfl) (fun j hj => absurd hj (Nat.not_lt_zero j)) (fun _ _ => rfl)
