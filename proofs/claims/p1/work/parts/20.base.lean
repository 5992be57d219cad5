/-! plain rows on numbers and the small heap -/
theorem hb_add (x y : Int32) (h : -2147483648 ≤ x.toInt + y.toInt ∧ x.toInt + y.toInt < 2147483648) : (x + y).toInt = x.toInt + y.toInt := by
  rw [Int32.toInt_add]
  exact Int.bmod_eq_of_le (by omega) (by omega)
theorem hb_sub (x y : Int32) (h : -2147483648 ≤ x.toInt - y.toInt ∧ x.toInt - y.toInt < 2147483648) : (x - y).toInt = x.toInt - y.toInt := by
  rw [Int32.toInt_sub]
  exact Int.bmod_eq_of_le (by omega) (by omega)
theorem hb_mul (x y : Int32) (h : -2147483648 ≤ x.toInt * y.toInt ∧ x.toInt * y.toInt < 2147483648) : (x * y).toInt = x.toInt * y.toInt := by
  rw [Int32.toInt_mul]
  exact Int.bmod_eq_of_le (by omega) (by omega)
theorem hb_neg (x : Int32) (h : -2147483648 < x.toInt) : (-x).toInt = -x.toInt := by
  have h2 := Int32.toInt_lt x
  rw [Int32.toInt_neg]
  exact Int.bmod_eq_of_le (by omega) (by omega)
theorem hb_ladd (x y : Int64) (h : -9223372036854775808 ≤ x.toInt + y.toInt ∧ x.toInt + y.toInt < 9223372036854775808) : (x + y).toInt = x.toInt + y.toInt := by
  rw [Int64.toInt_add]
  exact Int.bmod_eq_of_le (by omega) (by omega)
theorem hb_lsub (x y : Int64) (h : -9223372036854775808 ≤ x.toInt - y.toInt ∧ x.toInt - y.toInt < 9223372036854775808) : (x - y).toInt = x.toInt - y.toInt := by
  rw [Int64.toInt_sub]
  exact Int.bmod_eq_of_le (by omega) (by omega)
theorem hb_lmul (x y : Int64) (h : -9223372036854775808 ≤ x.toInt * y.toInt ∧ x.toInt * y.toInt < 9223372036854775808) : (x * y).toInt = x.toInt * y.toInt := by
  rw [Int64.toInt_mul]
  exact Int.bmod_eq_of_le (by omega) (by omega)
theorem hb_lneg (x : Int64) (h : -9223372036854775808 < x.toInt) : (-x).toInt = -x.toInt := by
  have h2 := Int64.toInt_lt x
  rw [Int64.toInt_neg]
  exact Int.bmod_eq_of_le (by omega) (by omega)
theorem hb_lo (x : Int32) : -2147483648 ≤ x.toInt := Int32.le_toInt x
theorem hb_hi (x : Int32) : x.toInt < 2147483648 := Int32.toInt_lt x
theorem hb_ix {i : Int32} (h : 0 ≤ i.toInt) : ((ix i : Nat) : Int) = i.toInt := by
  show ((i.toInt.toNat : Nat) : Int) = i.toInt
  omega
theorem hb_nat {n : Nat} (h : n < 2147483648) : (Int32.ofNat n).toInt = (n : Int) := nI_toInt h
theorem hb_ixN {n : Nat} (h : n < 2147483648) : ix (Int32.ofNat n) = n := nI_clamp h
theorem hb_of {i : Int32} (h : 0 ≤ i.toInt) : i = Int32.ofNat (ix i) := by
  apply Int32.toInt_inj.mp
  have := hb_hi i
  have h2 := hb_ix h
  rw [hb_nat (by omega)]
  omega
theorem hb_div (x y : Int32) (h0 : 0 ≤ x.toInt) (hy : 0 < y.toInt) : (x / y).toInt = x.toInt / y.toInt := by
  rw [Int32.toInt_div, Int.tdiv_eq_ediv_of_nonneg h0]
  have h1 := Int.ediv_nonneg h0 (Int.le_of_lt hy)
  have h2 := Int.ediv_le_self y.toInt h0
  have h3 := hb_hi x
  exact Int.bmod_eq_of_le (by omega) (by omega)
theorem hb_rem (x y : Int32) (hy : 0 < y.toInt) : (irm x y).toInt = x.toInt.tmod y.toInt := by
  have h3 := hb_hi x
  have h4 := hb_lo x
  have e1 : (x / y).toInt = x.toInt.tdiv y.toInt := by
    rw [Int32.toInt_div]
    rcases Int.le_total 0 x.toInt with h0 | h0
    · rw [Int.tdiv_eq_ediv_of_nonneg h0]
      have h1 := Int.ediv_nonneg h0 (Int.le_of_lt hy)
      have h2 := Int.ediv_le_self y.toInt h0
      exact Int.bmod_eq_of_le (by omega) (by omega)
    · have e : x.toInt.tdiv y.toInt = -((-x.toInt) / y.toInt) := by
        rw [← Int.tdiv_eq_ediv_of_nonneg (by omega : 0 ≤ -x.toInt), Int.neg_tdiv, Int.neg_neg]
      rw [e]
      have h1 := Int.ediv_nonneg (a := -x.toInt) (b := y.toInt) (by omega) (Int.le_of_lt hy)
      have h2 := Int.ediv_le_self (a := -x.toInt) y.toInt (by omega)
      exact Int.bmod_eq_of_le (by omega) (by omega)
  have e2 := Int.tdiv_mul_add_tmod x.toInt y.toInt
  have hb := tmod_bounds (a := x.toInt) hy
  have h5 := hb_hi y
  unfold irm
  have e3 : (x / y * y).toInt = x.toInt.tdiv y.toInt * y.toInt := by
    have e4 : x.toInt.tdiv y.toInt * y.toInt = x.toInt - x.toInt.tmod y.toInt := by omega
    have hs : 0 ≤ x.toInt → 0 ≤ x.toInt.tmod y.toInt := fun h => Int.tmod_nonneg _ h
    have ht : x.toInt ≤ 0 → x.toInt.tmod y.toInt ≤ 0 := fun h => by
      have := Int.tmod_nonneg (a := -x.toInt) y.toInt (by omega)
      rw [Int.neg_tmod] at this
      omega
    rw [hb_mul _ _ (by rw [e1, e4]; rcases Int.le_total 0 x.toInt with h0 | h0; have := hs h0; omega; have := ht h0; omega), e1]
  rw [hb_sub _ _ (by rw [e3]; omega), e3]
  omega
theorem hb_remN (x y : Int32) (h0 : 0 ≤ x.toInt) (hy : 0 < y.toInt) : (irm x y).toInt = x.toInt % y.toInt := by
  rw [hb_rem x y hy, Int.tmod_eq_emod_of_nonneg h0]
theorem hb_eq {x y : Int32} (h : x.toInt = y.toInt) : x = y := Int32.toInt_inj.mp h
theorem hb_ne {x y : Int32} (h : x ≠ y) : x.toInt ≠ y.toInt := fun e => h (Int32.toInt_inj.mp e)
theorem hb_leq {x y : Int64} (h : x.toInt = y.toInt) : x = y := Int64.toInt_inj.mp h
theorem hb_xor (x y : Int32) : (x ^^^ y).toInt < 0 ↔ (x.toInt < 0 ∧ ¬ y.toInt < 0) ∨ (¬ x.toInt < 0 ∧ y.toInt < 0) := by
  have key : ∀ z : Int32, z.toInt < 0 ↔ z.toBitVec.msb = true := fun z => by
    show z.toBitVec.toInt < 0 ↔ _
    rw [BitVec.toInt_neg_iff, BitVec.msb_eq_true_iff_two_mul_ge]
  rw [key, key, key, Int32.toBitVec_xor, BitVec.msb_xor]
  cases x.toBitVec.msb <;> cases y.toBitVec.msb <;> simp
theorem lc_eq (x y : Int64) : lg_cmp x y = 0 ↔ x = y := by
  unfold lg_cmp
  by_cases h1 : x > y
  · rw [if_pos h1]
    exact ⟨fun q => absurd q (by decide), fun q => by subst q; exact (Int64.lt_irrefl h1).elim⟩
  · rw [if_neg h1]
    by_cases h2 : x = y
    · rw [if_pos h2]; exact ⟨fun _ => h2, fun _ => rfl⟩
    · rw [if_neg h2]; exact ⟨fun q => absurd q (by decide), fun q => absurd q h2⟩
theorem lc_lt (x y : Int64) : (lg_cmp x y).toInt < 0 ↔ x.toInt < y.toInt := by
  unfold lg_cmp
  by_cases h1 : x > y
  · rw [if_pos h1]
    have h1 : y.toInt < x.toInt := Int64.lt_iff_toInt_lt.mp h1
    exact ⟨fun q => absurd q (by decide), fun q => by omega⟩
  · rw [if_neg h1]
    have h1 : ¬ y.toInt < x.toInt := fun q => h1 (Int64.lt_iff_toInt_lt.mpr q)
    by_cases h2 : x = y
    · rw [if_pos h2]; subst h2; exact ⟨fun q => absurd q (by decide), fun q => by omega⟩
    · rw [if_neg h2]
      have h2 : x.toInt ≠ y.toInt := fun e => h2 (Int64.toInt_inj.mp e)
      exact ⟨fun _ => by omega, fun _ => by decide⟩
theorem lc_gt (x y : Int64) : 0 < (lg_cmp x y).toInt ↔ y.toInt < x.toInt := by
  unfold lg_cmp
  by_cases h1 : x > y
  · rw [if_pos h1]
    have h1 : y.toInt < x.toInt := Int64.lt_iff_toInt_lt.mp h1
    exact ⟨fun _ => h1, fun _ => by decide⟩
  · rw [if_neg h1]
    have h1 : ¬ y.toInt < x.toInt := fun q => h1 (Int64.lt_iff_toInt_lt.mpr q)
    by_cases h2 : x = y
    · rw [if_pos h2]; subst h2; exact ⟨fun q => absurd q (by decide), fun q => by omega⟩
    · rw [if_neg h2]; exact ⟨fun q => absurd q (by decide), fun q => by omega⟩
theorem i2l_int (x : Int32) : x.toInt64.toInt = x.toInt := by simp
theorem i2l_inj {x y : Int32} : x.toInt64 = y.toInt64 ↔ x = y := ⟨fun h => hb_eq (by rw [← i2l_int, ← i2l_int, h]), fun h => by rw [h]⟩
/-! the heap behind a write -/
theorem kd_wi {h : MH} {a i : Nat} {x : Int32} : kd (wi h a i x) = kd h := rfl
theorem ln_wi {h : MH} {a i : Nat} {x : Int32} : ln (wi h a i x) = ln h := rfl
theorem hn_wi {h : MH} {a i : Nat} {x : Int32} : hn (wi h a i x) = hn h := rfl
theorem mr_wi {h : MH} {a i : Nat} {x : Int32} : mr (wi h a i x) = mr h := rfl
theorem ml_wi {h : MH} {a i : Nat} {x : Int32} : ml (wi h a i x) = ml h := rfl
theorem mi_wi {h : MH} {a i : Nat} {x : Int32} : mi (wi h a i x) = up2 (mi h) a i x := rfl
theorem kd_wl {h : MH} {a i : Nat} {x : Int64} : kd (wl h a i x) = kd h := rfl
theorem ln_wl {h : MH} {a i : Nat} {x : Int64} : ln (wl h a i x) = ln h := rfl
theorem hn_wl {h : MH} {a i : Nat} {x : Int64} : hn (wl h a i x) = hn h := rfl
theorem mr_wl {h : MH} {a i : Nat} {x : Int64} : mr (wl h a i x) = mr h := rfl
theorem mi_wl {h : MH} {a i : Nat} {x : Int64} : mi (wl h a i x) = mi h := rfl
theorem ml_wl {h : MH} {a i : Nat} {x : Int64} : ml (wl h a i x) = up2 (ml h) a i x := rfl
theorem kd_wr {h : MH} {a i : Nat} {x : Nat} : kd (wr h a i x) = kd h := rfl
theorem ln_wr {h : MH} {a i : Nat} {x : Nat} : ln (wr h a i x) = ln h := rfl
theorem hn_wr {h : MH} {a i : Nat} {x : Nat} : hn (wr h a i x) = hn h := rfl
theorem mi_wr {h : MH} {a i : Nat} {x : Nat} : mi (wr h a i x) = mi h := rfl
theorem ml_wr {h : MH} {a i : Nat} {x : Nat} : ml (wr h a i x) = ml h := rfl
theorem mr_wr {h : MH} {a i : Nat} {x : Nat} : mr (wr h a i x) = up2 (mr h) a i x := rfl
theorem kd_cpI {h : MH} {s sp d dp n : Nat} : kd (cpI h s sp d dp n) = kd h := rfl
theorem ln_cpI {h : MH} {s sp d dp n : Nat} : ln (cpI h s sp d dp n) = ln h := rfl
theorem hn_cpI {h : MH} {s sp d dp n : Nat} : hn (cpI h s sp d dp n) = hn h := rfl
theorem mr_cpI {h : MH} {s sp d dp n : Nat} : mr (cpI h s sp d dp n) = mr h := rfl
theorem ml_cpI {h : MH} {s sp d dp n : Nat} : ml (cpI h s sp d dp n) = ml h := rfl
theorem mi_cpI {h : MH} {s sp d dp n b j : Nat} : mi (cpI h s sp d dp n) b j = if b = d ∧ dp ≤ j ∧ j < dp + n then mi h s (sp + (j - dp)) else mi h b j := rfl
theorem up2_id {α : Type} {f : Nat → Nat → α} {a i b j : Nat} {x : α} (h : b ≠ a) : up2 f a i x b j = f b j := up2_n (Or.inl h)
theorem up2_ix {α : Type} {f : Nat → Nat → α} {a i j : Nat} {x : α} (h : j ≠ i) : up2 f a i x a j = f a j := up2_n (Or.inr h)
