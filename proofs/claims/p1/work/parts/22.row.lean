/-! Row: different numbers, the lowest first -/
/-- the row r holds the n numbers f, each higher than the one before -/
def RowAt (h : MH) (r n : Nat) (f : Nat → Int) : Prop :=
  kd h r = 9 ∧ kd h (mr h r 0) = 20 ∧ mi h r 1 = nI n ∧ n ≤ ln h (mr h r 0) ∧ n ≤ 1000 ∧ (∀ i, i < n → (mi h (mr h r 0) i).toInt = f i) ∧ ∀ i j, i < j → j < n → f i < f j
theorem mid_nI {a b : Nat} (ha : a < 1000000) (hb : b < 1000000) : ((nI a + nI b).toUInt32 >>> ((1 : Int32).toUInt32 &&& Int32.toUInt32 31)).toInt32 = nI ((a + b) / 2) := by
  rw [nI_add, pk_ushrN (by omega) 1 1 (by decide)]
theorem InB_nI {a n : Nat} (h : a < n) (hn : a < 2147483648) : InB (nI a) n := by
  unfold InB
  rw [nI_toInt hn]
  omega
theorem ix_nI {a : Nat} (h : a < 2147483648) : ix (nI a) = a := nI_clamp h
theorem sp_Row_seat {h : MH} {r n : Nat} {f : Nat → Int} (x : Int32) (hr : RowAt h r n f) : SpI k_Row_seat [.ref r, .int x] h (fun y h' => h' = h ∧ ∃ k, k ≤ n ∧ y = nI k ∧ (∀ i, i < k → f i < x.toInt) ∧ ∀ i, k ≤ i → i < n → x.toInt ≤ f i) := by
  obtain ⟨hk, ha, hc, hl, hn, hf, hs⟩ := hr
  refine v_Row_seat r x h _ ⟨hk, ?_⟩
  rw [hc]
  have loop : ∀ (d low high i : Nat), high - low ≤ d → low ≤ high → high ≤ n → i ≤ 32 → high - low < 2 ^ (32 - i) → (∀ j, j < low → f j < x.toInt) → (∀ j, high ≤ j → j < n → x.toInt ≤ f j) →
      WM k_Row_seat p_Row_seat_1 [.ref r, .int x, .int (nI low), .int (nI high), .int (nI i), Jv] [] h 0 0 (fun v h' => ∃ y, v = .int y ∧ h' = h ∧ ∃ k, k ≤ n ∧ y = nI k ∧ (∀ i, i < k → f i < x.toInt) ∧ ∀ i, k ≤ i → i < n → x.toInt ≤ f i) := by
    intro d
    induction d with
    | zero =>
      intro low high i h1 h2 h3 h4 h5 h6 h7
      have e : low = high := by omega
      subst e
      refine v_Row_seat_1 _ _ _ _ _ _ _ ⟨fun c1 => ⟨fun c2 => absurd c2 (by omega), fun c2 => ⟨_, rfl, rfl, low, h3, rfl, h6, h7⟩⟩, fun c1 => ⟨_, rfl, rfl, low, h3, rfl, h6, h7⟩⟩
    | succ d ih =>
      intro low high i h1 h2 h3 h4 h5 h6 h7
      have t1 : (nI low).toInt = (low : Int) := nI_toInt (by omega)
      have t2 : (nI high).toInt = (high : Int) := nI_toInt (by omega)
      have t3 : (nI i).toInt = (i : Int) := nI_toInt (by omega)
      have t32 : (32 : Int32).toInt = 32 := rfl
      refine v_Row_seat_1 _ _ _ _ _ _ _ ?_
      rw [mid_nI (by omega) (by omega), t1, t2, t3, t32]
      refine ⟨fun c1 => ⟨fun c2 => ?_, fun c2 => ⟨_, rfl, rfl, low, by omega, rfl, h6, fun j q1 q2 => h7 j (by omega) q2⟩⟩, fun c1 => ?_⟩
      · have hm : (low + high) / 2 < high := by omega
        have hm2 : low ≤ (low + high) / 2 := by omega
        have hi : i < 32 := by omega
        have hp : 2 ^ (32 - i) = 2 * 2 ^ (32 - (i + 1)) := by rw [show 32 - i = (32 - (i + 1)) + 1 by omega, Nat.pow_succ]; omega
        refine ⟨hk, ha, InB_nI (by omega) (by omega), ?_⟩
        rw [ix_nI (by omega), hf _ (by omega), nI_1, nI_1]
        refine ⟨fun c3 => ih _ _ _ (by omega) (by omega) h3 (by omega) (by omega) (fun j hj => ?_) h7, fun c3 => ih _ _ _ (by omega) (by omega) (by omega) (by omega) (by omega) h6 (fun j q1 q2 => ?_)⟩
        · by_cases e : j = (low + high) / 2
          · rw [e]; exact c3
          · have := hs j ((low + high) / 2) (by omega) (by omega)
            omega
        · by_cases e : j = (low + high) / 2
          · rw [e]; omega
          · have := hs ((low + high) / 2) j (by omega) (by omega)
            omega
      · have hi : i = 32 := by omega
        subst hi
        exact ⟨_, rfl, rfl, low, by omega, rfl, h6, fun j q1 q2 => h7 j (by simp at h5; omega) q2⟩
  exact loop n 0 n 0 (by omega) (by omega) (by omega) (by omega) (by simp; omega) (fun j hj => by omega) (fun j h1 h2 => by omega)
theorem sp_Row_find {h : MH} {r n : Nat} {f : Nat → Int} (x : Int32) (hr : RowAt h r n f) : SpI k_Row_find [.ref r, .int x] h (fun y h' => h' = h ∧ ((∃ k, k < n ∧ f k = x.toInt ∧ y = nI k) ∨ (y = -1 ∧ ∀ k, k < n → f k ≠ x.toInt))) := by
  have hr0 := hr
  obtain ⟨hk, ha, hc, hl, hn, hf, hs⟩ := hr
  refine v_Row_find r x h _ ⟨hk, ?_⟩
  refine SpI.mono (sp_Row_seat x hr0) ?_
  rintro y h' ⟨rfl, k, h1, rfl, h2, h3⟩
  have t1 : (nI k).toInt = (k : Int) := nI_toInt (by omega)
  have t2 : (nI n).toInt = (n : Int) := nI_toInt (by omega)
  refine ⟨hk, ?_⟩
  rw [hc, t1, t2]
  refine ⟨fun c1 => ⟨ha, InB_nI (by omega) (by omega), ?_⟩, fun c1 => ⟨_, rfl, rfl, Or.inr ⟨rfl, fun i hi => by have := h2 i (by omega); omega⟩⟩⟩
  rw [ix_nI (by omega)]
  have e := hf k (by omega)
  refine ⟨fun c2 => ⟨_, rfl, rfl, Or.inl ⟨k, by omega, by rw [← e, c2], rfl⟩⟩, fun c2 => ⟨_, rfl, rfl, Or.inr ⟨rfl, fun i hi => ?_⟩⟩⟩
  have c2 := hb_ne c2
  rw [e] at c2
  rcases Nat.lt_trichotomy i k with q | q | q
  · have := h2 i q; omega
  · rw [q]; exact c2
  · have := h3 k (Nat.le_refl _) (by omega); have := hs k i q hi; omega
