theorem nI_sub {a b : Nat} (h : b ≤ a) : nI a - nI b = nI (a - b) := pk_sub h
theorem nI_toI {n : Nat} (h : n < 2147483648) : (nI n).toInt = (n : Int) := nI_toInt h
/-- a number is put in: behind those that are lower -/
def insF (f : Nat → Int) (k : Nat) (x : Int) : Nat → Int := fun i => if i < k then f i else if i = k then x else f (i - 1)
theorem insF_lt {f : Nat → Int} {k i : Nat} {x : Int} (h : i < k) : insF f k x i = f i := if_pos h
theorem insF_eq {f : Nat → Int} {k : Nat} {x : Int} : insF f k x k = x := by unfold insF; rw [if_neg (Nat.lt_irrefl k), if_pos rfl]
theorem insF_gt {f : Nat → Int} {k i : Nat} {x : Int} (h : k < i) : insF f k x i = f (i - 1) := by unfold insF; rw [if_neg (by omega), if_neg (by omega)]
/-- only the row's own two cells change -/
def RowEnd (h : MH) (r n : Nat) (f : Nat → Int) (h' : MH) : Prop := ∃ g, h' = si h g ∧ (∀ b, b ≠ r → b ≠ mr h r 0 → g b = mi h b) ∧ RowAt h' r n f
theorem sp_Row_clear {h : MH} {r n : Nat} {f : Nat → Int} (hr : RowAt h r n f) (hne : r ≠ mr h r 0) : SpV k_Row_clear [.ref r] h (fun h' => ∀ g : Nat → Int, RowEnd h r 0 g h') := by
  obtain ⟨hk, ha, hc, hl, hn, hf, hs⟩ := hr
  refine v_Row_clear r h _ ⟨hk, ?_⟩
  rintro _ rfl g
  refine ⟨up2 (mi h) r 1 0, rfl, fun b h1 h2 => funext fun j => up2_id h1, hk, ha, ?_, Nat.zero_le _, Nat.zero_le _, fun i hi => absurd hi (Nat.not_lt_zero i), fun i j _ hj => absurd hj (Nat.not_lt_zero j)⟩
  show up2 (mi h) r 1 0 r 1 = nI 0
  rw [up2_s]
  rfl
theorem sp_Row_put {h : MH} {r n : Nat} {f : Nat → Int} (x : Int32) (hr : RowAt h r n f) (hne : r ≠ mr h r 0) (hl9 : ln h (mr h r 0) ≤ 1000) :
    SpI k_Row_put [.ref r, .int x] h (fun y h' => (y = 1 ∧ h' = h ∧ ∃ k, k < n ∧ f k = x.toInt) ∨ ((∀ k, k < n → f k ≠ x.toInt) ∧ ((y = 0 ∧ h' = h ∧ n = ln h (mr h r 0)) ∨ (y = 1 ∧ n < ln h (mr h r 0) ∧ ∃ k, k ≤ n ∧ (∀ i, i < k → f i < x.toInt) ∧ (∀ i, k ≤ i → i < n → x.toInt < f i) ∧ RowEnd h r (n + 1) (insF f k x.toInt) h')))) := by
  have hr0 := hr
  obtain ⟨hk, ha, hc, hl, hn, hf, hs⟩ := hr
  refine v_Row_put r x h _ ⟨hk, ?_⟩
  refine SpI.mono (sp_Row_seat x hr0) ?_
  rintro y h' ⟨e0, k, h1, rfl, h2, h3⟩
  subst h'
  have t1 : (nI k).toInt = (k : Int) := nI_toInt (by omega)
  have t2 : (nI n).toInt = (n : Int) := nI_toInt (by omega)
  have tl : (Int32.ofNat (ln h (mr h r 0))).toInt = (ln h (mr h r 0) : Int) := nI_toInt (by omega)
  -- the place behind: the number is new
  have tail : (∀ i, i < n → f i ≠ x.toInt) → WM k_Row_put p_Row_put_1 [.ref r, .int x, .int (nI k)] [] h 0 0 (fun v h' => ∃ y, v = .int y ∧ ((y = 1 ∧ h' = h ∧ ∃ k, k < n ∧ f k = x.toInt) ∨ ((∀ k, k < n → f k ≠ x.toInt) ∧ ((y = 0 ∧ h' = h ∧ n = ln h (mr h r 0)) ∨ (y = 1 ∧ n < ln h (mr h r 0) ∧ ∃ k, k ≤ n ∧ (∀ i, i < k → f i < x.toInt) ∧ (∀ i, k ≤ i → i < n → x.toInt < f i) ∧ RowEnd h r (n + 1) (insF f k x.toInt) h'))))) := by
    intro hnew
    refine v_Row_put_1 r x (nI k) h _ ⟨hk, ha, ?_⟩
    rw [hc, t2, tl]
    refine ⟨fun c => ?_, fun c => ⟨_, rfl, Or.inr ⟨hnew, Or.inl ⟨rfl, rfl, by omega⟩⟩⟩⟩
    rw [nI_1, nI_sub h1, nI_toI (by omega), nI_toI (by omega), nI_toI (by omega), ix_nI (by omega), ix_nI (by omega), ix_nI (by omega)]
    refine ⟨⟨by omega, by omega, by omega, by omega, by omega⟩, ?_⟩
    rintro _ rfl
    refine ⟨InB_nI (by omega) (by omega), ?_⟩
    rintro _ rfl _ rfl
    refine ⟨_, rfl, Or.inr ⟨hnew, Or.inr ⟨rfl, by omega, k, h1, h2, fun i q1 q2 => by have := h3 i q1 q2; have := hnew i q2; omega, ?_⟩⟩⟩
    refine ⟨_, rfl, fun b b1 b2 => ?_, hk, ha, ?_, by show n + 1 ≤ ln h (mr h r 0); omega, by omega, fun i hi => ?_, fun i j hij hj => ?_⟩
    · funext j
      show up2 (up2 (mi (cpI h _ _ _ _ _)) _ _ _) _ _ _ b j = _
      rw [up2_id b1, up2_id b2, mi_cpI, if_neg (fun q => b2 q.1)]
    · show up2 (up2 (mi (cpI h _ _ _ _ _)) _ _ _) r 1 _ r 1 = _
      rw [up2_s, mi_wi, up2_id hne, mi_cpI, if_neg (fun q => hne q.1), hc, nI_1]
    · show (up2 (up2 (mi (cpI h _ _ _ _ _)) _ _ _) r 1 _ (mr h r 0) i).toInt = _
      rw [up2_id (Ne.symm hne)]
      rcases Nat.lt_trichotomy i k with q | q | q
      · rw [up2_ix (by omega), mi_cpI, if_neg (by omega), insF_lt q, hf i (by omega)]
      · subst q
        rw [up2_s, insF_eq]
      · rw [up2_ix (by omega), mi_cpI, if_pos ⟨rfl, by omega, by omega⟩, insF_gt q, show k + (i - (k + 1)) = i - 1 by omega, hf (i - 1) (by omega)]
    · have hx1 : ∀ i, i < k → f i < x.toInt := h2
      have hx2 : ∀ i, k ≤ i → i < n → x.toInt < f i := fun i q1 q2 => by have := h3 i q1 q2; have := hnew i q2; omega
      rcases Nat.lt_trichotomy i k with q | q | q
      · rw [insF_lt q]
        rcases Nat.lt_trichotomy j k with w | w | w
        · rw [insF_lt w]; exact hs i j hij (by omega)
        · subst w; rw [insF_eq]; exact hx1 i q
        · rw [insF_gt w]
          have := hx1 i q
          have := hx2 (j - 1) (by omega) (by omega)
          omega
      · subst q
        rw [insF_eq, insF_gt hij]
        exact hx2 (j - 1) (by omega) (by omega)
      · rw [insF_gt q, insF_gt (by omega)]
        exact hs (i - 1) (j - 1) (by omega) (by omega)
  refine ⟨hk, ?_⟩
  rw [hc, t1, t2]
  refine ⟨fun c1 => ⟨ha, InB_nI (by omega) (by omega), ?_⟩, fun c1 => tail (fun i hi => by have := h2 i (by omega); omega)⟩
  rw [ix_nI (by omega)]
  have e := hf k (by omega)
  refine ⟨fun c2 => ⟨_, rfl, Or.inl ⟨rfl, rfl, k, by omega, by rw [← e, c2]⟩⟩, fun c2 => tail (fun i hi => ?_)⟩
  have c2 := hb_ne c2
  rw [e] at c2
  rcases Nat.lt_trichotomy i k with q | q | q
  · have := h2 i q; omega
  · rw [q]; exact c2
  · have := h3 k (Nat.le_refl _) (by omega); have := hs k i q hi; omega
