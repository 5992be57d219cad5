/-! products, determinants, codes -/
/-- the matrix' row i times a column -/
def mul9 (M N : Nat → Int) : Nat → Int := fun j => M (3 * (j / 3)) * N (j % 3) + M (3 * (j / 3) + 1) * N (3 + j % 3) + M (3 * (j / 3) + 2) * N (6 + j % 3)
def mulS (M : Nat → Int) (S T : Nat → Int) : Nat → Int := fun i => (M (3 * i) * T 0 + M (3 * i + 1) * T 1 + M (3 * i + 2) * T 2 + S i) % 24
def small (M : Nat → Int) : Prop := ∀ j, j < 9 → -1 ≤ M j ∧ M j ≤ 1
def det9 (M : Nat → Int) : Int := M 0 * (M 4 * M 8 - M 5 * M 7) - M 1 * (M 3 * M 8 - M 5 * M 6) + M 2 * (M 3 * M 7 - M 4 * M 6)
def enc9 (M : Nat → Int) : Int := (((((((((M 0 + 1) * 3 + (M 1 + 1)) * 3 + (M 2 + 1)) * 3 + (M 3 + 1)) * 3 + (M 4 + 1)) * 3 + (M 5 + 1)) * 3 + (M 6 + 1)) * 3 + (M 7 + 1)) * 3 + (M 8 + 1))
def enc (M S : Nat → Int) : Int := ((enc9 M * 24 + S 0) * 24 + S 1) * 24 + S 2
theorem eM_small (c : Nat) : small (eM c) := fun j _ => by
  have : dM c j < 3 := Nat.mod_lt _ (by decide)
  unfold eM
  omega
theorem eS_lt (c j : Nat) : eS c j < 24 := Nat.mod_lt _ (by decide)
theorem enc_dec {c : Nat} (hc : cOK c) : enc (eM c) (fun j => (eS c j : Int)) = c := by
  unfold cOK at hc
  unfold enc enc9 eM dM eS
  simp only [Nat.sub_zero, Nat.reduceSub, Nat.reducePow]
  omega
theorem enc9_rng {M : Nat → Int} (h : small M) : 0 ≤ enc9 M ∧ enc9 M < 19683 := by
  have h0 := h 0 (by decide); have h1 := h 1 (by decide); have h2 := h 2 (by decide); have h3 := h 3 (by decide); have h4 := h 4 (by decide)
  have h5 := h 5 (by decide); have h6 := h 6 (by decide); have h7 := h 7 (by decide); have h8 := h 8 (by decide)
  unfold enc9
  omega
theorem enc_rng {M S : Nat → Int} (h : small M) (hs : ∀ j, j < 3 → 0 ≤ S j ∧ S j < 24) : 0 ≤ enc M S ∧ enc M S < 272097792 := by
  have := enc9_rng h
  have h0 := hs 0 (by decide); have h1 := hs 1 (by decide); have h2 := hs 2 (by decide)
  unfold enc
  omega
/-! numbers with their bounds -/
def Bd (v : Int32) (x : Int) (n : Nat) : Prop := v.toInt = x ∧ x.natAbs ≤ n
theorem Bd.add {v w : Int32} {x y : Int} {a b : Nat} (h1 : Bd v x a) (h2 : Bd w y b) (h : a + b < 2147483648) : Bd (v + w) (x + y) (a + b) := by
  obtain ⟨rfl, e1⟩ := h1
  obtain ⟨rfl, e2⟩ := h2
  exact ⟨hb_add _ _ (by omega), by omega⟩
theorem Bd.sub {v w : Int32} {x y : Int} {a b : Nat} (h1 : Bd v x a) (h2 : Bd w y b) (h : a + b < 2147483648) : Bd (v - w) (x - y) (a + b) := by
  obtain ⟨rfl, e1⟩ := h1
  obtain ⟨rfl, e2⟩ := h2
  exact ⟨hb_sub _ _ (by omega), by omega⟩
theorem Bd.mul {v w : Int32} {x y : Int} {a b : Nat} (h1 : Bd v x a) (h2 : Bd w y b) (h : a * b < 2147483648) : Bd (v * w) (x * y) (a * b) := by
  obtain ⟨rfl, e1⟩ := h1
  obtain ⟨rfl, e2⟩ := h2
  have e3 : (v.toInt * w.toInt).natAbs ≤ a * b := by rw [Int.natAbs_mul]; exact Nat.mul_le_mul e1 e2
  exact ⟨hb_mul _ _ (by omega), e3⟩
theorem Bd.wk {v : Int32} {x : Int} {a b : Nat} (h : Bd v x a) (hab : a ≤ b) : Bd v x b := ⟨h.1, Nat.le_trans h.2 hab⟩
theorem Bd.of {v : Int32} {x : Int} {n : Nat} (h : v.toInt = x) (h1 : -(n : Int) ≤ x) (h2 : x ≤ n) : Bd v x n := ⟨h, by omega⟩
theorem Bd.nI {a n : Nat} (h : a ≤ n) (hn : n < 2147483648) : Bd (nI a) (a : Int) n := ⟨nI_toI (by omega), by omega⟩
theorem ix_lit {a : Nat} (h : a < 2147483648) : ix (nI a) = a := ix_nI h
theorem sp_Motion_isSmall {h : MH} {x a : Nat} {M : Nat → Int} (hx : kd h x = 7) (ea : mr h x 0 = a) (ha : kd h a = 20) (la : ln h a = 9) (hM : MatAt (mi h) a M) :
    SpI k_Motion_isSmall [.ref x] h (fun y h' => h' = h ∧ ((y = 1 ∧ small M) ∨ (y = 0 ∧ ¬ small M))) := by
  have loop : ∀ (d i : Nat), 9 - i = d → i ≤ 9 → (∀ j, j < i → -1 ≤ M j ∧ M j ≤ 1) → WM k_Motion_isSmall p_Motion_isSmall_1 [.ref x, .int (nI i)] [] h 0 0 (fun v h' => ∃ y, v = .int y ∧ h' = h ∧ ((y = 1 ∧ small M) ∨ (y = 0 ∧ ¬ small M))) := by
    intro d
    induction d with
    | zero =>
      intro i h1 h2 h3
      have e : i = 9 := by omega
      subst e
      exact v_Motion_isSmall_1 _ _ _ _ ⟨fun c => absurd c (by decide), fun _ => ⟨_, rfl, rfl, Or.inl ⟨rfl, h3⟩⟩⟩
    | succ d ih =>
      intro i h1 h2 h3
      have e9 : (9 : Int32).toInt = 9 := rfl
      have em : (-1 : Int32).toInt = -1 := rfl
      have e1 : (1 : Int32).toInt = 1 := rfl
      refine v_Motion_isSmall_1 _ _ _ _ ⟨fun _ => ⟨hx, ?_⟩, fun c => absurd (by rw [nI_toI (by omega)]; omega) c⟩
      rw [ea, ix_nI (by omega), hM i (by omega)]
      refine ⟨ha, InB_nI (by omega) (by omega), fun c => ⟨_, rfl, rfl, Or.inr ⟨rfl, fun q => ?_⟩⟩, fun c => ⟨fun c2 => ⟨_, rfl, rfl, Or.inr ⟨rfl, fun q => ?_⟩⟩, fun c2 => ?_⟩⟩
      · have := q i (by omega); omega
      · have := q i (by omega); omega
      · rw [nI_1]
        refine ih (i + 1) (by omega) (by omega) (fun j hj => ?_)
        by_cases e : j = i
        · subst e; omega
        · exact h3 j (by omega)
  exact v_Motion_isSmall x h _ (loop 9 0 rfl (by omega) (fun j hj => absurd hj (Nat.not_lt_zero j)))
def pe (M : Nat → Int) : Nat → Int
  | 0 => 0
  | k + 1 => pe M k * 3 + M k + 1
def ps (e : Int) (S : Nat → Int) : Nat → Int
  | 0 => e
  | k + 1 => ps e S k * 24 + S k
theorem pe_9 (M : Nat → Int) : pe M 9 = enc9 M := by
  unfold enc9
  simp only [pe]
  omega
theorem ps_3 (M S : Nat → Int) : ps (enc9 M) S 3 = enc M S := by
  unfold enc
  simp only [ps]
theorem pe_rng {M : Nat → Int} (h : small M) : ∀ k, k ≤ 9 → 0 ≤ pe M k ∧ pe M k < 3 ^ k
  | 0, _ => by simp [pe]
  | k + 1, hk => by
    have ih := pe_rng h k (by omega)
    have := h k (by omega)
    simp only [pe]
    rw [Int.pow_succ]
    omega
theorem sp_Motion_code {h : MH} {x a b : Nat} {M S : Nat → Int} (hx : kd h x = 7) (ea : mr h x 0 = a) (eb : mr h x 1 = b) (ha : kd h a = 20) (hb : kd h b = 20) (la : ln h a = 9) (lb : ln h b = 3) (hM : MatAt (mi h) a M) (hS : ShAt (mi h) b S) (hs : ∀ j, j < 3 → 0 ≤ S j ∧ S j < 24) :
    SpI k_Motion_code [.ref x] h (fun y h' => h' = h ∧ ((small M ∧ y.toInt = enc M S) ∨ (¬ small M ∧ y = -1))) := by
  refine v_Motion_code x h _ ⟨hx, ?_⟩
  refine SpI.mono (sp_Motion_isSmall hx ea ha la hM) ?_
  rintro y h' ⟨e0, hy⟩
  subst h'
  refine ⟨fun c => ⟨_, rfl, rfl, ?_⟩, fun c => ?_⟩
  · rcases hy with q | q
    · rw [q.1] at c; exact absurd c (by decide)
    · exact Or.inr ⟨q.2, rfl⟩
  have hsm : small M := by
    rcases hy with q | q
    · exact q.2
    · exact absurd q.1 c
  have l2 : ∀ (d i : Nat) (v : Int32), 3 - i = d → i ≤ 3 → v.toInt = ps (enc9 M) S i → (0 ≤ ps (enc9 M) S i ∧ ps (enc9 M) S i < 19683 * 24 ^ i) → WM k_Motion_code p_Motion_code_2 [.ref x, .int v, .int (nI i)] [] h 0 0 (fun v h' => ∃ y, v = .int y ∧ h' = h ∧ ((small M ∧ y.toInt = enc M S) ∨ (¬ small M ∧ y = -1))) := by
    intro d
    induction d with
    | zero =>
      intro i v h1 h2 h3 h4
      have e : i = 3 := by omega
      subst e
      exact v_Motion_code_2 _ _ _ _ _ ⟨fun c => absurd c (by decide), fun _ => ⟨_, rfl, rfl, Or.inl ⟨hsm, by rw [h3, ps_3]⟩⟩⟩
    | succ d ih =>
      intro i v h1 h2 h3 h4
      have e3 : (3 : Int32).toInt = 3 := rfl
      have hp : (24 : Int) ^ i ≤ 24 ^ 2 := by
        have : i = 0 ∨ i = 1 ∨ i = 2 := by omega
        rcases this with rfl | rfl | rfl <;> decide
      have hsi := hs i (by omega)
      refine v_Motion_code_2 _ _ _ _ _ ⟨fun _ => ⟨hx, ?_⟩, fun c => absurd (by rw [nI_toI (by omega)]; omega) c⟩
      rw [eb, ix_nI (by omega), nI_1]
      refine ⟨hb, InB_nI (by omega) (by omega), ?_⟩
      have e24 : (24 : Int32).toInt = 24 := rfl
      have hm : (v * 24).toInt = ps (enc9 M) S i * 24 := by rw [hb_mul _ _ (by rw [h3, e24]; omega), h3, e24]
      refine ih (i + 1) _ (by omega) (by omega) ?_ ?_
      · rw [hb_add _ _ (by rw [hm, hS i (by omega)]; omega), hm, hS i (by omega)]
        rfl
      · simp only [ps]
        rw [Int.pow_succ]
        omega
  have l1 : ∀ (d i : Nat) (v : Int32), 9 - i = d → i ≤ 9 → v.toInt = pe M i → WM k_Motion_code p_Motion_code_1 [.ref x, .int v, .int (nI i)] [] h 0 0 (fun v h' => ∃ y, v = .int y ∧ h' = h ∧ ((small M ∧ y.toInt = enc M S) ∨ (¬ small M ∧ y = -1))) := by
    intro d
    induction d with
    | zero =>
      intro i v h1 h2 h3
      have e : i = 9 := by omega
      subst e
      have hr := enc9_rng hsm
      exact v_Motion_code_1 _ _ _ _ _ ⟨fun c => absurd c (by decide), fun _ => l2 3 0 v rfl (by omega) (by rw [h3, pe_9]; rfl) (by simp only [ps]; omega)⟩
    | succ d ih =>
      intro i v h1 h2 h3
      have e9 : (9 : Int32).toInt = 9 := rfl
      have hr := pe_rng hsm i (by omega)
      have hp : (3 : Int) ^ i ≤ 3 ^ 8 := by
        have h38 : ((3 ^ i : Nat) : Int) ≤ ((3 ^ 8 : Nat) : Int) := Int.ofNat_le.mpr (Nat.pow_le_pow_right (by decide) (by omega))
        simpa using h38
      have hsi := hsm i (by omega)
      refine v_Motion_code_1 _ _ _ _ _ ⟨fun _ => ⟨hx, ?_⟩, fun c => absurd (by rw [nI_toI (by omega)]; omega) c⟩
      rw [ea, ix_nI (by omega), nI_1]
      refine ⟨ha, InB_nI (by omega) (by omega), ?_⟩
      have e3 : (3 : Int32).toInt = 3 := rfl
      have e1 : (1 : Int32).toInt = 1 := rfl
      have hm : (v * 3).toInt = pe M i * 3 := by rw [hb_mul _ _ (by rw [h3, e3]; omega), h3, e3]
      have hm2 : (v * 3 + mi h a i).toInt = pe M i * 3 + M i := by rw [hb_add _ _ (by rw [hm, hM i (by omega)]; omega), hm, hM i (by omega)]
      refine ih (i + 1) _ (by omega) (by omega) ?_
      rw [hb_add _ _ (by rw [hm2, e1]; omega), hm2, e1]
      rfl
  exact l1 9 0 0 rfl (by omega) rfl
