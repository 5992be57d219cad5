/-! operations: a number below 272097792 stands for nine numbers -1, 0, 1 and three from 0 to 23 -/
def dM (c j : Nat) : Nat := c / 13824 / 3 ^ (8 - j) % 3
def eM (c j : Nat) : Int := (dM c j : Int) - 1
def eS (c j : Nat) : Nat := c % 13824 / 24 ^ (2 - j) % 24
def cOK (c : Nat) : Prop := c < 272097792
def MatAt (f : Nat → Nat → Int32) (a : Nat) (M : Nat → Int) : Prop := ∀ j, j < 9 → (f a j).toInt = M j
def ShAt (f : Nat → Nat → Int32) (b : Nat) (S : Nat → Int) : Prop := ∀ j, j < 3 → (f b j).toInt = S j
def Off2 (h : MH) (a b : Nat) (f : Nat → Nat → Int32) : Prop := ∀ d, d ≠ a → d ≠ b → f d = mi h d
theorem irm_nI {a d : Nat} (ha : a < 2147483648) (h0 : 0 < d) (hd : d < 2147483648) : irm (nI a) (nI d) = nI (a % d) := pk_rem ha h0 hd
theorem div_nI {a d : Nat} (ha : a < 2147483648) (h0 : 0 < d) (hd : d < 2147483648) : nI a / nI d = nI (a / d) := pk_div ha h0 hd
theorem pow_s {b n m : Nat} (h : n = m + 1) : b ^ n = b ^ m * b := by rw [h, Nat.pow_succ]
theorem dig_val {N : Nat} : ((nI (N % 3)) - 1).toInt = ((N % 3 : Nat) : Int) - 1 := by
  have h : N % 3 < 3 := Nat.mod_lt _ (by decide)
  rw [hb_sub _ _ (by rw [nI_toI (by omega)]; have e : (1 : Int32).toInt = 1 := rfl; omega), nI_toI (by omega)]
  rfl
theorem sp_Motion_open {h : MH} {x a b c : Nat} (hx : kd h x = 7) (ea : mr h x 0 = a) (eb : mr h x 1 = b) (ha : kd h a = 20) (hb : kd h b = 20) (la : ln h a = 9) (lb : ln h b = 3) (hab : a ≠ b) (hc : cOK c) :
    SpV k_Motion_open [.ref x, .int (nI c)] h (fun h' => ∃ f, h' = si h f ∧ Off2 h a b f ∧ MatAt f a (eM c) ∧ ShAt f b (fun j => (eS c j : Int))) := by
  have hc : c < 272097792 := hc
  have l2 : ∀ (d : Nat) (y : Int32) (f : Nat → Nat → Int32), d ≤ 3 → y.toInt = (d : Int) - 1 → Off2 h a b f → MatAt f a (eM c) → (∀ j, d ≤ j → j < 3 → (f b j).toInt = (eS c j : Int)) →
      WM k_Motion_open p_Motion_open_2 [.ref x, Jv, Jv, .int (nI (c % 13824 / 24 ^ (3 - d))), .int y] [] (si h f) 0 0 (fun _ h' => ∃ f, h' = si h f ∧ Off2 h a b f ∧ MatAt f a (eM c) ∧ ShAt f b (fun j => (eS c j : Int))) := by
    intro d
    induction d with
    | zero =>
      intro y f hd hy h1 h2 h3
      exact v_Motion_open_2 _ _ _ _ _ ⟨fun _ => ⟨f, rfl, h1, h2, fun j hj => h3 j (Nat.zero_le j) hj⟩, fun c => absurd (by omega) c⟩
    | succ d ih =>
      intro y f hd hy h1 h2 h3
      have hy0 : y = nI d := hb_eq (by rw [hy, nI_toI (by omega)]; omega)
      have hN : c % 13824 / 24 ^ (3 - (d + 1)) < 13824 := Nat.lt_of_le_of_lt (Nat.div_le_self _ _) (Nat.mod_lt _ (by decide))
      refine v_Motion_open_2 _ _ _ _ _ ⟨fun q => absurd q (by omega), fun _ => ⟨hx, ?_⟩⟩
      rw [show mr (si h f) x 1 = b from eb, hy0]
      refine ⟨hb, InB_nI (show d < ln (si h f) b by rw [ln_si]; omega) (by omega), ?_⟩
      rintro _ rfl
      rw [ix_nI (by omega), show (24 : Int32) = nI 24 from rfl, irm_nI (by omega) (by decide) (by decide), div_nI (by omega) (by decide) (by decide), wi_si]
      rw [Nat.div_div_eq_div_mul, ← pow_s (show 3 - d = 3 - (d + 1) + 1 by omega)]
      refine ih _ _ (by omega) ?_ ?_ ?_ ?_
      · rw [hb_add _ _ (by rw [nI_toI (by omega)]; have e : (-1 : Int32).toInt = -1 := rfl; omega), nI_toI (by omega)]
        have e : (-1 : Int32).toInt = -1 := rfl
        omega
      · intro q q1 q2; funext j; rw [up2_id q2, h1 q q1 q2]
      · intro j hj; rw [up2_id hab]; exact h2 j hj
      · intro j j1 j2
        by_cases e : j = d
        · subst e
          rw [up2_s, nI_toI (by omega)]
          unfold eS
          rw [show 2 - j = 3 - (j + 1) by omega]
        · rw [up2_ix e]; exact h3 j (by omega) j2
  have l1 : ∀ (d : Nat) (y : Int32) (f : Nat → Nat → Int32), d ≤ 9 → y.toInt = (d : Int) - 1 → Off2 h a b f → (∀ j, d ≤ j → j < 9 → (f a j).toInt = eM c j) →
      WM k_Motion_open p_Motion_open_1 [.ref x, Jv, .int (nI (c / 13824 / 3 ^ (9 - d))), .int (nI (c % 13824)), .int y] [] (si h f) 0 0 (fun _ h' => ∃ f, h' = si h f ∧ Off2 h a b f ∧ MatAt f a (eM c) ∧ ShAt f b (fun j => (eS c j : Int))) := by
    intro d
    induction d with
    | zero =>
      intro y f hd hy h1 h2
      refine v_Motion_open_1 _ _ _ _ _ _ ⟨fun _ => ?_, fun c => absurd (by omega) c⟩
      have := l2 3 2 f (by omega) rfl h1 (fun j hj => h2 j (Nat.zero_le j) hj) (fun j j1 j2 => by omega)
      rw [Nat.sub_self, Nat.pow_zero, Nat.div_one] at this
      exact this
    | succ d ih =>
      intro y f hd hy h1 h2
      have hy0 : y = nI d := hb_eq (by rw [hy, nI_toI (by omega)]; omega)
      have hN : c / 13824 / 3 ^ (9 - (d + 1)) < 19683 := Nat.lt_of_le_of_lt (Nat.div_le_self _ _) (by omega)
      refine v_Motion_open_1 _ _ _ _ _ _ ⟨fun q => absurd q (by omega), fun _ => ⟨hx, ?_⟩⟩
      rw [show mr (si h f) x 0 = a from ea, hy0]
      refine ⟨ha, InB_nI (show d < ln (si h f) a by rw [ln_si]; omega) (by omega), ?_⟩
      rintro _ rfl
      rw [ix_nI (by omega), show (3 : Int32) = nI 3 from rfl, irm_nI (by omega) (by decide) (by decide), div_nI (by omega) (by decide) (by decide), wi_si]
      rw [Nat.div_div_eq_div_mul, ← pow_s (show 9 - d = 9 - (d + 1) + 1 by omega)]
      refine ih _ _ (by omega) ?_ ?_ ?_
      · rw [hb_add _ _ (by rw [nI_toI (by omega)]; have e : (-1 : Int32).toInt = -1 := rfl; omega), nI_toI (by omega)]
        have e : (-1 : Int32).toInt = -1 := rfl
        omega
      · intro q q1 q2; funext j; rw [up2_id q1, h1 q q1 q2]
      · intro j j1 j2
        by_cases e : j = d
        · subst e
          rw [up2_s, dig_val]
          unfold eM dM
          rw [show 8 - j = 9 - (j + 1) by omega]
        · rw [up2_ix e]; exact h2 j (by omega) j2
  refine v_Motion_open x (nI c) h _ ?_
  rw [show (13824 : Int32) = nI 13824 from rfl, irm_nI (by omega) (by decide) (by decide), div_nI (by omega) (by decide) (by decide)]
  have := l1 9 8 (mi h) (by omega) rfl (fun _ _ _ => rfl) (fun j j1 j2 => by omega)
  rw [Nat.sub_self, Nat.pow_zero, Nat.div_one] at this
  exact this
theorem sp_Ref_open {h : MH} {a b c : Nat} (ha : kd h a = 20) (hb : kd h b = 20) (la : ln h a = 9) (lb : ln h b = 3) (hab : a ≠ b) (hc : cOK c) :
    SpV k_Ref_open [.int (nI c), .ref a, .ref b] h (fun h' => ∃ f, h' = si h f ∧ Off2 h a b f ∧ MatAt f a (eM c) ∧ ShAt f b (fun j => (eS c j : Int))) := by
  have hc : c < 272097792 := hc
  have l2 : ∀ (d : Nat) (y : Int32) (f : Nat → Nat → Int32), d ≤ 3 → y.toInt = (d : Int) - 1 → Off2 h a b f → MatAt f a (eM c) → (∀ j, d ≤ j → j < 3 → (f b j).toInt = (eS c j : Int)) →
      WM k_Ref_open p_Ref_open_2 [Jv, Jv, .ref b, Jv, .int (nI (c % 13824 / 24 ^ (3 - d))), .int y] [] (si h f) 0 0 (fun _ h' => ∃ f, h' = si h f ∧ Off2 h a b f ∧ MatAt f a (eM c) ∧ ShAt f b (fun j => (eS c j : Int))) := by
    intro d
    induction d with
    | zero =>
      intro y f hd hy h1 h2 h3
      exact v_Ref_open_2 _ _ _ _ _ ⟨fun _ => ⟨f, rfl, h1, h2, fun j hj => h3 j (Nat.zero_le j) hj⟩, fun c => absurd (by omega) c⟩
    | succ d ih =>
      intro y f hd hy h1 h2 h3
      have hy0 : y = nI d := hb_eq (by rw [hy, nI_toI (by omega)]; omega)
      have hN : c % 13824 / 24 ^ (3 - (d + 1)) < 13824 := Nat.lt_of_le_of_lt (Nat.div_le_self _ _) (Nat.mod_lt _ (by decide))
      refine v_Ref_open_2 _ _ _ _ _ ⟨fun q => absurd q (by omega), fun _ => ?_⟩
      rw [hy0]
      refine ⟨hb, InB_nI (show d < ln (si h f) b by rw [ln_si]; omega) (by omega), ?_⟩
      rintro _ rfl
      rw [ix_nI (by omega), show (24 : Int32) = nI 24 from rfl, irm_nI (by omega) (by decide) (by decide), div_nI (by omega) (by decide) (by decide), wi_si]
      rw [Nat.div_div_eq_div_mul, ← pow_s (show 3 - d = 3 - (d + 1) + 1 by omega)]
      refine ih _ _ (by omega) ?_ ?_ ?_ ?_
      · rw [hb_add _ _ (by rw [nI_toI (by omega)]; have e : (-1 : Int32).toInt = -1 := rfl; omega), nI_toI (by omega)]
        have e : (-1 : Int32).toInt = -1 := rfl
        omega
      · intro q q1 q2; funext j; rw [up2_id q2, h1 q q1 q2]
      · intro j hj; rw [up2_id hab]; exact h2 j hj
      · intro j j1 j2
        by_cases e : j = d
        · subst e
          rw [up2_s, nI_toI (by omega)]
          unfold eS
          rw [show 2 - j = 3 - (j + 1) by omega]
        · rw [up2_ix e]; exact h3 j (by omega) j2
  have l1 : ∀ (d : Nat) (y : Int32) (f : Nat → Nat → Int32), d ≤ 9 → y.toInt = (d : Int) - 1 → Off2 h a b f → (∀ j, d ≤ j → j < 9 → (f a j).toInt = eM c j) →
      WM k_Ref_open p_Ref_open_1 [Jv, .ref a, .ref b, .int (nI (c / 13824 / 3 ^ (9 - d))), .int (nI (c % 13824)), .int y] [] (si h f) 0 0 (fun _ h' => ∃ f, h' = si h f ∧ Off2 h a b f ∧ MatAt f a (eM c) ∧ ShAt f b (fun j => (eS c j : Int))) := by
    intro d
    induction d with
    | zero =>
      intro y f hd hy h1 h2
      refine v_Ref_open_1 _ _ _ _ _ _ _ ⟨fun _ => ?_, fun c => absurd (by omega) c⟩
      have := l2 3 2 f (by omega) rfl h1 (fun j hj => h2 j (Nat.zero_le j) hj) (fun j j1 j2 => by omega)
      rw [Nat.sub_self, Nat.pow_zero, Nat.div_one] at this
      exact this
    | succ d ih =>
      intro y f hd hy h1 h2
      have hy0 : y = nI d := hb_eq (by rw [hy, nI_toI (by omega)]; omega)
      have hN : c / 13824 / 3 ^ (9 - (d + 1)) < 19683 := Nat.lt_of_le_of_lt (Nat.div_le_self _ _) (by omega)
      refine v_Ref_open_1 _ _ _ _ _ _ _ ⟨fun q => absurd q (by omega), fun _ => ?_⟩
      rw [hy0]
      refine ⟨ha, InB_nI (show d < ln (si h f) a by rw [ln_si]; omega) (by omega), ?_⟩
      rintro _ rfl
      rw [ix_nI (by omega), show (3 : Int32) = nI 3 from rfl, irm_nI (by omega) (by decide) (by decide), div_nI (by omega) (by decide) (by decide), wi_si]
      rw [Nat.div_div_eq_div_mul, ← pow_s (show 9 - d = 9 - (d + 1) + 1 by omega)]
      refine ih _ _ (by omega) ?_ ?_ ?_
      · rw [hb_add _ _ (by rw [nI_toI (by omega)]; have e : (-1 : Int32).toInt = -1 := rfl; omega), nI_toI (by omega)]
        have e : (-1 : Int32).toInt = -1 := rfl
        omega
      · intro q q1 q2; funext j; rw [up2_id q1, h1 q q1 q2]
      · intro j j1 j2
        by_cases e : j = d
        · subst e
          rw [up2_s, dig_val]
          unfold eM dM
          rw [show 8 - j = 9 - (j + 1) by omega]
        · rw [up2_ix e]; exact h2 j (by omega) j2
  refine v_Ref_open (nI c) a b h _ ?_
  rw [show (13824 : Int32) = nI 13824 from rfl, irm_nI (by omega) (by decide) (by decide), div_nI (by omega) (by decide) (by decide)]
  have := l1 9 8 (mi h) (by omega) rfl (fun _ _ _ => rfl) (fun j j1 j2 => by omega)
  rw [Nat.sub_self, Nat.pow_zero, Nat.div_one] at this
  exact this
