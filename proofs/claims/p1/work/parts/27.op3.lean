/-! products -/
theorem MatAt.bd {f : Nat → Nat → Int32} {a : Nat} {M : Nat → Int} (h : MatAt f a M) (hs : small M) {j : Nat} (hj : j < 9) : Bd (f a j) (M j) 1 := Bd.of (h j hj) (by have := hs j hj; omega) (by have := hs j hj; omega)
theorem ShAt.bd {f : Nat → Nat → Int32} {b : Nat} {S : Nat → Int} (h : ShAt f b S) (hs : ∀ j, j < 3 → 0 ≤ S j ∧ S j < 24) {j : Nat} (hj : j < 3) : Bd (f b j) (S j) 23 := Bd.of (h j hj) (by have := hs j hj; omega) (by have := hs j hj; omega)
def sOK (S : Nat → Int) : Prop := ∀ j, j < 3 → 0 ≤ S j ∧ S j < 24
/-- a sum over the first k of three -/
def pS (M S T : Nat → Int) (i : Nat) : Nat → Int
  | 0 => S i
  | k + 1 => pS M S T i k + M (3 * i + k) * T k
theorem pS_3 (M S T : Nat → Int) (i : Nat) : pS M S T i 3 % 24 = mulS M S T i := by
  unfold mulS
  simp only [pS]
  congr 1
  rw [Nat.add_zero]
  omega
theorem mul9_at (M N : Nat → Int) {i k : Nat} (hk : k < 3) : mul9 M N (3 * i + k) = M (3 * i) * N k + M (3 * i + 1) * N (3 + k) + M (3 * i + 2) * N (6 + k) := by
  unfold mul9
  rw [show (3 * i + k) / 3 = i by omega, show (3 * i + k) % 3 = k by omega]
theorem fm24 : (24 : Int32).toInt = 24 := rfl
theorem sp_Motion_join {h : MH} {x0 x1 x2 a0 b0 a1 b1 a2 b2 : Nat} {M S N T : Nat → Int} (hx0 : kd h x0 = 7) (hx1 : kd h x1 = 7) (hx2 : kd h x2 = 7)
    (ea0 : mr h x0 0 = a0) (eb0 : mr h x0 1 = b0) (ea1 : mr h x1 0 = a1) (eb1 : mr h x1 1 = b1) (ea2 : mr h x2 0 = a2) (eb2 : mr h x2 1 = b2)
    (ka0 : kd h a0 = 20) (kb0 : kd h b0 = 20) (ka1 : kd h a1 = 20) (kb1 : kd h b1 = 20) (ka2 : kd h a2 = 20) (kb2 : kd h b2 = 20)
    (la0 : ln h a0 = 9) (lb0 : ln h b0 = 3) (la1 : ln h a1 = 9) (lb1 : ln h b1 = 3) (la2 : ln h a2 = 9) (lb2 : ln h b2 = 3)
    (n1 : a0 ≠ b0) (n2 : a0 ≠ a1) (n3 : a0 ≠ b1) (n4 : a0 ≠ a2) (n5 : a0 ≠ b2) (m2 : b0 ≠ a1) (m3 : b0 ≠ b1) (m4 : b0 ≠ a2) (m5 : b0 ≠ b2)
    (hM : MatAt (mi h) a1 M) (hS : ShAt (mi h) b1 S) (hN : MatAt (mi h) a2 N) (hT : ShAt (mi h) b2 T) (sM : small M) (sN : small N) (sS : sOK S) (sT : sOK T) :
    SpV k_Motion_join [.ref x0, .ref x1, .ref x2] h (fun h' => ∃ f, h' = si h f ∧ Off2 h a0 b0 f ∧ MatAt f a0 (mul9 M N) ∧ ShAt f b0 (mulS M S T)) := by
  have e3 : (3 : Int32).toInt = 3 := rfl
  have e9 : (9 : Int32).toInt = 9 := rfl
  have keep : ∀ f, Off2 h a0 b0 f → f a1 = mi h a1 ∧ f b1 = mi h b1 ∧ f a2 = mi h a2 ∧ f b2 = mi h b2 := fun f hf => ⟨hf a1 (Ne.symm n2) (Ne.symm m2), hf b1 (Ne.symm n3) (Ne.symm m3), hf a2 (Ne.symm n4) (Ne.symm m4), hf b2 (Ne.symm n5) (Ne.symm m5)⟩
  have main : ∀ (d i : Nat) (f : Nat → Nat → Int32), 3 - i = d → i ≤ 3 → Off2 h a0 b0 f → (∀ j, j < 3 * i → (f a0 j).toInt = mul9 M N j) → (∀ j, j < i → (f b0 j).toInt = mulS M S T j) →
      WM k_Motion_join p_Motion_join_1 [.ref x0, .ref x1, .ref x2, .int (nI (3 * i)), Jv, Jv] [] (si h f) 0 0 (fun _ h' => ∃ f, h' = si h f ∧ Off2 h a0 b0 f ∧ MatAt f a0 (mul9 M N) ∧ ShAt f b0 (mulS M S T)) := by
    intro d
    induction d with
    | zero =>
      intro i f h1 h2 h3 h4 h5
      have e : i = 3 := by omega
      subst e
      exact v_Motion_join_1 _ _ _ _ _ _ ⟨fun c => absurd c (by decide), fun _ => ⟨f, rfl, h3, h4, h5⟩⟩
    | succ d ih =>
      intro i f h1 h2 h3 h4 h5
      have inner : ∀ (d2 q : Nat) (f : Nat → Nat → Int32) (v : Int32), 3 - q = d2 → q ≤ 3 → Off2 h a0 b0 f → (∀ j, j < 3 * i + q → (f a0 j).toInt = mul9 M N j) → (∀ j, j < i → (f b0 j).toInt = mulS M S T j) → Bd v (pS M S T i q) (23 + 23 * q) →
          WM k_Motion_join p_Motion_join_2 [.ref x0, .ref x1, .ref x2, .int (nI (3 * i)), .int v, .int (nI q)] [] (si h f) 0 0 (fun _ h' => ∃ f, h' = si h f ∧ Off2 h a0 b0 f ∧ MatAt f a0 (mul9 M N) ∧ ShAt f b0 (mulS M S T)) := by
        intro d2
        induction d2 with
        | zero =>
          intro q f v q1 q2 q3 q4 q5 q6
          have e : q = 3 := by omega
          subst e
          refine v_Motion_join_2 _ _ _ _ _ _ _ _ ⟨fun c => absurd c (by decide), fun _ => ⟨hx0, ?_⟩⟩
          refine SpI.mono (sp_floorMod v 24 (by decide)) ?_
          rintro r h' ⟨rfl, hr⟩
          rw [show mr (si h f) x0 1 = b0 from eb0, show (3 : Int32) = nI 3 from rfl, div_nI (by omega) (by decide) (by decide), show 3 * i / 3 = i by omega, ix_nI (by omega)]
          refine ⟨kb0, InB_nI (show i < ln (si h f) b0 by rw [ln_si]; omega) (by omega), ?_⟩
          rintro _ rfl
          rw [wi_si, nI_add, show 3 * i + 3 = 3 * (i + 1) by omega]
          refine ih (i + 1) _ (by omega) (by omega) ?_ ?_ ?_
          · intro w w1 w2; funext j; rw [up2_id w2, q3 w w1 w2]
          · intro j hj; rw [up2_id n1]; exact q4 j (by omega)
          · intro j hj
            by_cases e : j = i
            · subst e
              rw [up2_s, hr, q6.1, fm24, pS_3]
            · rw [up2_ix e]; exact q5 j (by omega)
        | succ d2 ih2 =>
          intro q f v q1 q2 q3 q4 q5 q6
          obtain ⟨f1, f2, f3, f4⟩ := keep f q3
          refine v_Motion_join_2 _ _ _ _ _ _ _ _ ⟨fun _ => ⟨hx0, hx1, ?_⟩, fun c => absurd (by rw [nI_toI (by omega)]; omega) c⟩
          rw [show mr (si h f) x1 0 = a1 from ea1, show mr (si h f) x2 0 = a2 from ea2, show mr (si h f) x0 0 = a0 from ea0, show mr (si h f) x2 1 = b2 from eb2]
          rw [show (3 : Int32) = nI 3 from rfl, show (6 : Int32) = nI 6 from rfl, show (2 : Int32) = nI 2 from rfl, nI_1, nI_add, nI_add, nI_add, nI_add]
          rw [ix_nI (by omega), ix_nI (by omega), ix_nI (by omega), ix_nI (by omega), ix_nI (by omega), ix_nI (by omega), ix_nI (by omega)]
          have L1 : ln (si h f) a1 = 9 := la1
          have L2 : ln (si h f) a2 = 9 := la2
          have L0 : ln (si h f) a0 = 9 := la0
          have L3 : ln (si h f) b2 = 3 := lb2
          rw [L1, L2, L0, L3]
          refine ⟨ka1, InB_nI (by omega) (by omega), hx2, ka2, InB_nI (by omega) (by omega), InB_nI (by omega) (by omega), InB_nI (by omega) (by omega), InB_nI (by omega) (by omega), InB_nI (by omega) (by omega), ka0, InB_nI (by omega) (by omega), ?_⟩
          rintro _ rfl
          refine ⟨InB_nI (by omega) (by omega), kb2, InB_nI (by omega) (by omega), ?_⟩
          rw [wi_si, mi_si, mi_si, up2_id (Ne.symm n2), up2_id (Ne.symm n5), f1, f3, f4]
          have bp : Bd (mi h a1 (3 * i) * mi h a2 q + mi h a1 (3 * i + 1) * mi h a2 (3 + q) + mi h a1 (3 * i + 2) * mi h a2 (6 + q)) (mul9 M N (3 * i + q)) 3 := by
            rw [mul9_at M N (by omega)]
            exact (((hM.bd sM (by omega)).mul (hN.bd sN (by omega)) (by decide)).add ((hM.bd sM (by omega)).mul (hN.bd sN (by omega)) (by decide)) (by decide)).add ((hM.bd sM (by omega)).mul (hN.bd sN (by omega)) (by decide)) (by decide)
          refine v_Motion_join_3 _ _ _ _ _ _ _ _ ?_
          rw [nI_1]
          refine ih2 (q + 1) _ _ (by omega) (by omega) ?_ ?_ ?_ ?_
          · intro w w1 w2; funext j; rw [up2_id w1, q3 w w1 w2]
          · intro j hj
            by_cases e : j = 3 * i + q
            · subst e; rw [up2_s]; exact bp.1
            · rw [up2_ix e]; exact q4 j (by omega)
          · intro j hj; rw [up2_id (Ne.symm n1)]; exact q5 j hj
          · exact (q6.add ((hM.bd sM (show 3 * i + q < 9 by omega)).mul (hT.bd sT (show q < 3 by omega)) (by decide)) (by omega)).wk (by omega)
      refine v_Motion_join_1 _ _ _ _ _ _ ⟨fun _ => ⟨hx1, ?_⟩, fun c => absurd (by rw [nI_toI (by omega)]; omega) c⟩
      obtain ⟨f1, f2, f3, f4⟩ := keep f h3
      rw [show mr (si h f) x1 1 = b1 from eb1, show (3 : Int32) = nI 3 from rfl, div_nI (by omega) (by decide) (by decide), show 3 * i / 3 = i by omega, ix_nI (by omega)]
      refine ⟨kb1, InB_nI (show i < ln (si h f) b1 by rw [ln_si]; omega) (by omega), ?_⟩
      rw [mi_si, f2]
      exact inner 3 0 f _ rfl (by omega) h3 h4 h5 ((hS.bd sS (show i < 3 by omega)).wk (by omega))
  exact v_Motion_join x0 x1 x2 h _ (main 3 0 (mi h) rfl (by omega) (fun _ _ _ => rfl) (fun j hj => absurd hj (by omega)) (fun j hj => absurd hj (Nat.not_lt_zero j)))
