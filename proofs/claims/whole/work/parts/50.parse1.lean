/-! the class reads a text: the small steps -/
theorem up2_same {α : Type} {f : Nat → Nat → α} {a i : Nat} {x y : α} : up2 (up2 f a i x) a i y = up2 f a i y := by
  funext b j
  unfold up2
  by_cases h : b = a ∧ j = i
  · rw [if_pos h, if_pos h]
  · rw [if_neg h, if_neg h, if_neg h]
theorem up2_self {α : Type} {f : Nat → Nat → α} {a i : Nat} {x : α} (e : f a i = x) : up2 f a i x = f := by
  funext b j
  unfold up2
  by_cases h : b = a ∧ j = i
  · rw [if_pos h, h.1, h.2, e]
  · rw [if_neg h]
theorem bt_lit {T : Nat → Int32} {n p : Nat} (hp : p < n) : T p = bt T n p := (bt_lt hp).symm
theorem c_peek {h : MH} {f : (Nat → Nat → Int32)} {l : (Nat → Nat → Int64)} {n p : Nat} (h2 : f 6 2 = nI n) (h3 : f 6 3 = nI p) (hn : n ≤ 100) (hp : p ≤ 1000) : SpI k_Scribe_peek [.ref 6] (sil h f l) (fun r g => g = sil h f l ∧ r = bt (f 8) n p) := by
  refine v_Scribe_peek _ _ _ ⟨K6, ?_⟩
  rw [mi_sil, h2, h3, nI_toI (by omega), nI_toI (by omega), R6_1, ix_nI (by omega)]
  refine ⟨fun c => ⟨K8, InB_nI (show p < 100 by omega) (by omega), _, rfl, rfl, ?_⟩, fun c => ⟨_, rfl, rfl, ?_⟩⟩
  · rw [bt_lt (by omega)]
  · rw [bt_ge (by omega)]
theorem bt_ne43 {T : Nat → Int32} {n p : Nat} (hp : ¬ p < n) : ¬ (bt T n p = 43 ∨ bt T n p = 45) := by rw [bt_ge hp]; decide
theorem c_seesSign {h : MH} {f : (Nat → Nat → Int32)} {l : (Nat → Nat → Int64)} {n p : Nat} (h2 : f 6 2 = nI n) (h3 : f 6 3 = nI p) (hn : n ≤ 100) (hp : p ≤ 1000) : SpI k_Scribe_seesSign [.ref 6] (sil h f l) (fun r g => g = sil h f l ∧ ((r = 1 ∧ (bt (f 8) n p = 43 ∨ bt (f 8) n p = 45)) ∨ (r = 0 ∧ ¬ (bt (f 8) n p = 43 ∨ bt (f 8) n p = 45)))) := by
  refine v_Scribe_seesSign _ _ _ ⟨K6, ?_⟩
  rw [mi_sil, h2, h3, nI_toI (by omega), nI_toI (by omega), R6_1, ix_nI (by omega)]
  refine ⟨fun c => ⟨K8, InB_nI (show p < 100 by omega) (by omega), ?_⟩, fun c => ⟨_, rfl, rfl, Or.inr ⟨rfl, bt_ne43 (by omega)⟩⟩⟩
  rw [bt_lit (T := f 8) (n := n) (by omega)]
  exact ⟨fun w => ⟨_, rfl, rfl, Or.inl ⟨rfl, Or.inl w⟩⟩, fun w1 => ⟨fun w => ⟨_, rfl, rfl, Or.inl ⟨rfl, Or.inr w⟩⟩, fun w2 => ⟨_, rfl, rfl, Or.inr ⟨rfl, fun q => by rcases q with q | q; exact w1 q; exact w2 q⟩⟩⟩⟩
theorem c_seesDigit {h : MH} {f : (Nat → Nat → Int32)} {l : (Nat → Nat → Int64)} {n p : Nat} (h2 : f 6 2 = nI n) (h3 : f 6 3 = nI p) (hn : n ≤ 100) (hp : p ≤ 1000) : SpI k_Scribe_seesDigit [.ref 6] (sil h f l) (fun r g => g = sil h f l ∧ ((r = 1 ∧ dg (bt (f 8) n p)) ∨ (r = 0 ∧ ¬ dg (bt (f 8) n p)))) := by
  have t1 : (48 : Int32).toInt = 48 := rfl
  have t2 : (57 : Int32).toInt = 57 := rfl
  refine v_Scribe_seesDigit _ _ _ ⟨K6, ?_⟩
  rw [mi_sil, h2, h3, nI_toI (by omega), nI_toI (by omega), R6_1, ix_nI (by omega), t1, t2]
  refine ⟨fun c => ⟨K8, InB_nI (show p < 100 by omega) (by omega), ?_⟩, fun c => ⟨_, rfl, rfl, Or.inr ⟨rfl, fun q => by have := bt_dg q; omega⟩⟩⟩
  rw [bt_lit (T := f 8) (n := n) (by omega)]
  unfold dg
  exact ⟨fun w => ⟨_, rfl, rfl, Or.inr ⟨rfl, by omega⟩⟩, fun w1 => ⟨fun w => ⟨_, rfl, rfl, Or.inr ⟨rfl, by omega⟩⟩, fun w2 => ⟨_, rfl, rfl, Or.inl ⟨rfl, by omega⟩⟩⟩⟩
theorem c_skip {h : MH} {f : (Nat → Nat → Int32)} {l : (Nat → Nat → Int64)} {n p : Nat} (h2 : f 6 2 = nI n) (h3 : f 6 3 = nI p) (hn : n ≤ 100) (hp : p ≤ 1000) : SpV k_Scribe_skipBlanks [.ref 6] (sil h f l) (fun g => g = sil h (up2 f 6 3 (nI (sk (f 8) n p))) l) := by
  have main : ∀ q : Nat, q ≤ 1000 → WM k_Scribe_skipBlanks p_Scribe_skipBlanks_1 [.ref 6] [] (sil h (up2 f 6 3 (nI q)) l) 0 0 (fun _ g => g = sil h (up2 f 6 3 (nI (sk (f 8) n q))) l) := by
    refine sk_ind (T := f 8) (n := n) (fun q => q ≤ 1000 → WM k_Scribe_skipBlanks p_Scribe_skipBlanks_1 [.ref 6] [] (sil h (up2 f 6 3 (nI q)) l) 0 0 (fun _ g => g = sil h (up2 f 6 3 (nI (sk (f 8) n q))) l)) ?_ ?_
    · intro q hb hq
      refine v_Scribe_skipBlanks_1 _ _ _ ⟨K6, ?_⟩
      rw [mi_sil, up2_s, up2_ni (by decide), h2, nI_toI (by omega), nI_toI (by omega), R6_1, ix_nI (by omega), up2_row (show 8 ≠ 6 by decide), sk_no hb]
      refine ⟨fun c => ⟨K8, InB_nI (show q < 100 by omega) (by omega), fun w => absurd w ?_, fun _ => rfl⟩, fun _ => rfl⟩
      rw [bt_lit (T := f 8) (n := n) (by omega)]
      exact hb
    · intro q hb hq ih hq2
      refine v_Scribe_skipBlanks_1 _ _ _ ⟨K6, ?_⟩
      rw [mi_sil, up2_s, up2_ni (by decide), h2, nI_toI (by omega), nI_toI (by omega), R6_1, ix_nI (by omega), up2_row (show 8 ≠ 6 by decide), sk_sp hb, nI_1]
      refine ⟨fun c => ⟨K8, InB_nI (show q < 100 by omega) (by omega), fun _ => ?_, fun w => absurd ?_ w⟩, fun w => absurd (by omega) w⟩
      · rintro _ rfl
        rw [wi_sil, up2_same]
        exact ih (by omega)
      · rw [bt_lit (T := f 8) (n := n) (by omega)]
        exact hb
  by_cases hb : bt (f 8) n p = 32
  · have hpn := bt_32 hb
    refine v_Scribe_skipBlanks _ _ _ ⟨K6, ?_⟩
    rw [mi_sil, h2, h3, nI_toI (by omega), nI_toI (by omega), R6_1, ix_nI (by omega), nI_1, sk_sp hb]
    refine ⟨fun c => ⟨K8, InB_nI (show p < 100 by omega) (by omega), fun _ => ?_, fun w => absurd ?_ w⟩, fun w => absurd (by omega) w⟩
    · rintro _ rfl
      rw [wi_sil]
      exact main (p + 1) (by omega)
    · rw [bt_lit (T := f 8) (n := n) (by omega)]
      exact hb
  · refine v_Scribe_skipBlanks _ _ _ ⟨K6, ?_⟩
    rw [mi_sil, h2, h3, nI_toI (by omega), nI_toI (by omega), R6_1, ix_nI (by omega), sk_no hb, up2_self h3]
    refine ⟨fun c => ⟨K8, InB_nI (show p < 100 by omega) (by omega), fun w => absurd w ?_, fun _ => rfl⟩, fun _ => rfl⟩
    rw [bt_lit (T := f 8) (n := n) (by omega)]
    exact hb
/-- a sign as a number -/
def sgI (c : Int32) : Int := if c = 45 then -1 else 1
theorem c_takeSign {h : MH} {f : (Nat → Nat → Int32)} {l : (Nat → Nat → Int64)} {n p : Nat} (h2 : f 6 2 = nI n) (h3 : f 6 3 = nI p) (hn : n ≤ 100) (hp : p ≤ 100) : SpI k_Scribe_takeSign [.ref 6] (sil h f l) (fun r g => r = zI (sgI (bt (f 8) n p)) ∧ g = sil h (up2 f 6 3 (nI (sk (f 8) n (p + 1)))) l) := by
  have one : ∀ s : Int32, s = zI (sgI (bt (f 8) n p)) → WM k_Scribe_takeSign p_Scribe_takeSign_1 [.ref 6, Jv] [.int s] (sil h f l) 0 0 (fun v g => ∃ r, v = .int r ∧ r = zI (sgI (bt (f 8) n p)) ∧ g = sil h (up2 f 6 3 (nI (sk (f 8) n (p + 1)))) l) := by
    intro s hs
    refine v_Scribe_takeSign_1 _ _ _ _ ⟨K6, ?_⟩
    rintro _ rfl
    rw [mi_sil, h3, nI_1, wi_sil]
    refine SpV.mono (c_skip (n := n) (p := p + 1) (by rw [up2_ni (by decide)]; exact h2) up2_s hn (by omega)) ?_
    rintro _ rfl
    rw [up2_row (show 8 ≠ 6 by decide), up2_same]
    exact ⟨_, rfl, hs, rfl⟩
  refine v_Scribe_takeSign _ _ _ ⟨K6, SpI.mono (c_peek h2 h3 hn (by omega)) ?_⟩
  rintro r g ⟨e, er⟩
  subst g er
  exact ⟨fun w => one _ (by unfold sgI; rw [if_pos w]; rfl), fun w => one _ (by unfold sgI; rw [if_neg w]; rfl)⟩
theorem dv_z {c : Int32} (h : dg c) : c = zI ((dv c : Nat) + 48 : Int) := by
  unfold dg at h
  have : ((dv c : Nat) : Int) = c.toInt - 48 := by unfold dv; omega
  rw [this]
  exact of_toI (by omega)
theorem c_takeNumber {h : MH} {f : (Nat → Nat → Int32)} {l : (Nat → Nat → Int64)} {n p : Nat} (h2 : f 6 2 = nI n) (h3 : f 6 3 = nI p) (hn : n ≤ 100) (hd : dg (bt (f 8) n p)) : SpI k_Scribe_takeNumber [.ref 6] (sil h f l) (fun r g => r = nI (nmF (f 8) n p).1 ∧ g = sil h (up2 f 6 3 (nI (nmF (f 8) n p).2)) l) := by
  have hp := bt_dg hd
  have z1 : ¬ (1 : Int32) = 0 := by decide
  refine v_Scribe_takeNumber _ _ _ ?_
  refine v_Scribe_takeNumber_1 _ _ _ _ _ ⟨fun _ => ⟨K6, SpI.mono (c_seesDigit h2 h3 hn (by omega)) ?_⟩, fun w => absurd (by decide) w⟩
  rintro r g ⟨e, (⟨rfl, _⟩ | ⟨_, w⟩)⟩
  case inr => exact absurd hd w
  subst g
  refine ⟨fun w => absurd w z1, fun _ => ⟨K6, SpI.mono (c_peek h2 h3 hn (by omega)) ?_⟩⟩
  rintro r g ⟨e, er⟩
  subst g er
  refine ⟨K6, ?_⟩
  rintro _ rfl
  rw [mi_sil, h3, nI_1, wi_sil]
  have e1 : ((0 : Int32) * 10 + bt (f 8) n p) - 48 = nI (dv (bt (f 8) n p)) := by
    rw [show ((0 : Int32) * 10) = zI 0 from rfl, show (48 : Int32) = zI 48 from rfl]
    conv => lhs; rw [dv_z hd]
    rw [zI_add, zI_sub, ← zI_nat]
    congr 1
    omega
  rw [e1]
  have k2 : up2 f 6 3 (nI (p + 1)) 6 2 = nI n := by rw [up2_ni (by decide)]; exact h2
  have k8 : up2 f 6 3 (nI (p + 1)) 8 = f 8 := up2_row (by decide)
  refine v_Scribe_takeNumber_1 _ _ _ _ _ ⟨fun _ => ⟨K6, SpI.mono (c_seesDigit k2 up2_s hn (by omega)) ?_⟩, fun w => absurd (by decide) w⟩
  rw [k8]
  rintro r g ⟨e, (⟨rfl, d2⟩ | ⟨rfl, d2⟩)⟩ <;> subst g
  · refine ⟨fun w => absurd w z1, fun _ => ⟨K6, SpI.mono (c_peek k2 up2_s hn (by omega)) ?_⟩⟩
    rintro r g ⟨e, er⟩
    subst g er
    refine ⟨K6, ?_⟩
    rintro _ rfl
    rw [mi_sil, up2_s, nI_1, wi_sil, up2_same, k8]
    have e2 : (nI (dv (bt (f 8) n p)) * 10 + bt (f 8) n (p + 1)) - 48 = nI (10 * dv (bt (f 8) n p) + dv (bt (f 8) n (p + 1))) := by
      rw [show (10 : Int32) = nI 10 from rfl, nI_mul, show (48 : Int32) = zI 48 from rfl]
      conv => lhs; rw [dv_z d2]
      rw [nI_addZ, zI_sub, ← zI_nat]
      congr 1
      omega
    rw [e2]
    refine v_Scribe_takeNumber_1 _ _ _ _ _ ⟨fun w => absurd w (by decide), fun _ => ⟨_, rfl, ?_⟩⟩
    rw [nmF_1 d2]
    exact ⟨rfl, rfl⟩
  · refine ⟨fun _ => ⟨_, rfl, ?_⟩, fun w => absurd rfl w⟩
    rw [nmF_0 d2]
    exact ⟨rfl, rfl⟩
