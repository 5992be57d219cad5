/-! the text of an operation -/
def oneL (v : Int) (k : Nat) (first : Bool) : List Nat := if v = 0 then [] else (if v < 0 then [45] else if first then [] else [43]) ++ [120 + k]
def numL (n : Nat) : List Nat := if 9 < n then [48 + n / 10, 48 + n % 10] else [48 + n % 10]
def shL (s : Nat) : List Nat := if s = 0 then [] else [43] ++ numL (s / Nat.gcd 24 s) ++ [47] ++ numL (24 / Nat.gcd 24 s)
def z1 (v : Int) : Bool := decide (v = 0)
def letL (M : Nat → Int) (i : Nat) : List Nat := oneL (M (3 * i)) 0 true ++ oneL (M (3 * i + 1)) 1 (z1 (M (3 * i))) ++ oneL (M (3 * i + 2)) 2 (z1 (M (3 * i)) && z1 (M (3 * i + 1)))
def rowT (c i : Nat) : List Nat := letL (eM c) i ++ shL (eS c i)
def tellL (c : Nat) : List Nat := rowT c 0 ++ ([44] ++ rowT c 1) ++ ([44] ++ rowT c 2)
theorem oneL_len (v : Int) (k : Nat) (b : Bool) : (oneL v k b).length ≤ 2 := by unfold oneL; split <;> (try split) <;> (try split) <;> simp
theorem numL_len (n : Nat) : (numL n).length ≤ 2 := by unfold numL; split <;> simp
theorem shL_len (s : Nat) : (shL s).length ≤ 6 := by
  unfold shL
  split
  · simp
  · have h1 := numL_len (s / Nat.gcd 24 s)
    have h2 := numL_len (24 / Nat.gcd 24 s)
    simp only [List.length_append, List.length_cons, List.length_nil]
    omega
theorem letL_len (M : Nat → Int) (i : Nat) : (letL M i).length ≤ 6 := by
  unfold letL
  have h1 := oneL_len (M (3 * i)) 0 true
  have h2 := oneL_len (M (3 * i + 1)) 1 (z1 (M (3 * i)))
  have h3 := oneL_len (M (3 * i + 2)) 2 (z1 (M (3 * i)) && z1 (M (3 * i + 1)))
  simp only [List.length_append]
  omega
theorem rowT_len (c i : Nat) : (rowT c i).length ≤ 12 := by
  unfold rowT
  have h1 := letL_len (eM c) i
  have h2 := shL_len (eS c i)
  simp only [List.length_append]
  omega
def OutC (f : (Nat → Nat → Int32)) (L : List Nat) : Prop := f 6 8 = nI L.length ∧ ∀ j, j < L.length → f 12 j = nI (L.getD j 0)
def OutR (f : (Nat → Nat → Int32)) (L : List Nat) : Prop := f 54 14 = nI L.length ∧ ∀ j, j < L.length → f 63 j = nI (L.getD j 0)
def FW (f f' : (Nat → Nat → Int32)) : Prop := Fr [6, 12] f f' ∧ ∀ j, j ≠ 8 → f' 6 j = f 6 j
def FV (f f' : (Nat → Nat → Int32)) : Prop := Fr [54, 63] f f' ∧ ∀ j, j ≠ 14 → f' 54 j = f 54 j
theorem FW.refl {f : (Nat → Nat → Int32)} : FW f f := ⟨Fr.refl, fun _ _ => rfl⟩
theorem FW.trans {f g k : (Nat → Nat → Int32)} (a : FW f g) (b : FW g k) : FW f k := ⟨a.1.trans b.1, fun j h => (b.2 j h).trans (a.2 j h)⟩
theorem FV.refl {f : (Nat → Nat → Int32)} : FV f f := ⟨Fr.refl, fun _ _ => rfl⟩
theorem FV.trans {f g k : (Nat → Nat → Int32)} (a : FV f g) (b : FV g k) : FV f k := ⟨a.1.trans b.1, fun j h => (b.2 j h).trans (a.2 j h)⟩
theorem getD_app {L : List Nat} {x j : Nat} (h : j < L.length) : (L ++ [x]).getD j 0 = L.getD j 0 := by
  rw [List.getD_eq_getElem?_getD, List.getD_eq_getElem?_getD, List.getElem?_append_left h]
theorem getD_end {L : List Nat} {x : Nat} : (L ++ [x]).getD L.length 0 = x := by
  rw [List.getD_eq_getElem?_getD, List.getElem?_append_right (Nat.le_refl _), Nat.sub_self]
  rfl
theorem chr_ok : ∀ x, x < 128 → ((nI x).toUInt32 % 65536).toInt32 = nI x := by decide +kernel
theorem c_chr {h : MH} {f : (Nat → Nat → Int32)} {l : (Nat → Nat → Int64)} {L : List Nat} {x : Nat} (hx : x < 128) (ho : OutC f L) (hL : L.length < 48) : SpV k_Scribe_writeChar [.ref 6, .int (nI x)] (sil h f l) (fun g => ∃ f', g = sil h f' l ∧ FW f f' ∧ OutC f' (L ++ [x])) := by
  refine v_Scribe_writeChar _ _ _ _ ⟨K6, ?_⟩
  have e8 : mi (sil h f l) 6 8 = nI L.length := ho.1
  have t48 : (Int32.ofNat 48).toInt = 48 := rfl
  rw [R6_7, e8, L12, t48, nI_toI (by omega), chr_ok x hx, nI_toI (by omega)]
  refine ⟨K12, fun _ => ⟨InB_nI (show L.length < 48 from hL) (by omega), ⟨by omega, by omega⟩, ?_⟩, fun w => absurd (by omega) w⟩
  rintro _ rfl
  rintro _ rfl
  have e8' : mi (wi (sil h f l) 12 (ix (nI L.length)) (nI x)) 6 8 = nI L.length := by rw [wi_sil, mi_sil, up2_ne (by decide)]; exact ho.1
  rw [e8', nI_1, wi_sil, wi_sil, ix_nI (by omega)]
  refine ⟨_, rfl, ⟨(Fr.refl.up (by decide)).up (by decide), fun j hj => by rw [up2_ni hj, up2_ne (by decide)]⟩, ?_, fun j hj => ?_⟩
  · rw [up2_s, List.length_append]; rfl
  · rw [List.length_append] at hj
    have hj : j < L.length + 1 := hj
    rw [up2_ne (by decide)]
    by_cases e : j = L.length
    · subst e; rw [up2_s, getD_end]
    · rw [up2_ni e, getD_app (by omega)]; exact ho.2 j (by omega)
theorem r_chr {h : MH} {f : (Nat → Nat → Int32)} {l : (Nat → Nat → Int64)} {L : List Nat} {x : Nat} (ho : OutR f L) (hL : L.length < 60) : SpV k_Ref_say [.ref 54, .int (nI x)] (sil h f l) (fun g => ∃ f', g = sil h f' l ∧ FV f f' ∧ OutR f' (L ++ [x])) := by
  refine v_Ref_say _ _ _ _ ⟨K54, ?_⟩
  have e8 : mi (sil h f l) 54 14 = nI L.length := ho.1
  rw [R54_13, e8]
  refine ⟨K63, InB_nI (show L.length < 60 from hL) (by omega), ?_⟩
  rintro _ rfl
  rintro _ rfl
  have e8' : mi (wi (sil h f l) 63 (ix (nI L.length)) (nI x)) 54 14 = nI L.length := by rw [wi_sil, mi_sil, up2_ne (by decide)]; exact ho.1
  rw [e8', nI_1, wi_sil, wi_sil, ix_nI (by omega)]
  refine ⟨_, rfl, ⟨(Fr.refl.up (by decide)).up (by decide), fun j hj => by rw [up2_ni hj, up2_ne (by decide)]⟩, ?_, fun j hj => ?_⟩
  · rw [up2_s, List.length_append]; rfl
  · rw [List.length_append] at hj
    have hj : j < L.length + 1 := hj
    rw [up2_ne (by decide)]
    by_cases e : j = L.length
    · subst e; rw [up2_s, getD_end]
    · rw [up2_ni e, getD_app (by omega)]; exact ho.2 j (by omega)
theorem c_num {h : MH} {f : (Nat → Nat → Int32)} {l : (Nat → Nat → Int64)} {L : List Nat} {n : Nat} (hn : n < 100) (ho : OutC f L) (hL : L.length < 46) : SpV k_Scribe_writeNumber [.ref 6, .int (nI n)] (sil h f l) (fun g => ∃ f', g = sil h f' l ∧ FW f f' ∧ OutC f' (L ++ numL n)) := by
  have t9 : (9 : Int32).toInt = 9 := rfl
  refine v_Scribe_writeNumber _ _ _ _ ?_
  rw [t9, nI_toI (by omega), show (10 : Int32) = nI 10 from rfl, show (48 : Int32) = nI 48 from rfl, div_nI (by omega) (by decide) (by decide), irm_nI (by omega) (by decide) (by decide), nI_add, nI_add]
  unfold numL
  refine ⟨fun w => ⟨K6, SpV.mono (c_chr (by omega) ho (by omega)) ?_⟩, fun w => ⟨K6, SpV.mono (c_chr (by omega) ho (by omega)) ?_⟩⟩
  · rintro _ ⟨f1, rfl, F1, o1⟩
    refine ⟨K6, SpV.mono (c_chr (by omega) o1 (by rw [List.length_append]; show L.length + 1 < 48; omega)) ?_⟩
    rintro _ ⟨f2, rfl, F2, o2⟩
    rw [if_pos (by omega)]
    rw [List.append_assoc] at o2
    exact ⟨f2, rfl, F1.trans F2, o2⟩
  · rintro _ ⟨f1, rfl, F1, o1⟩
    rw [if_neg (by omega)]
    exact ⟨f1, rfl, F1, o1⟩
theorem r_num {h : MH} {f : (Nat → Nat → Int32)} {l : (Nat → Nat → Int64)} {L : List Nat} {n : Nat} (hn : n < 100) (ho : OutR f L) (hL : L.length < 46) : SpV k_Ref_sayNumber [.ref 54, .int (nI n)] (sil h f l) (fun g => ∃ f', g = sil h f' l ∧ FV f f' ∧ OutR f' (L ++ numL n)) := by
  have t9 : (9 : Int32).toInt = 9 := rfl
  refine v_Ref_sayNumber _ _ _ _ ?_
  rw [t9, nI_toI (by omega), show (10 : Int32) = nI 10 from rfl, show (48 : Int32) = nI 48 from rfl, div_nI (by omega) (by decide) (by decide), irm_nI (by omega) (by decide) (by decide), nI_add, nI_add]
  unfold numL
  refine ⟨fun w => ⟨K54, SpV.mono (r_chr ho (by omega)) ?_⟩, fun w => ⟨K54, SpV.mono (r_chr ho (by omega)) ?_⟩⟩
  · rintro _ ⟨f1, rfl, F1, o1⟩
    refine ⟨K54, SpV.mono (r_chr o1 (by rw [List.length_append]; show L.length + 1 < 60; omega)) ?_⟩
    rintro _ ⟨f2, rfl, F2, o2⟩
    rw [if_pos (by omega)]
    rw [List.append_assoc] at o2
    exact ⟨f2, rfl, F1.trans F2, o2⟩
  · rintro _ ⟨f1, rfl, F1, o1⟩
    rw [if_neg (by omega)]
    exact ⟨f1, rfl, F1, o1⟩
/-! the greatest common divisor -/
theorem r_common {h : MH} (r : Nat) : ∀ (b a : Nat), a < 1000000 → b < 1000000 → SpI k_Ref_common [.ref r, .int (nI a), .int (nI b)] h (fun x g => g = h ∧ x = nI (Nat.gcd a b)) := by
  have main : ∀ (d a b : Nat), b ≤ d → a < 1000000 → b < 1000000 → WM k_Ref_common p_Ref_common_1 [Jv, Jv, Jv, .int (nI a), .int (nI b), Jv] [] h 0 0 (fun v g => ∃ x, v = .int x ∧ g = h ∧ x = nI (Nat.gcd a b)) := by
    intro d
    induction d with
    | zero =>
      intro a b hb ha h1
      have : b = 0 := by omega
      subst this
      exact v_Ref_common_1 _ _ _ _ ⟨fun _ => ⟨_, rfl, rfl, by rw [Nat.gcd_zero_right]⟩, fun w => absurd rfl w⟩
    | succ d ih =>
      intro a b hb ha h1
      have e0 : (nI b = 0) = (b = 0) := nI_inj (y := 0) (by omega) (by decide)
      refine v_Ref_common_1 _ _ _ _ ⟨fun w => ⟨_, rfl, rfl, ?_⟩, fun w => ⟨w, ?_⟩⟩
      · rw [e0] at w; subst w; rw [Nat.gcd_zero_right]
      · rw [e0] at w
        have hlt := Nat.mod_lt a (show 0 < b by omega)
        rw [irm_nI (by omega) (by omega) (by omega), Nat.gcd_comm a b, Nat.gcd_rec b a, Nat.gcd_comm]
        exact ih b (a % b) (by omega) h1 (by omega)
  exact fun b a ha hb => v_Ref_common _ _ _ _ _ (main b a b (Nat.le_refl _) ha hb)
theorem zL_nat_ne {b : Nat} (hb : b < 1000000) : (zL (b : Int) = 0) = (b = 0) := by
  have := zL_inj (x := (b : Int)) (y := 0) (by omega) (by omega) (by decide) (by decide)
  rw [show ((0 : Int64)) = zL 0 from rfl, this]
  apply propext
  omega
theorem lrm_zL {a b : Nat} (ha : a < 1000000) (h0 : 0 < b) (hb : b < 1000000) : lrm (zL a) (zL b) = zL ((a % b : Nat) : Int) := by
  have ta : (zL (a : Int)).toInt = a := zL_toI (by omega) (by omega)
  have tb : (zL (b : Int)).toInt = b := zL_toI (by omega) (by omega)
  have ed : zL (a : Int) / zL (b : Int) = zL ((a / b : Nat) : Int) := by
    apply hb_leq
    rw [Int64.toInt_div, ta, tb, show (a : Int).tdiv b = ((a / b : Nat) : Int) from rfl]
    have hq := Nat.div_le_self a b
    generalize a / b = q at hq ⊢
    rw [zL_toI (by omega) (by omega)]
    exact Int.bmod_eq_of_le (by omega) (by omega)
  unfold lrm
  rw [ed, zL_mul, zL_sub]
  congr 1
  have := Nat.div_add_mod a b
  have e : ((a / b : Nat) : Int) * (b : Int) = ((b * (a / b) : Nat) : Int) := by rw [Int.natCast_mul, Int.mul_comm]
  rw [e]
  omega
theorem c_common {h : MH} {a b : Nat} (ha : a < 1000000) (hb : b < 100) (h0 : 0 < a) : SpL k_Ho_commonDivisor [.long (zL (a : Int)), .long (zL (b : Int))] h (fun x g => g = h ∧ x = zL ((Nat.gcd a b : Nat) : Int)) := by
  have one : ∀ a : Nat, 0 < a → a < 1000000 → SpL k_Math_maxJJJ [.long (zL (a : Int)), .long (1 : Int64)] h (fun r g => ∃ x, Value.long r = .long x ∧ g = h ∧ x = zL (a : Int)) := by
    intro a h1 h2
    refine SpL.mono (sp_maxL _ _) ?_
    rintro r g ⟨e, er⟩
    refine ⟨_, rfl, e, ?_⟩
    rw [er, if_neg (by rw [zL_toI (by omega) (by omega)]; show ¬ (a : Int) < 1; omega)]
  have main : ∀ (d a b k : Nat), b ≤ d → k + b ≤ 99 → 0 < a → a < 1000000 → b < 1000000 → WM k_Ho_commonDivisor p_Ho_commonDivisor_1 [Jv, Jv, Jv, Jv, .long (zL (a : Int)), Jv, .long (zL (b : Int)), Jv, .int (nI k), Jv, Jv] [] h 0 0 (fun v g => ∃ x, v = .long x ∧ g = h ∧ x = zL ((Nat.gcd a b : Nat) : Int)) := by
    intro d
    induction d with
    | zero =>
      intro a b k hb hk h0 ha h1
      have : b = 0 := by omega
      subst this
      rw [Nat.gcd_zero_right]
      refine v_Ho_commonDivisor_1 _ _ _ _ _ ⟨fun _ => ⟨fun _ => one a h0 ha, fun w => absurd ?_ w⟩, fun _ => one a h0 ha⟩
      exact (lc_eq _ _).mpr rfl
    | succ d ih =>
      intro a b k hb hk h0 ha h1
      have tk : (nI k).toInt = (k : Int) := nI_toI (by omega)
      have t100 : (100 : Int32).toInt = 100 := rfl
      refine v_Ho_commonDivisor_1 _ _ _ _ _ ⟨fun _ => ⟨fun w => ?_, fun w => ?_⟩, fun w => absurd (by rw [tk, t100]; omega) w⟩
      · have e := (lc_eq _ _).mp w
        rw [zL_nat_ne h1] at e
        subst e
        rw [Nat.gcd_zero_right]
        exact one a h0 ha
      · have nb : ¬ zL (b : Int) = 0 := fun q => w ((lc_eq _ _).mpr q)
        have nb' : b ≠ 0 := fun q => nb ((zL_nat_ne h1).mpr q)
        refine ⟨nb, ?_⟩
        have hlt := Nat.mod_lt a (show 0 < b by omega)
        rw [lrm_zL ha (by omega) h1, nI_1, Nat.gcd_comm a b, Nat.gcd_rec b a, Nat.gcd_comm]
        exact ih b (a % b) (k + 1) (by omega) (by omega) (by omega) h1 (by omega)
  exact v_Ho_commonDivisor _ _ _ _ (main b a b 0 (Nat.le_refl _) (by omega) h0 ha (by omega))
