/-! the class reads a text: terms, expressions, the whole -/
def CP (T : Nat → Int32) (n : Nat) (f : (Nat → Nat → Int32)) (p : Nat) (M S : Nat → Int) : Prop := f 8 = T ∧ f 6 2 = nI n ∧ f 6 3 = nI p ∧ f 6 4 = nI 0 ∧ (∀ j, j < 9 → f 10 j = zI (M j)) ∧ ∀ j, j < 3 → f 11 j = zI (S j)
def FP (f f' : (Nat → Nat → Int32)) : Prop := Fr [6, 10, 11] f f' ∧ f' 6 8 = f 6 8
def CE (T : Nat → Int32) (n : Nat) (f : (Nat → Nat → Int32)) (e : Nat × Nat) : Prop := f 8 = T ∧ f 6 2 = nI n ∧ (∃ p, p ≤ 900 ∧ f 6 3 = nI p) ∧ f 6 4 = nI e.1 ∧ f 6 5 = nI e.2 ∧ 0 < e.1 ∧ e.1 < 10
def CR (T : Nat → Int32) (n : Nat) (f0 f : (Nat → Nat → Int32)) (r : PRs) : Prop := FP f0 f ∧ match r with
  | .ok r => CP T n f r.1 r.2.1 r.2.2 ∧ f 6 5 = f0 6 5
  | .error e => CE T n f e
theorem FP.refl {f : (Nat → Nat → Int32)} : FP f f := ⟨Fr.refl, rfl⟩
theorem FP.trans {f g k : (Nat → Nat → Int32)} (a : FP f g) (b : FP g k) : FP f k := ⟨a.1.trans b.1, b.2.trans a.2⟩
theorem FP.up {f g : (Nat → Nat → Int32)} {i : Nat} {x : Int32} (a : FP f g) (hi : i ≠ 8) : FP f (up2 g 6 i x) := ⟨a.1.up (by decide), by rw [up2_ni (fun q => hi q.symm)]; exact a.2⟩
theorem FP.up10 {f g : (Nat → Nat → Int32)} {i : Nat} {x : Int32} (a : FP f g) : FP f (up2 g 10 i x) := ⟨a.1.up (by decide), by rw [up2_ne (by decide)]; exact a.2⟩
theorem FP.up11 {f g : (Nat → Nat → Int32)} {i : Nat} {x : Int32} (a : FP f g) : FP f (up2 g 11 i x) := ⟨a.1.up (by decide), by rw [up2_ne (by decide)]; exact a.2⟩
theorem CP.at {T : Nat → Int32} {n p q : Nat} {f : (Nat → Nat → Int32)} {M S : Nat → Int} (h : CP T n f p M S) : CP T n (up2 f 6 3 (nI q)) q M S := by
  obtain ⟨h1, h2, h3, h4, h5, h6⟩ := h
  refine ⟨?_, ?_, up2_s, ?_, fun j hj => ?_, fun j hj => ?_⟩
  · rw [up2_row (by decide)]; exact h1
  · rw [up2_ni (by decide)]; exact h2
  · rw [up2_ni (by decide)]; exact h4
  · rw [up2_ne (by decide)]; exact h5 j hj
  · rw [up2_ne (by decide)]; exact h6 j hj
theorem CP.err {T : Nat → Int32} {n p : Nat} {f : (Nat → Nat → Int32)} {M S : Nat → Int} (h : CP T n f p M S) (hp : p ≤ 900) {k q : Nat} (k0 : 0 < k) (k1 : k < 10) : CE T n (up2 (up2 f 6 4 (nI k)) 6 5 (nI q)) (k, q) := by
  obtain ⟨h1, h2, h3, h4, h5, h6⟩ := h
  refine ⟨?_, ?_, ⟨p, hp, ?_⟩, ?_, up2_s, k0, k1⟩
  · rw [up2_row (by decide), up2_row (by decide)]; exact h1
  · rw [up2_ni (by decide), up2_ni (by decide)]; exact h2
  · rw [up2_ni (by decide), up2_ni (by decide)]; exact h3
  · rw [up2_ni (by decide), up2_s]
theorem c_parseShift {h : MH} {f : (Nat → Nat → Int32)} {l : (Nat → Nat → Int64)} {T : Nat → Int32} {n p i : Nat} {s : Int} {M S : Nat → Int} (hc : CP T n f p M S) (hS : sOK S) (hn : n ≤ 100) (hi : i < 3) (hs : s = 1 ∨ s = -1) (hd : dg (bt T n p)) (hk : sk T n p = p) :
    SpV k_Scribe_parseShift [.ref 6, .int (nI i), .int (zI s)] (sil h f l) (fun g => ∃ f', g = sil h f' l ∧ CR T n f f' (tmF T n i s p M S)) := by
  have hc0 := hc
  obtain ⟨h1, h2, h3, h4, h5, h6⟩ := hc
  subst h1
  have hp := bt_dg hd
  have b1 := nmF_b hd
  have z1 : ¬ (1 : Int32) = 0 := by decide
  refine v_Scribe_parseShift _ _ _ _ _ ⟨K6, SpI.mono (c_takeNumber h2 h3 hn hd) ?_⟩
  generalize hv : nmF (f 8) n p = vp at b1 ⊢
  obtain ⟨v, p2⟩ := vp
  rintro r g ⟨er, e⟩
  simp only at er e
  subst g er
  have c1 := hc0.at (q := p2)
  refine ⟨K6, SpV.mono (c_skip c1.2.1 c1.2.2.1 hn (by have := b1.2.2; simp only at this; omega)) ?_⟩
  rintro _ rfl
  rw [up2_row (show 8 ≠ 6 by decide), up2_same]
  have g3 : sk (f 8) n p2 ≤ 100 := sk_le p2 hn (by have := b1.2.2; simp only at this; omega)
  generalize h3' : sk (f 8) n p2 = p3 at g3 ⊢
  have c2 := hc0.at (q := p3)
  refine ⟨K6, SpI.mono (c_peek c2.2.1 c2.2.2.1 hn (by omega)) ?_⟩
  rintro r g ⟨e, er⟩
  rw [up2_row (show 8 ≠ 6 by decide)] at er
  subst g er
  refine ⟨fun w4 => ⟨K6, ?_⟩, fun w4 => ⟨_, rfl, FP.refl.up (by decide), ?_⟩⟩
  case refine_2 =>
    rw [tmF_w hk hd hv h3' w4]
    exact ⟨c2, by rw [up2_ni (by decide)]⟩
  rintro _ rfl
  rw [mi_sil, up2_s, nI_1, wi_sil, up2_same]
  have hp3 : p3 < n := bt_ne w4 (by decide)
  have c3 := hc0.at (q := p3 + 1)
  refine SpV.mono (c_skip c3.2.1 c3.2.2.1 hn (by omega)) ?_
  rintro _ rfl
  rw [up2_row (show 8 ≠ 6 by decide), up2_same]
  have g4 : sk (f 8) n (p3 + 1) ≤ 100 := sk_le (p3 + 1) hn (by omega)
  generalize h5' : sk (f 8) n (p3 + 1) = p4 at g4 ⊢
  have c4 := hc0.at (q := p4)
  refine ⟨K6, SpI.mono (c_seesDigit c4.2.1 c4.2.2.1 hn (by omega)) ?_⟩
  rw [up2_row (show 8 ≠ 6 by decide)]
  rintro r g ⟨e, (⟨rfl, d2⟩ | ⟨rfl, d2⟩)⟩ <;> subst g
  case inr =>
    refine ⟨fun _ => ⟨K6, ?_⟩, fun w => absurd rfl w⟩
    rw [mi_sil, up2_s]
    refine SpV.mono (sp_Scribe_report (1 : Int32) (nI p4)) ?_
    rintro _ rfl
    refine ⟨_, rfl, ((FP.refl.up (by decide)).up (by decide)).up (by decide), ?_⟩
    rw [tmF_d hk hd hv h3' w4 h5' d2]
    exact c4.err (k := 1) (by omega) (by decide) (by decide)
  refine ⟨fun w => absurd w z1, fun _ => ⟨K6, SpI.mono (c_takeNumber c4.2.1 c4.2.2.1 hn (by rw [up2_row (show 8 ≠ 6 by decide)]; exact d2)) ?_⟩⟩
  rw [up2_row (show 8 ≠ 6 by decide), up2_same]
  have b2 := nmF_b d2
  generalize hw : nmF (f 8) n p4 = wp at b2 ⊢
  obtain ⟨w, p5⟩ := wp
  rintro r g ⟨er, e⟩
  simp only at er e
  subst g er
  have bv : v ≤ 99 := b1.1
  have bw : w ≤ 99 := b2.1
  have bp : p5 ≤ n := b2.2.2
  have c5 := hc0.at (q := p5)
  have ew : (nI w = 0) = (w = 0) := nI_inj (y := 0) (by omega) (by decide)
  have spec := tmF_f (i := i) (s := s) (M := M) (S := S) hk hd hv h3' w4 h5' d2 hw
  rw [show (24 : Int32) * nI v = nI (24 * v) from nI_mul 24 v, mi_sil, h3, R6_6, R9_1]
  have bad : (w = 0 ∨ 24 * v % w ≠ 0) → SpV k_Scribe_report [.ref 6, .int (2 : Int32), .int (nI p)] (sil h (up2 f 6 3 (nI p5)) l) (fun g => ∃ f', g = sil h f' l ∧ CR (f 8) n f f' (tmF (f 8) n i s p M S)) := by
    intro q
    refine SpV.mono (sp_Scribe_report (2 : Int32) (nI p)) ?_
    rintro _ rfl
    refine ⟨_, rfl, ((FP.refl.up (by decide)).up (by decide)).up (by decide), ?_⟩
    rw [spec, if_pos q]
    exact c5.err (k := 2) (by omega) (by decide) (by decide)
  refine ⟨fun q => ⟨K6, bad (Or.inl (ew.mp q))⟩, fun q => ⟨q, ?_⟩⟩
  have w0 : w ≠ 0 := fun e => q (ew.mpr e)
  rw [irm_nI (by omega) (by omega) (by omega), div_nI (by omega) (by omega) (by omega)]
  have er0 : (nI (24 * v % w) = 0) = (24 * v % w = 0) := nI_inj (y := 0) (by have := Nat.mod_lt (24 * v) (show 0 < w by omega); omega) (by decide)
  refine ⟨fun q2 => ⟨K6, K9, K11, InB_nI (show i < 3 from hi) (by omega), ?_⟩, fun q2 => ⟨K6, bad (Or.inr (fun e => q2 (er0.mpr e)))⟩⟩
  have bd : 24 * v / w ≤ 2376 := Nat.le_trans (Nat.div_le_self _ _) (by omega)
  have e11 : mi (sil h (up2 f 6 3 (nI p5)) l) 11 (ix (nI i)) = zI (S i) := by rw [mi_sil, ix_nI (by omega), up2_ne (by decide)]; exact h6 i hi
  have hSi := hS i hi
  rw [e11, zI_mulN, zI_add]
  generalize 24 * v / w = dq at bd spec ⊢
  have rng : -3000 ≤ S i + s * (dq : Int) ∧ S i + s * (dq : Int) ≤ 3000 := by
    rcases hs with e | e <;> rw [e] <;> omega
  refine SpI.mono (sp_floorMod _ (24 : Int32) (by decide)) ?_
  rintro r g ⟨e, er⟩
  subst g
  rw [zI_toI (by omega) (by omega), show (24 : Int32).toInt = 24 from rfl] at er
  refine ⟨K11, InB_nI (show i < 3 from hi) (by omega), ?_⟩
  rintro _ rfl
  rw [wi_sil, ix_nI (by omega)]
  refine v_Scribe_parseShift_1 _ _ ⟨_, rfl, (FP.refl.up (by decide)).up11, ?_⟩
  rw [spec, if_neg (fun u => by rcases u with u | u; exact w0 u; exact u (er0.mp q2))]
  obtain ⟨k1, k2, k3, k4, k5, k6⟩ := c5
  refine ⟨⟨?_, ?_, ?_, ?_, fun j hj => ?_, fun j hj => ?_⟩, by rw [up2_ne (by decide), up2_ni (by decide)]⟩
  · rw [up2_row (by decide)]; exact k1
  · rw [up2_ne (by decide)]; exact k2
  · rw [up2_ne (by decide)]; exact k3
  · rw [up2_ne (by decide)]; exact k4
  · rw [up2_ne (by decide)]; exact k5 j hj
  · show up2 (up2 f 6 3 (nI p5)) 11 i r 11 j = zI (setAt S i _ j)
    unfold setAt
    by_cases ej : j = i
    · subst ej
      rw [up2_s, if_pos rfl]
      exact of_toI er
    · rw [up2_ni ej, if_neg ej]; exact k6 j hj
set_option maxRecDepth 10000 in
theorem c_parseTerm {h : MH} {f : (Nat → Nat → Int32)} {l : (Nat → Nat → Int64)} {T : Nat → Int32} {n p i : Nat} {s : Int} {M S : Nat → Int} (hc : CP T n f p M S) (hS : sOK S) (hn : n ≤ 100) (hp : p ≤ 101) (hi : i < 3) (hs : s = 1 ∨ s = -1) (hk : sk T n p = p) :
    SpV k_Scribe_parseTerm [.ref 6, .int (nI i), .int (zI s)] (sil h f l) (fun g => ∃ f', g = sil h f' l ∧ CR T n f f' (tmF T n i s p M S)) := by
  have hc0 := hc
  obtain ⟨h1, h2, h3, h4, h5, h6⟩ := hc
  have t1 : (120 : Int32).toInt = 120 := rfl
  have t2 : (122 : Int32).toInt = 122 := rfl
  have t3 : (121 : Int32).toInt = 121 := rfl
  refine v_Scribe_parseTerm _ _ _ _ _ ⟨K6, SpI.mono (c_peek h2 h3 hn (by omega)) ?_⟩
  rintro r g ⟨e, er⟩
  rw [h1] at er
  subst g er
  have one : ¬ (bt T n p = 120 ∨ bt T n p = 121 ∨ bt T n p = 122) → WM k_Scribe_parseTerm p_Scribe_parseTerm_1 [.ref 6, .int (nI i), .int (zI s), Jv] [] (sil h f l) 0 0 (fun _ g => ∃ f', g = sil h f' l ∧ CR T n f f' (tmF T n i s p M S)) := by
    intro nx
    refine v_Scribe_parseTerm_1 _ _ _ _ _ ⟨K6, SpI.mono (c_seesDigit h2 h3 hn (by omega)) ?_⟩
    rw [h1]
    rintro r g ⟨e, (⟨rfl, d⟩ | ⟨rfl, d⟩)⟩ <;> subst g
    · exact ⟨fun w => absurd w (by decide), fun _ => ⟨K6, c_parseShift hc0 hS hn hi hs d hk⟩⟩
    · refine ⟨fun _ => ⟨K6, ?_⟩, fun w => absurd rfl w⟩
      rw [mi_sil, h3]
      refine SpV.mono (sp_Scribe_report (1 : Int32) (nI p)) ?_
      rintro _ rfl
      refine ⟨_, rfl, (FP.refl.up (by decide)).up (by decide), ?_⟩
      rw [tmF_e hk nx d]
      exact hc0.err (k := 1) (by omega) (by decide) (by decide)
  rw [t1, t2]
  refine ⟨fun w => one (fun q => by rcases q with q | q | q <;> rw [q] at w <;> omega), fun w1 => ⟨fun w => one (fun q => by rcases q with q | q | q <;> rw [q] at w <;> omega), fun w2 => ⟨K6, ?_⟩⟩⟩
  have hx : bt T n p = 120 ∨ bt T n p = 121 ∨ bt T n p = 122 := by
    have : (bt T n p).toInt = 120 ∨ (bt T n p).toInt = 121 ∨ (bt T n p).toInt = 122 := by omega
    rcases this with q | q | q
    · exact Or.inl (hb_eq q)
    · exact Or.inr (Or.inl (hb_eq q))
    · exact Or.inr (Or.inr (hb_eq q))
  have hpn : p < n := by rcases hx with q | q | q <;> exact bt_ne q (by decide)
  have ei : ((3 : Int32) * nI i + bt T n p) - 120 = nI (3 * i + ((bt T n p).toInt - 120).toNat) := by
    rw [show (3 : Int32) * nI i = nI (3 * i) from nI_mul 3 i]
    rcases hx with q | q | q <;> rw [q]
    · show (nI (3 * i) + nI 120) - nI 120 = _
      rw [nI_add, pk_sub (by omega)]
      show nI (3 * i + 120 - 120) = nI (3 * i + 0)
      congr 1
    · show (nI (3 * i) + nI 121) - nI 120 = _
      rw [nI_add, pk_sub (by omega)]
      show nI (3 * i + 121 - 120) = nI (3 * i + 1)
      congr 1
    · show (nI (3 * i) + nI 122) - nI 120 = _
      rw [nI_add, pk_sub (by omega)]
      show nI (3 * i + 122 - 120) = nI (3 * i + 2)
      congr 1
  have hj : 3 * i + ((bt T n p).toInt - 120).toNat < 9 := by omega
  rw [ei, R6_6, R9_0, ix_nI (by omega)]
  refine ⟨K9, K10, InB_nI (show _ < 9 from hj) (by omega), ?_⟩
  rintro _ rfl
  rintro _ rfl
  have e63 : mi (wi (sil h f l) 10 (3 * i + ((bt T n p).toInt - 120).toNat) (mi (sil h f l) 10 (3 * i + ((bt T n p).toInt - 120).toNat) + zI s)) 6 3 = nI p := by rw [wi_sil, mi_sil, up2_ne (by decide)]; exact h3
  rw [e63, nI_1, wi_sil, wi_sil, mi_sil, h5 _ hj, zI_add]
  refine ⟨_, rfl, FP.refl.up10.up (by decide), ?_⟩
  rw [tmF_x hk hx]
  generalize 3 * i + ((bt T n p).toInt - 120).toNat = k at hj ⊢
  refine ⟨⟨?_, ?_, up2_s, ?_, fun j hj2 => ?_, fun j hj2 => ?_⟩, by rw [up2_ni (by decide), up2_ne (by decide)]⟩
  · rw [up2_row (by decide), up2_row (by decide)]; exact h1
  · rw [up2_ni (by decide), up2_ne (by decide)]; exact h2
  · rw [up2_ni (by decide), up2_ne (by decide)]; exact h4
  · rw [up2_ne (by decide)]
    show up2 f 10 k _ 10 j = zI (addAt M k s j)
    unfold addAt
    by_cases ej : j = k
    · subst ej; rw [up2_s, if_pos rfl]
    · rw [up2_ni ej, if_neg ej]; exact h5 j hj2
  · rw [up2_ne (by decide), up2_ne (by decide)]; exact h6 j hj2
