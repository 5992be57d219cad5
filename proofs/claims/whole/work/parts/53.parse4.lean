/-! the class reads a text: borders, the matrix, the end -/
theorem c_parseBorder {h : MH} {f0 f : (Nat → Nat → Int32)} {l : (Nat → Nat → Int64)} {T : Nat → Int32} {n p i : Nat} {M S : Nat → Int} (F : FP f0 f) (f5 : f 6 5 = f0 6 5) (hc : CP T n f p M S) (hn : n ≤ 100) (hp : p ≤ 101) :
    SpV k_Scribe_parseBorder [.ref 6, .int (due i)] (sil h f l) (fun g => ∃ f', g = sil h f' l ∧ CR T n f0 f' (bdF T n i (.ok (p, M, S)))) := by
  refine v_Scribe_parseBorder _ _ _ _ ⟨K6, SpI.mono (c_peek hc.2.1 hc.2.2.1 hn (by omega)) ?_⟩
  rw [hc.1]
  rintro r g ⟨e, er⟩
  subst g er
  refine ⟨fun w => ⟨K6, ?_⟩, fun w => ⟨K6, ?_⟩⟩
  · rintro _ rfl
    rw [mi_sil, hc.2.2.1, nI_1, wi_sil]
    refine ⟨_, rfl, F.up (by decide), ?_⟩
    show match (if bt T n p = due i then (Except.ok (p + 1, M, S) : PRs) else .error (1, p)) with | .ok r => _ | .error e => _
    rw [if_pos w]
    exact ⟨hc.at, by rw [up2_ni (by decide)]; exact f5⟩
  · rw [mi_sil, hc.2.2.1]
    refine SpV.mono (sp_Scribe_report (1 : Int32) (nI p)) ?_
    rintro _ rfl
    refine ⟨_, rfl, (F.up (by decide)).up (by decide), ?_⟩
    show match (if bt T n p = due i then (Except.ok (p + 1, M, S) : PRs) else .error (1, p)) with | .ok r => _ | .error e => _
    rw [if_neg w]
    exact hc.err (k := 1) (by omega) (by decide) (by decide)
/-- what an expression and its border leave -/
theorem exN_b {T : Nat → Int32} {n i p : Nat} {M S : Nat → Int} {r : Nat × (Nat → Int) × (Nat → Int)} (hi : i < 3) (hn : n ≤ 100) (hp : p ≤ 101) (hM : MBd M p) (hS : sOK S) (h : exN T n i p M S = .ok r) : p ≤ r.1 ∧ r.1 ≤ 101 ∧ MBd r.2.1 r.1 ∧ sOK r.2.2 := by
  have g := sk_ge (T := T) (n := n) p
  have g0 : sk T n p ≤ 101 := sk_le p (by omega) hp
  have key : ∀ (s : Int) (q : Nat), (s = 1 ∨ s = -1) → p ≤ q → q ≤ 101 → (∀ r, (match tmF T n i s q M S with | .error e => (Except.error e : PRs) | .ok r => exL T n i 101 r.1 r.2.1 r.2.2) = .ok r → p ≤ r.1 ∧ r.1 ≤ 101 ∧ MBd r.2.1 r.1 ∧ sOK r.2.2) := by
    intro s q hs h1 h2 r h
    cases he : tmF T n i s q M S with
    | error e => rw [he] at h; cases h
    | ok u =>
      rw [he] at h
      have b := tmF_b hi hS he
      have m := tmF_m hs (hM.wk h1) he b.1
      have := exL_b hi hn 200 u.1 u.2.1 u.2.2 r (by omega) (by omega) m b.2.2 h
      exact ⟨by omega, this.2.1, this.2.2.1, this.2.2.2⟩
  unfold exN at h
  by_cases w : bt T n (sk T n p) = 43 ∨ bt T n (sk T n p) = 45
  · have hpn : sk T n p < n := by rcases w with q | q <;> exact bt_ne q (by decide)
    rw [if_pos w] at h
    refine key (if bt T n (sk T n p) = 45 then -1 else 1) (sk T n p + 1) (by split <;> simp) (by omega) (by omega) r ?_
    rw [← h]
    cases tmF T n i (if bt T n (sk T n p) = 45 then -1 else 1) (sk T n p + 1) M S <;> rfl
  · rw [if_neg w, if_neg (fun q => w (Or.inr q))] at h
    refine key 1 (sk T n p) (Or.inl rfl) g g0 r ?_
    rw [← h]
    cases tmF T n i 1 (sk T n p) M S <;> rfl
theorem exB_b {T : Nat → Int32} {n i p : Nat} {M S : Nat → Int} {r : Nat × (Nat → Int) × (Nat → Int)} (hi : i < 3) (hn : n ≤ 100) (hp : p ≤ 101) (hM : MBd M p) (hS : sOK S) (h : exB T n i p M S = .ok r) : (i < 2 → r.1 ≤ 101) ∧ r.1 ≤ 102 ∧ MBd r.2.1 r.1 ∧ sOK r.2.2 := by
  unfold exB at h
  cases he : exN T n i p M S with
  | error e => rw [he] at h; cases h
  | ok u =>
    rw [he] at h
    have b := exN_b hi hn hp hM hS he
    have h : (if bt T n u.1 = due i then (Except.ok (u.1 + 1, u.2.1, u.2.2) : PRs) else .error (1, u.1)) = .ok r := h
    by_cases w : bt T n u.1 = due i
    · rw [if_pos w] at h
      cases h
      refine ⟨fun i2 => ?_, by show u.1 + 1 ≤ 102; omega, b.2.2.1.wk (by show u.1 ≤ u.1 + 1; omega), b.2.2.2⟩
      have : due i = 44 := if_pos i2
      rw [this] at w
      have := bt_ne w (by decide)
      show u.1 + 1 ≤ 101
      omega
    · rw [if_neg w] at h; cases h
/-- a row of the text in the class -/
theorem c_row {h : MH} {f0 f : (Nat → Nat → Int32)} {l : (Nat → Nat → Int64)} {T : Nat → Int32} {n p i : Nat} {M S : Nat → Int} (F : FP f0 f) (f5 : f 6 5 = f0 6 5) (hc : CP T n f p M S) (hM : MBd M p) (hS : sOK S) (hn : n ≤ 100) (hp : p ≤ 101) (hi : i < 3) {Rt : Value → MH → Prop}
    (nx : ∀ f', CR T n f0 f' (exB T n i p M S) → WM k_Scribe_parse p_Scribe_parse_1 [.ref 6, .int (nI (i + 1))] [] (sil h f' l) 0 0 Rt) : WM k_Scribe_parse p_Scribe_parse_1 [.ref 6, .int (nI i)] [] (sil h f l) 0 0 Rt := by
  have ti : (nI i).toInt = (i : Int) := nI_toI (by omega)
  have t3 : (3 : Int32).toInt = 3 := rfl
  have t2 : (2 : Int32).toInt = 2 := rfl
  have c4 : mi (sil h f l) 6 4 = 0 := hc.2.2.2.1
  refine v_Scribe_parse_1 _ _ _ _ ⟨fun _ => ⟨K6, fun _ => SpV.mono (c_parseExpression hc hS hn hp hi) ?_, fun w => absurd c4 w⟩, fun w => absurd (by rw [ti, t3]; omega) w⟩
  rintro _ ⟨f1, rfl, F1, cr⟩
  rw [ti, t2, nI_1]
  refine ⟨K6, ?_⟩
  unfold exB at nx
  cases he : exN T n i p M S with
  | error e =>
    rw [he] at cr nx
    exact ⟨fun w => absurd w cr.ne, fun _ => nx f1 ⟨F.trans F1, cr⟩⟩
  | ok u =>
    rw [he] at cr nx
    have b := exN_b hi hn hp hM hS he
    have c4' : mi (sil h f1 l) 6 4 = 0 := cr.1.2.2.2.1
    have f5' : f1 6 5 = f0 6 5 := cr.2.trans f5
    refine ⟨fun _ => ⟨fun w => ?_, fun w => ?_⟩, fun w => absurd c4' w⟩
    · have B := c_parseBorder (h := h) (l := l) (i := i) (F.trans F1) f5' cr.1 hn b.2.1
      rw [show due i = 44 from if_pos (by omega)] at B
      refine SpV.mono B ?_
      rintro _ ⟨f2, rfl, cr2⟩
      exact nx f2 cr2
    · have B := c_parseBorder (h := h) (l := l) (i := i) (F.trans F1) f5' cr.1 hn b.2.1
      rw [show due i = -1 from if_neg (by omega)] at B
      refine SpV.mono B ?_
      rintro _ ⟨f2, rfl, cr2⟩
      exact nx f2 cr2
/-- the text's operation: its code, or the fault and its place -/
noncomputable def rdC (T : Nat → Int32) (n : Nat) : Except (Nat × Nat) Nat := match rdF T n with
  | .error e => .error e
  | .ok r => @ite _ (small r.2.1) (Classical.propDecidable _) (if det9 r.2.1 = 1 ∨ det9 r.2.1 = -1 then .ok (enc r.2.1 r.2.2).toNat else .error (4, n)) (.error (3, n))
theorem rdC_e {T : Nat → Int32} {n : Nat} {e : Nat × Nat} (h : rdF T n = .error e) : rdC T n = .error e := by unfold rdC; rw [h]
theorem rdC_o {T : Nat → Int32} {n : Nat} {r : Nat × (Nat → Int) × (Nat → Int)} (h : rdF T n = .ok r) : rdC T n = @ite _ (small r.2.1) (Classical.propDecidable _) (if det9 r.2.1 = 1 ∨ det9 r.2.1 = -1 then .ok (enc r.2.1 r.2.2).toNat else .error (4, n)) (.error (3, n)) := by unfold rdC; rw [h]
theorem rdF_0 {T : Nat → Int32} {n : Nat} {e : Nat × Nat} (h : exB T n 0 0 (fun _ => 0) (fun _ => 0) = .error e) : rdF T n = .error e := by unfold rdF; rw [h]
theorem rdF_1 {T : Nat → Int32} {n : Nat} {e : Nat × Nat} {r : Nat × (Nat → Int) × (Nat → Int)} (h : exB T n 0 0 (fun _ => 0) (fun _ => 0) = .ok r) (h1 : exB T n 1 r.1 r.2.1 r.2.2 = .error e) : rdF T n = .error e := by unfold rdF; rw [h]; show (match exB T n 1 r.1 r.2.1 r.2.2 with | .error e => (Except.error e : PRs) | .ok r => exB T n 2 r.1 r.2.1 r.2.2) = _; rw [h1]
theorem rdF_2 {T : Nat → Int32} {n : Nat} {r u : Nat × (Nat → Int) × (Nat → Int)} (h : exB T n 0 0 (fun _ => 0) (fun _ => 0) = .ok r) (h1 : exB T n 1 r.1 r.2.1 r.2.2 = .ok u) : rdF T n = exB T n 2 u.1 u.2.1 u.2.2 := by unfold rdF; rw [h]; show (match exB T n 1 r.1 r.2.1 r.2.2 with | .error e => (Except.error e : PRs) | .ok r => exB T n 2 r.1 r.2.1 r.2.2) = _; rw [h1]
def ParseEnd (f f' : (Nat → Nat → Int32)) (r : Int32) (res : Except (Nat × Nat) Nat) : Prop := FP f f' ∧ f' 6 2 = nI 0 ∧ match res with
  | .ok c => r = nI c ∧ cOK c ∧ f' 6 4 = nI 0 ∧ f' 6 5 = zI (-1)
  | .error e => r = zI (-1) ∧ f' 6 4 = nI e.1 ∧ f' 6 5 = nI e.2
theorem c_parseStop {h : MH} {f0 f : (Nat → Nat → Int32)} {l : (Nat → Nat → Int64)} {T : Nat → Int32} {n : Nat} {e : Nat × Nat} (F : FP f0 f) (hc : CE T n f e) : WM k_Scribe_parse p_Scribe_parse_2 [.ref 6, Jv] [] (sil h f l) 0 0 (fun v g => ∃ r, v = .int r ∧ ∃ f', g = sil h f' l ∧ ParseEnd f0 f' r (.error e)) := by
  refine v_Scribe_parse_2 _ _ _ ⟨K6, ?_⟩
  rintro _ rfl
  rw [wi_sil, mi_sil, up2_ni (by decide)]
  refine ⟨fun w => absurd w hc.ne, fun _ => ⟨_, rfl, _, rfl, F.up (by decide), up2_s, rfl, ?_, ?_⟩⟩
  · rw [up2_ni (by decide)]; exact hc.2.2.2.1
  · rw [up2_ni (by decide)]; exact hc.2.2.2.2.1
theorem c_parseErr {h : MH} {f0 f : (Nat → Nat → Int32)} {l : (Nat → Nat → Int64)} {T : Nat → Int32} {n : Nat} {e : Nat × Nat} (F : FP f0 f) (hc : CE T n f e) (x : Int32) : WM k_Scribe_parse p_Scribe_parse_1 [.ref 6, .int x] [] (sil h f l) 0 0 (fun v g => ∃ r, v = .int r ∧ ∃ f', g = sil h f' l ∧ ParseEnd f0 f' r (.error e)) :=
  v_Scribe_parse_1 _ _ _ _ ⟨fun _ => ⟨K6, fun w => absurd w hc.ne, fun _ => ⟨fun w => absurd w hc.ne, fun _ => c_parseStop F hc⟩⟩, fun _ => ⟨K6, fun w => absurd w hc.ne, fun _ => c_parseStop F hc⟩⟩
theorem MBd.mat {f : (Nat → Nat → Int32)} {a k : Nat} {M : Nat → Int} (hM : MBd M k) (hk : k ≤ 1000) (h : ∀ j, j < 9 → f a j = zI (M j)) : MatAt f a M := fun j hj => by
  have := hM j
  rw [h j hj, zI_toI (by omega) (by omega)]
theorem sOK.sh {f : (Nat → Nat → Int32)} {a : Nat} {S : Nat → Int} (hS : sOK S) (h : ∀ j, j < 3 → f a j = zI (S j)) : ShAt f a S := fun j hj => by
  have := hS j hj
  rw [h j hj, zI_toI (by omega) (by omega)]
theorem det9_abM {M : Nat → Int} {k : Nat} (h : MBd M k) : ∀ j, Ab (M j) k := fun j => Ab.of (h j).1 (h j).2
theorem c_check {h : MH} {f0 f : (Nat → Nat → Int32)} {l : (Nat → Nat → Int64)} {T : Nat → Int32} {n p : Nat} {M S : Nat → Int} (F : FP f0 f) (f5 : f 6 5 = zI (-1)) (hc : CP T n f p M S) (hp : p ≤ 102) (hn : n ≤ 100) (hM : MBd M p) (hS : sOK S) :
    SpV k_Scribe_checkMatrix [.ref 6] (sil h f l) (fun g => WM k_Scribe_parse p_Scribe_parse_2 [.ref 6, Jv] [] g 0 0 (fun v g => ∃ r, v = .int r ∧ ∃ f', g = sil h f' l ∧ ParseEnd f0 f' r (@ite _ (small M) (Classical.propDecidable _) (if det9 M = 1 ∨ det9 M = -1 then .ok (enc M S).toNat else .error (4, n)) (.error (3, n))))) := by
  have mA : MatAt f 10 M := hM.mat (by omega) hc.2.2.2.2.1
  have sA : ShAt f 11 S := hS.sh hc.2.2.2.2.2
  refine v_Scribe_checkMatrix _ _ _ ⟨K6, ?_⟩
  rw [R6_6]
  refine ⟨K9, SpI.mono (sp_Motion_isSmall (h := sil h f l) (x := 9) (a := 10) rfl rfl rfl rfl mA) ?_⟩
  rintro r g ⟨e, (⟨rfl, sm⟩ | ⟨rfl, sm⟩)⟩ <;> subst g
  · refine ⟨fun w => absurd w (by decide), fun _ => ⟨K6, ?_⟩⟩
    rw [R6_6, if_pos sm]
    refine ⟨K9, SpI.mono (sp_Motion_determinant (h := sil h f l) (x := 9) (a := 10) rfl rfl rfl rfl mA) ?_⟩
    rintro r g ⟨e, er⟩
    subst g er
    have ab := det9_ab sm
    have a1 := ab.lo
    have a2 := ab.hi
    have tz : (zI (det9 M)).toInt = det9 M := zI_toI (by omega) (by omega)
    refine SpI.mono (sp_absI _ (by omega)) ?_
    rintro r g ⟨e, hr⟩
    subst g
    rw [tz] at hr
    have hr1 : r = 1 ↔ (det9 M = 1 ∨ det9 M = -1) := by
      have one : (1 : Int32).toInt = 1 := rfl
      constructor
      · intro e; rw [e, one] at hr; omega
      · intro e; exact hb_eq (by rw [one]; omega)
    refine ⟨fun w => ?_, fun w => ⟨K6, ?_⟩⟩
    · rw [if_pos (hr1.mp w)]
      refine v_Scribe_parse_2 _ _ _ ⟨K6, ?_⟩
      rintro _ rfl
      rw [wi_sil, mi_sil, up2_ni (by decide), hc.2.2.2.1, R6_6]
      refine ⟨fun _ => ⟨K9, ?_⟩, fun w => absurd rfl w⟩
      have m2 : MatAt (up2 f 6 2 0) 10 M := fun j hj => by rw [up2_ne (by decide)]; exact mA j hj
      have s2 : ShAt (up2 f 6 2 0) 11 S := fun j hj => by rw [up2_ne (by decide)]; exact sA j hj
      refine SpI.mono (sp_Motion_code (h := sil h (up2 f 6 2 0) l) (x := 9) (a := 10) (b := 11) rfl rfl rfl rfl rfl rfl rfl m2 s2 hS) ?_
      rintro r g ⟨e, (⟨_, er⟩ | ⟨ns, _⟩)⟩
      · subst g
        have rg := enc_rng sm hS
        refine ⟨_, rfl, _, rfl, F.up (by decide), up2_s, ?_, ?_, ?_, ?_⟩
        · rw [of_toI er, ← zI_nat]
          congr 1
          omega
        · unfold cOK; omega
        · rw [up2_ni (by decide)]; exact hc.2.2.2.1
        · rw [up2_ni (by decide)]; exact f5
      · exact absurd sm ns
    · rw [mi_sil, hc.2.1, if_neg (fun q => w (hr1.mpr q))]
      refine SpV.mono (sp_Scribe_report (4 : Int32) (nI n)) ?_
      rintro _ rfl
      exact c_parseStop ((F.up (by decide)).up (by decide)) (hc.err (k := 4) (by omega) (by decide) (by decide))
  · refine ⟨fun _ => ⟨K6, ?_⟩, fun w => absurd rfl w⟩
    rw [mi_sil, hc.2.1, if_neg sm]
    refine SpV.mono (sp_Scribe_report (3 : Int32) (nI n)) ?_
    rintro _ rfl
    exact c_parseStop ((F.up (by decide)).up (by decide)) (hc.err (k := 3) (by omega) (by decide) (by decide))
theorem sp_Scribe_parse {h : MH} {f : (Nat → Nat → Int32)} {l : (Nat → Nat → Int64)} {n : Nat} (h2 : f 6 2 = nI n) (hn : n ≤ 100) : SpI k_Scribe_parse [.ref 6] (sil h f l) (fun r g => ∃ f', g = sil h f' l ∧ ParseEnd f f' r (rdC (f 8) n)) := by
  refine v_Scribe_parse _ _ _ ⟨K6, ?_⟩
  rintro _ rfl
  rw [wi_sil]
  refine SpV.mono (sp_Scribe_report _ _) ?_
  rintro _ rfl
  rw [R6_6]
  refine ⟨K6, K9, SpV.mono sp_Motion_clear ?_⟩
  rintro _ ⟨f1, rfl, q1, m1, s1⟩
  have F1 : FP f f1 := ⟨(((Fr.refl.up (by decide)).up (by decide)).up (by decide)).trans (q1.mono (by decide)), by rw [q1 6 (by decide), up2_ni (by decide), up2_ni (by decide), up2_ni (by decide)]⟩
  have e6 := q1 6 (by decide)
  have f5 : f1 6 5 = zI (-1) := by rw [e6, up2_s]; rfl
  have c0 : CP (f 8) n f1 0 (fun _ => 0) (fun _ => 0) := by
    refine ⟨?_, ?_, ?_, ?_, m1.z, s1.z⟩
    · rw [q1 8 (by decide), up2_row (by decide), up2_row (by decide), up2_row (by decide)]
    · rw [e6, up2_ni (by decide), up2_ni (by decide), up2_ni (by decide)]; exact h2
    · rw [e6, up2_ni (by decide), up2_ni (by decide), up2_s]; rfl
    · rw [e6, up2_ni (by decide), up2_s]; rfl
  have S0 : sOK (fun _ => 0) := fun j _ => ⟨Int.le_refl 0, show (0 : Int) < 24 by decide⟩
  have M0 : MBd (fun _ => 0) 0 := fun j => ⟨show -((0 : Nat) : Int) ≤ 0 by decide, show (0 : Int) ≤ ((0 : Nat) : Int) by decide⟩
  refine c_row (i := 0) (f0 := f1) FP.refl rfl c0 M0 S0 hn (by decide) (by decide) ?_
  intro f2 cr2
  cases h0 : exB (f 8) n 0 0 (fun _ => 0) (fun _ => 0) with
  | error e =>
    rw [h0] at cr2
    rw [rdC_e (rdF_0 h0)]
    exact WM.mono' (c_parseErr cr2.1 cr2.2 _) (fun v g q => by obtain ⟨r, e1, f', e2, e3⟩ := q; exact ⟨r, e1, f', e2, F1.trans e3.1, e3.2⟩)
  | ok r0 =>
    rw [h0] at cr2
    have b0 := exB_b (by decide) hn (by decide) M0 S0 h0
    refine c_row (i := 1) (f0 := f1) cr2.1 cr2.2.2 cr2.2.1 b0.2.2.1 b0.2.2.2 hn (b0.1 (by decide)) (by decide) ?_
    intro f3 cr3
    cases h1 : exB (f 8) n 1 r0.1 r0.2.1 r0.2.2 with
    | error e =>
      rw [h1] at cr3
      rw [rdC_e (rdF_1 h0 h1)]
      exact WM.mono' (c_parseErr cr3.1 cr3.2 _) (fun v g q => by obtain ⟨r, e1, f', e2, e3⟩ := q; exact ⟨r, e1, f', e2, F1.trans e3.1, e3.2⟩)
    | ok r1 =>
      rw [h1] at cr3
      have b1 := exB_b (by decide) hn (b0.1 (by decide)) b0.2.2.1 b0.2.2.2 h1
      refine c_row (i := 2) (f0 := f1) cr3.1 cr3.2.2 cr3.2.1 b1.2.2.1 b1.2.2.2 hn (b1.1 (by decide)) (by decide) ?_
      intro f4 cr4
      cases h3 : exB (f 8) n 2 r1.1 r1.2.1 r1.2.2 with
      | error e =>
        rw [h3] at cr4
        rw [rdC_e ((rdF_2 h0 h1).trans h3)]
        exact WM.mono' (c_parseErr cr4.1 cr4.2 _) (fun v g q => by obtain ⟨r, e1, f', e2, e3⟩ := q; exact ⟨r, e1, f', e2, F1.trans e3.1, e3.2⟩)
      | ok r2 =>
        rw [h3] at cr4
        have b2 := exB_b (by decide) hn (b1.1 (by decide)) b1.2.2.1 b1.2.2.2 h3
        have c4 : mi (sil h f4 l) 6 4 = 0 := cr4.2.1.2.2.2.1
        rw [rdC_o ((rdF_2 h0 h1).trans h3)]
        refine v_Scribe_parse_1 _ _ _ _ ⟨fun w => absurd w (by decide), fun _ => ⟨K6, fun _ => ?_, fun w => absurd c4 w⟩⟩
        exact c_check (F1.trans cr4.1) (cr4.2.2.trans f5) cr4.2.1 b2.2.1 hn b2.2.2.1 b2.2.2.2
