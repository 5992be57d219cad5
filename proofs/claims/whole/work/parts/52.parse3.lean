/-! the class reads a text: expressions, the whole -/
def MBd (M : Nat → Int) (k : Nat) : Prop := ∀ j, -(k : Int) ≤ M j ∧ M j ≤ k
theorem MBd.wk {M : Nat → Int} {k m : Nat} (h : MBd M k) (hk : k ≤ m) : MBd M m := fun j => by have := h j; omega
theorem tmF_sk {T : Nat → Int32} {n i p : Nat} {s : Int} {M S : Nat → Int} : tmF T n i s (sk T n p) M S = tmF T n i s p M S := by unfold tmF; rw [sk_sk]
theorem tmF_m {T : Nat → Int32} {n i : Nat} {s : Int} {p : Nat} {M S : Nat → Int} {r : Nat × (Nat → Int) × (Nat → Int)} (hs : s = 1 ∨ s = -1) (hM : MBd M p) (h : tmF T n i s p M S = .ok r) (hr : p < r.1) : MBd r.2.1 r.1 := by
  have wk := hM.wk (Nat.le_of_lt hr)
  by_cases hx : bt T n (sk T n p) = 120 ∨ bt T n (sk T n p) = 121 ∨ bt T n (sk T n p) = 122
  · rw [tmF_x rfl hx] at h
    cases h
    intro j
    show _ ≤ addAt M _ s j ∧ addAt M _ s j ≤ _
    have := hM j
    unfold addAt
    simp only at hr ⊢
    split <;> rcases hs with rfl | rfl <;> omega
  · by_cases h2 : dg (bt T n (sk T n p))
    · by_cases h4 : bt T n (sk T n (nmF T n (sk T n p)).2) = 47
      · by_cases h6 : dg (bt T n (sk T n (sk T n (nmF T n (sk T n p)).2 + 1)))
        · rw [tmF_f (v := (nmF T n (sk T n p)).1) (p2 := (nmF T n (sk T n p)).2) (w := (nmF T n (sk T n (sk T n (nmF T n (sk T n p)).2 + 1))).1) (p5 := (nmF T n (sk T n (sk T n (nmF T n (sk T n p)).2 + 1))).2) rfl h2 rfl rfl h4 rfl h6 rfl] at h
          split at h
          · cases h
          · cases h; exact wk
        · rw [tmF_d (v := (nmF T n (sk T n p)).1) (p2 := (nmF T n (sk T n p)).2) rfl h2 rfl rfl h4 rfl h6] at h
          cases h
      · rw [tmF_w (v := (nmF T n (sk T n p)).1) (p2 := (nmF T n (sk T n p)).2) rfl h2 rfl rfl h4] at h
        cases h; exact wk
    · rw [tmF_e rfl hx h2] at h
      cases h
theorem exL_fuel {T : Nat → Int32} {n i : Nat} (hi : i < 3) : ∀ (d d' p : Nat) (M S : Nat → Int), n - p < d → n - p < d' → sOK S → exL T n i d p M S = exL T n i d' p M S := by
  intro d
  induction d with
  | zero => intro d' p M S h; omega
  | succ d ih =>
    intro d' p M S h1 h2 hS
    cases d' with
    | zero => omega
    | succ d' =>
      unfold exL
      split
      · rename_i hsg
        have hp : sk T n p < n := by rcases hsg with q | q <;> exact bt_ne q (by decide)
        have g := sk_ge (T := T) (n := n) p
        split
        · rfl
        · rename_i r e
          have b := tmF_b hi hS e
          exact ih d' _ _ _ (by omega) (by omega) b.2.2
      · rfl
theorem exL_sk {T : Nat → Int32} {n i d p : Nat} {M S : Nat → Int} : exL T n i d (sk T n p) M S = exL T n i d p M S := by
  cases d with
  | zero => rfl
  | succ d => unfold exL; rw [sk_sk]
theorem exL_n {T : Nat → Int32} {n i p : Nat} {M S : Nat → Int} (h : ¬ (bt T n (sk T n p) = 43 ∨ bt T n (sk T n p) = 45)) : exL T n i 101 p M S = .ok (sk T n p, M, S) := by
  show (if bt T n (sk T n p) = 43 ∨ bt T n (sk T n p) = 45 then _ else _) = _
  rw [if_neg h]
theorem exL_e {T : Nat → Int32} {n i p : Nat} {M S : Nat → Int} {e : Nat × Nat} (h : bt T n (sk T n p) = 43 ∨ bt T n (sk T n p) = 45) (he : tmF T n i (sgI (bt T n (sk T n p))) (sk T n p + 1) M S = .error e) : exL T n i 101 p M S = .error e := by
  show exL T n i (100 + 1) p M S = _
  unfold exL
  rw [if_pos h]
  unfold sgI at he
  rw [he]
theorem exL_o {T : Nat → Int32} {n i p : Nat} {M S : Nat → Int} {r : Nat × (Nat → Int) × (Nat → Int)} (hi : i < 3) (hn : n ≤ 100) (hS : sOK S) (h : bt T n (sk T n p) = 43 ∨ bt T n (sk T n p) = 45) (he : tmF T n i (sgI (bt T n (sk T n p))) (sk T n p + 1) M S = .ok r) : exL T n i 101 p M S = exL T n i 101 r.1 r.2.1 r.2.2 := by
  have b := tmF_b hi hS he
  show exL T n i (100 + 1) p M S = _
  rw [exL]
  rw [if_pos h]
  unfold sgI at he
  rw [he]
  exact exL_fuel hi _ _ _ _ _ (by omega) (by omega) b.2.2
theorem sgI_c (c : Int32) : sgI c = 1 ∨ sgI c = -1 := by unfold sgI; split <;> simp
/-- what the terms leave -/
theorem exL_b {T : Nat → Int32} {n i : Nat} (hi : i < 3) (hn : n ≤ 100) : ∀ (d p : Nat) (M S : Nat → Int) (r : Nat × (Nat → Int) × (Nat → Int)), n - p ≤ d → p ≤ 101 → MBd M p → sOK S → exL T n i 101 p M S = .ok r → p ≤ r.1 ∧ r.1 ≤ 101 ∧ MBd r.2.1 r.1 ∧ sOK r.2.2 := by
  intro d
  induction d with
  | zero =>
    intro p M S r h1 h2 h3 h4 h5
    have hnb : ¬ (bt T n (sk T n p) = 43 ∨ bt T n (sk T n p) = 45) := fun q => by
      have := sk_ge (T := T) (n := n) p
      have : sk T n p < n := by rcases q with q | q <;> exact bt_ne q (by decide)
      omega
    rw [exL_n hnb] at h5
    cases h5
    have g := sk_ge (T := T) (n := n) p
    exact ⟨g, sk_le p (by omega) h2, h3.wk g, h4⟩
  | succ d ih =>
    intro p M S r h1 h2 h3 h4 h5
    have g := sk_ge (T := T) (n := n) p
    by_cases q : bt T n (sk T n p) = 43 ∨ bt T n (sk T n p) = 45
    · have hp : sk T n p < n := by rcases q with q | q <;> exact bt_ne q (by decide)
      cases he : tmF T n i (sgI (bt T n (sk T n p))) (sk T n p + 1) M S with
      | error e => rw [exL_e q he] at h5; cases h5
      | ok u =>
        have b := tmF_b hi h4 he
        have m := tmF_m (sgI_c _) (h3.wk (show p ≤ sk T n p + 1 by omega)) he b.1
        rw [exL_o hi hn h4 q he] at h5
        have := ih u.1 u.2.1 u.2.2 r (by omega) (by omega) m b.2.2 h5
        exact ⟨by omega, this.2.1, this.2.2.1, this.2.2.2⟩
    · rw [exL_n q] at h5
      cases h5
      exact ⟨g, sk_le p (by omega) h2, h3.wk g, h4⟩
theorem CE.at {T : Nat → Int32} {n q : Nat} {f : (Nat → Nat → Int32)} {e : Nat × Nat} (h : CE T n f e) (hq : q ≤ 900) : CE T n (up2 f 6 3 (nI q)) e := by
  obtain ⟨h1, h2, h3, h4, h5, h6⟩ := h
  refine ⟨?_, ?_, ⟨q, hq, up2_s⟩, ?_, ?_, h6⟩
  · rw [up2_row (by decide)]; exact h1
  · rw [up2_ni (by decide)]; exact h2
  · rw [up2_ni (by decide)]; exact h4
  · rw [up2_ni (by decide)]; exact h5
theorem CE.ne {T : Nat → Int32} {n : Nat} {f : (Nat → Nat → Int32)} {e : Nat × Nat} (h : CE T n f e) : ¬ f 6 4 = 0 := by
  rw [h.2.2.2.1]
  intro q
  have := (nI_inj (x := e.1) (y := 0) (by have := h.2.2.2.2.2.2; omega) (by decide)).mp q
  have := h.2.2.2.2.2.1
  omega
theorem c_exprErr {h : MH} {f0 f : (Nat → Nat → Int32)} {l : (Nat → Nat → Int64)} {T : Nat → Int32} {n i : Nat} {e : Nat × Nat} (fp : FP f0 f) (hc : CE T n f e) (x1 x3 : Int32) :
    WM k_Scribe_parseExpression p_Scribe_parseExpression_1 [.ref 6, .int x1, Jv, .int x3] [] (sil h f l) 0 0 (fun _ g => ∃ f', g = sil h f' l ∧ CR T n f0 f' (.error e)) := by
  have fin : ∃ f', sil h f l = sil h f' l ∧ CR T n f0 f' (.error e) := ⟨f, rfl, fp, hc⟩
  refine v_Scribe_parseExpression_1 _ _ _ _ _ ⟨fun _ => ⟨K6, fun w => absurd w hc.ne, fun _ => fin⟩, fun _ => fin⟩
theorem c_exprLoop {h : MH} {f0 : (Nat → Nat → Int32)} {l : (Nat → Nat → Int64)} {T : Nat → Int32} {n i : Nat} (hi : i < 3) (hn : n ≤ 100) : ∀ (d k p : Nat) (f : (Nat → Nat → Int32)) (M S : Nat → Int), n - p ≤ d → k + (n - p) ≤ 100 → p ≤ 101 → sk T n p = p → FP f0 f → f 6 5 = f0 6 5 → CP T n f p M S → sOK S →
    WM k_Scribe_parseExpression p_Scribe_parseExpression_1 [.ref 6, .int (nI i), Jv, .int (nI k)] [] (sil h f l) 0 0 (fun _ g => ∃ f', g = sil h f' l ∧ CR T n f0 f' (exL T n i 101 p M S)) := by
  intro d
  induction d with
  | zero =>
    intro k p f M S h1 h2 h3 hk fp f5 hc hS
    have hnb : ¬ (bt T n (sk T n p) = 43 ∨ bt T n (sk T n p) = 45) := fun q => by
      have : sk T n p < n := by rcases q with q | q <;> exact bt_ne q (by decide)
      omega
    have fin : ∃ f', sil h f l = sil h f' l ∧ CR T n f0 f' (exL T n i 101 p M S) := ⟨f, rfl, fp, by rw [exL_n hnb, hk]; exact ⟨hc, f5⟩⟩
    refine v_Scribe_parseExpression_1 _ _ _ _ _ ⟨fun _ => ⟨K6, fun _ => SpI.mono (c_seesSign hc.2.1 hc.2.2.1 hn (by omega)) ?_, fun _ => fin⟩, fun _ => fin⟩
    rw [hc.1]
    rintro r g ⟨e, (⟨_, w⟩ | ⟨rfl, _⟩)⟩ <;> subst g
    · rw [hk] at hnb; exact absurd w hnb
    · exact ⟨fun _ => fin, fun w => absurd rfl w⟩
  | succ d ih =>
    intro k p f M S h1 h2 h3 hk fp f5 hc hS
    have tk : (nI k).toInt = (k : Int) := nI_toI (by omega)
    have t100 : (100 : Int32).toInt = 100 := rfl
    have fin : ¬ (bt T n p = 43 ∨ bt T n p = 45) → ∃ f', sil h f l = sil h f' l ∧ CR T n f0 f' (exL T n i 101 p M S) := fun w => ⟨f, rfl, fp, by rw [exL_n (by rw [hk]; exact w), hk]; exact ⟨hc, f5⟩⟩
    have c4 : mi (sil h f l) 6 4 = 0 := hc.2.2.2.1
    refine v_Scribe_parseExpression_1 _ _ _ _ _ ⟨fun wk => ⟨K6, fun _ => SpI.mono (c_seesSign hc.2.1 hc.2.2.1 hn (by omega)) ?_, fun w => absurd c4 w⟩, fun wk => fin (fun q => by
      have : p < n := by rcases q with q | q <;> exact bt_ne q (by decide)
      rw [tk, t100] at wk; omega)⟩
    rw [hc.1]
    rintro r g ⟨e, (⟨rfl, w⟩ | ⟨rfl, w⟩)⟩ <;> subst g
    case inr => exact ⟨fun _ => fin w, fun w => absurd rfl w⟩
    have hp : p < n := by rcases w with q | q <;> exact bt_ne q (by decide)
    have w' : bt T n (sk T n p) = 43 ∨ bt T n (sk T n p) = 45 := by rw [hk]; exact w
    refine ⟨fun w => absurd w (by decide), fun _ => ⟨K6, SpI.mono (c_takeSign hc.2.1 hc.2.2.1 hn (by omega)) ?_⟩⟩
    rw [hc.1]
    rintro r g ⟨er, eg⟩
    subst g er
    have c1 := hc.at (q := sk T n (p + 1))
    have g1 : sk T n (p + 1) ≤ 101 := sk_le (p + 1) (by omega) (by omega)
    refine ⟨K6, SpV.mono (c_parseTerm c1 hS hn g1 hi (sgI_c _) (sk_sk _)) ?_⟩
    rw [tmF_sk]
    rintro _ ⟨f2, rfl, fp2, cr⟩
    have F2 : FP f0 f2 := (fp.up (by decide)).trans fp2
    cases he : tmF T n i (sgI (bt T n p)) (p + 1) M S with
    | error e =>
      rw [he] at cr
      obtain ⟨q, q1, q2⟩ := cr.2.2.1
      refine ⟨K6, SpV.mono (c_skip cr.2.1 q2 hn (by omega)) ?_⟩
      rintro _ rfl
      rw [exL_e w' (by rw [hk]; exact he)]
      have hb : sk (f2 8) n q ≤ 900 := sk_le q (by omega) q1
      exact c_exprErr (i := i) (F2.up (by decide)) (cr.at hb) _ _
    | ok u =>
      rw [he] at cr
      have b := tmF_b hi hS he
      refine ⟨K6, SpV.mono (c_skip cr.1.2.1 cr.1.2.2.1 hn (by omega)) ?_⟩
      rintro _ rfl
      rw [cr.1.1, nI_1, exL_o hi hn hS w' (by rw [hk]; exact he), ← exL_sk]
      have g2 := sk_ge (T := T) (n := n) u.1
      exact ih (k + 1) (sk T n u.1) _ _ _ (by omega) (by omega) (sk_le u.1 (by omega) (by omega)) (sk_sk _) (F2.up (by decide)) (by rw [up2_ni (by decide), cr.2, up2_ni (by decide)]; exact f5) cr.1.at b.2.2
theorem c_parseExpression {h : MH} {f : (Nat → Nat → Int32)} {l : (Nat → Nat → Int64)} {T : Nat → Int32} {n p i : Nat} {M S : Nat → Int} (hc : CP T n f p M S) (hS : sOK S) (hn : n ≤ 100) (hp : p ≤ 101) (hi : i < 3) :
    SpV k_Scribe_parseExpression [.ref 6, .int (nI i)] (sil h f l) (fun g => ∃ f', g = sil h f' l ∧ CR T n f f' (exN T n i p M S)) := by
  refine v_Scribe_parseExpression _ _ _ _ ⟨K6, SpV.mono (c_skip hc.2.1 hc.2.2.1 hn (by omega)) ?_⟩
  rintro _ rfl
  rw [hc.1]
  have g0 : sk T n p ≤ 101 := sk_le p (by omega) hp
  have c0 := hc.at (q := sk T n p)
  -- behind the first term
  have go : ∀ (s : Int) (q : Nat) (f1 : (Nat → Nat → Int32)), (s = 1 ∨ s = -1) → q ≤ 101 → FP f f1 → f1 6 5 = f 6 5 → CP T n f1 q M S → sk T n q = q → exN T n i p M S = (match tmF T n i s q M S with | .error e => .error e | .ok r => exL T n i 101 r.1 r.2.1 r.2.2) →
      SpV k_Scribe_parseTerm [.ref 6, .int (nI i), .int (zI s)] (sil h f1 l) (fun g6 => kd g6 6 = 10 ∧ SpV k_Scribe_skipBlanks [.ref 6] g6 (fun g8 => WM k_Scribe_parseExpression p_Scribe_parseExpression_1 [.ref 6, .int (nI i), Jv, .int (0 : Int32)] [] g8 0 0 (fun _ g => ∃ f', g = sil h f' l ∧ CR T n f f' (exN T n i p M S)))) := by
    intro s q f1 hs hq F1 f5 c1 kq spec
    refine SpV.mono (c_parseTerm c1 hS hn hq hi hs kq) ?_
    rintro _ ⟨f2, rfl, fp2, cr⟩
    have F2 := F1.trans fp2
    rw [spec]
    cases he : tmF T n i s q M S with
    | error e =>
      rw [he] at cr
      obtain ⟨q', q1, q2⟩ := cr.2.2.1
      refine ⟨K6, SpV.mono (c_skip cr.2.1 q2 hn (by omega)) ?_⟩
      rintro _ rfl
      have hb : sk (f2 8) n q' ≤ 900 := sk_le q' (by omega) q1
      exact c_exprErr (i := i) (F2.up (by decide)) (cr.at hb) _ _
    | ok u =>
      rw [he] at cr
      have b := tmF_b hi hS he
      refine ⟨K6, SpV.mono (c_skip cr.1.2.1 cr.1.2.2.1 hn (by omega)) ?_⟩
      rintro _ rfl
      rw [cr.1.1]
      show WM _ _ _ _ _ _ _ (fun _ g => ∃ f', g = sil h f' l ∧ CR T n f f' (exL T n i 101 u.1 u.2.1 u.2.2))
      rw [← exL_sk]
      exact c_exprLoop hi hn 100 0 (sk T n u.1) _ _ _ (by omega) (by omega) (sk_le u.1 (by omega) (by omega)) (sk_sk _) (F2.up (by decide)) (by rw [up2_ni (by decide), cr.2]; exact f5) cr.1.at b.2.2
  refine ⟨K6, SpI.mono (c_seesSign c0.2.1 c0.2.2.1 hn (by omega)) ?_⟩
  rw [c0.1]
  rintro r g ⟨e, (⟨rfl, w⟩ | ⟨rfl, w⟩)⟩ <;> subst g
  · have hpn : sk T n p < n := by rcases w with q | q <;> exact bt_ne q (by decide)
    refine ⟨fun w => absurd w (by decide), fun _ => ⟨K6, SpI.mono (c_takeSign c0.2.1 c0.2.2.1 hn (by omega)) ?_⟩⟩
    rw [c0.1, up2_same]
    rintro r g ⟨er, eg⟩
    subst g er
    refine ⟨K6, go _ _ _ (sgI_c _) (sk_le _ (by omega) (by omega)) (FP.refl.up (by decide)) (by rw [up2_ni (by decide)]) hc.at (sk_sk _) ?_⟩
    rw [tmF_sk]
    unfold exN sgI
    rw [if_pos w]
    cases tmF T n i (if bt T n (sk T n p) = 45 then -1 else 1) (sk T n p + 1) M S <;> rfl
  · refine ⟨fun _ => ⟨K6, go 1 _ _ (Or.inl rfl) g0 (FP.refl.up (by decide)) (by rw [up2_ni (by decide)]) c0 (sk_sk _) ?_⟩, fun w => absurd rfl w⟩
    unfold exN
    rw [if_neg w, if_neg (fun q => w (Or.inr q))]
    cases tmF T n i 1 (sk T n p) M S <;> rfl
