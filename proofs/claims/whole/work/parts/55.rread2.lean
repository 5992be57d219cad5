/-! the reference reads a text: expressions, the whole -/
def RX (T : Nat → Int32) (n i : Nat) (f0 f : (Nat → Nat → Int32)) (r : Int32) (res : PRs) : Prop := FQ f0 f ∧ match res with
  | .ok q => r = 1 ∧ (∃ p, RCP T n f p q.2.1 q.2.2 ∧ (i < 2 → p = q.1)) ∧ f 54 10 = f0 54 10 ∧ f 54 11 = f0 54 11
  | .error e => r = 0 ∧ f 54 10 = nI e.1 ∧ f 54 11 = nI e.2
theorem r_border {h : MH} {f0 f : (Nat → Nat → Int32)} {l : (Nat → Nat → Int64)} {T : Nat → Int32} {n p i : Nat} {M S : Nat → Int} (F : FQ f0 f) (fs : f 54 10 = f0 54 10 ∧ f 54 11 = f0 54 11) (hc : RCP T n f p M S) (hi : i < 3) (hp : p ≤ 1000) :
    WM k_Ref_expression p_Ref_expression_5 [.ref 54, .int (nI i), .int (bt T n p), Jv, Jv] [.int (due i)] (sil h f l) 0 0 (fun v g => ∃ r, v = .int r ∧ ∃ f', g = sil h f' l ∧ RX T n i f0 f' r (bdF T n i (.ok (p, M, S)))) := by
  have ti : (nI i).toInt = (i : Int) := nI_toI (by omega)
  have t2 : (2 : Int32).toInt = 2 := rfl
  have e : bdF T n i (.ok (p, M, S)) = if bt T n p = due i then .ok (p + 1, M, S) else .error (1, p) := rfl
  rw [e]
  refine v_Ref_expression_5 _ _ _ _ _ _ ?_
  rw [ti, t2]
  refine ⟨fun w => ?_, fun w => ⟨K54, ?_⟩⟩
  · rw [if_pos w]
    refine ⟨fun i2 => ⟨K54, ?_⟩, fun i2 => ⟨_, rfl, f, rfl, F, rfl, ⟨p, hc, fun q => absurd q (by omega)⟩, fs⟩⟩
    rintro _ rfl
    rw [mi_sil, hc.2.2.1, nI_1, wi_sil]
    refine ⟨_, rfl, _, rfl, F.up (by decide), rfl, ⟨p + 1, hc.at, fun _ => rfl⟩, ?_, ?_⟩
    · rw [up2_ni (by decide)]; exact fs.1
    · rw [up2_ni (by decide)]; exact fs.2
  · rw [mi_sil, hc.2.2.1, if_neg w]
    refine SpI.mono (sp_Ref_wrong (1 : Int32) (nI p)) ?_
    rintro r g ⟨er, e⟩
    subst g er
    exact ⟨Or.inl rfl, _, rfl, _, rfl, (F.up (by decide)).up (by decide), rfl, by rw [up2_ni (by decide), up2_s]; rfl, up2_s⟩
theorem r_exprLoop {h : MH} {f0 : (Nat → Nat → Int32)} {l : (Nat → Nat → Int64)} {T : Nat → Int32} {n i : Nat} (hi : i < 3) (hn : n ≤ 100) : ∀ (d p : Nat) (f : (Nat → Nat → Int32)) (M S : Nat → Int), n - p ≤ d → p ≤ 101 → sk T n p = p → FQ f0 f → (f 54 10 = f0 54 10 ∧ f 54 11 = f0 54 11) → RCP T n f p M S → sOK S →
    WM k_Ref_expression p_Ref_expression_3 [.ref 54, .int (nI i), .int (bt T n p), Jv, Jv] [] (sil h f l) 0 0 (fun v g => ∃ r, v = .int r ∧ ∃ f', g = sil h f' l ∧ RX T n i f0 f' r (bdF T n i (exL T n i 101 p M S))) := by
  have ti : (nI i).toInt = (i : Int) := nI_toI (by omega)
  have t2 : (2 : Int32).toInt = 2 := rfl
  have stop : ∀ (p : Nat) (f : (Nat → Nat → Int32)) (M S : Nat → Int), p ≤ 101 → sk T n p = p → FQ f0 f → (f 54 10 = f0 54 10 ∧ f 54 11 = f0 54 11) → RCP T n f p M S → ¬ (bt T n p = 43 ∨ bt T n p = 45) →
      WM k_Ref_expression p_Ref_expression_3 [.ref 54, .int (nI i), .int (bt T n p), Jv, Jv] [] (sil h f l) 0 0 (fun v g => ∃ r, v = .int r ∧ ∃ f', g = sil h f' l ∧ RX T n i f0 f' r (bdF T n i (exL T n i 101 p M S))) := by
    intro p f M S hp hk F fs hc nb
    have B := r_border (h := h) (l := l) F fs hc hi (by omega)
    rw [exL_n (by rw [hk]; exact nb), hk]
    refine v_Ref_expression_3 _ _ _ _ _ ?_
    rw [ti, t2]
    refine ⟨fun w => absurd (Or.inl w) nb, fun _ => ⟨fun w => absurd (Or.inr w) nb, fun _ => ⟨fun w => ?_, fun w => ?_⟩⟩⟩
    · rw [show due i = 44 from if_pos (by omega)] at B; exact B
    · rw [show due i = -1 from if_neg (by omega)] at B; exact B
  intro d
  induction d with
  | zero =>
    intro p f M S h1 h3 hk F fs hc hS
    exact stop p f M S h3 hk F fs hc (fun q => by
      have : p < n := by rcases q with q | q <;> exact bt_ne q (by decide)
      omega)
  | succ d ih =>
    intro p f M S h1 h3 hk F fs hc hS
    by_cases w : bt T n p = 43 ∨ bt T n p = 45
    · have hp : p < n := by rcases w with q | q <;> exact bt_ne q (by decide)
      have w' : bt T n (sk T n p) = 43 ∨ bt T n (sk T n p) = 45 := by rw [hk]; exact w
      have c1 := hc.at (q := p + 1)
      have term : SpI k_Ref_term [.ref 54, .int (nI i), .int (zI (sgI (bt T n p)))] (sil h (up2 f 54 12 (nI (p + 1))) l) (fun r9 g8 => (r9 = 0 → ∃ r, Value.int 0 = .int r ∧ ∃ f', g8 = sil h f' l ∧ RX T n i f0 f' r (bdF T n i (exL T n i 101 p M S))) ∧ (¬ r9 = 0 → kd g8 54 = 13 ∧ SpI k_Ref_next [.ref 54] g8 (fun r12 g10 => WM k_Ref_expression p_Ref_expression_3 [.ref 54, .int (nI i), .int r12, Jv, Jv] [] g10 0 0 (fun v g => ∃ r, v = .int r ∧ ∃ f', g = sil h f' l ∧ RX T n i f0 f' r (bdF T n i (exL T n i 101 p M S)))))) := by
        refine SpI.mono (r_term c1 hS hn (by omega) hi (sgI_c _)) ?_
        rintro r _ ⟨f2, rfl, F2, cr⟩
        have F2' : FQ f0 f2 := (F.up (by decide)).trans F2
        cases he : tmF T n i (sgI (bt T n p)) (p + 1) M S with
        | error e =>
          rw [he] at cr
          rw [exL_e w' (by rw [hk]; exact he)]
          exact ⟨fun _ => ⟨_, rfl, f2, rfl, F2', rfl, cr.2.1, cr.2.2⟩, fun w => absurd cr.1 w⟩
        | ok u =>
          rw [he] at cr
          have b := tmF_b hi hS he
          refine ⟨fun w => by rw [cr.1] at w; exact absurd w (by decide), fun _ => ⟨K54, SpI.mono (r_next cr.2.1.2.1 cr.2.1.2.2.1 hn (by omega)) ?_⟩⟩
          rw [cr.2.1.1]
          rintro r g ⟨er, e⟩
          subst g er
          rw [exL_o hi hn hS w' (by rw [hk]; exact he), ← exL_sk]
          have g2 := sk_ge (T := T) (n := n) u.1
          refine ih (sk T n u.1) _ _ _ (by omega) (sk_le u.1 (by omega) (by omega)) (sk_sk _) (F2'.up (by decide)) ⟨?_, ?_⟩ cr.2.1.at b.2.2
          · rw [up2_ni (by decide), cr.2.2.1, up2_ni (by decide)]; exact fs.1
          · rw [up2_ni (by decide), cr.2.2.2, up2_ni (by decide)]; exact fs.2
      have four : WM k_Ref_expression p_Ref_expression_4 [.ref 54, .int (nI i), .int (bt T n p), Jv, Jv] [] (sil h f l) 0 0 (fun v g => ∃ r, v = .int r ∧ ∃ f', g = sil h f' l ∧ RX T n i f0 f' r (bdF T n i (exL T n i 101 p M S))) := by
        refine v_Ref_expression_4 _ _ _ _ _ ⟨K54, ?_⟩
        rintro _ rfl
        rw [mi_sil, hc.2.2.1, nI_1, wi_sil]
        refine ⟨fun q => ?_, fun q => ?_⟩
        · have t := term
          rw [show sgI (bt T n p) = -1 from if_pos q] at t
          exact t
        · have t := term
          rw [show sgI (bt T n p) = 1 from if_neg q] at t
          exact t
      exact v_Ref_expression_3 _ _ _ _ _ ⟨fun _ => four, fun n1 => ⟨fun _ => four, fun n2 => by rcases w with q | q; exact absurd q n1; exact absurd q n2⟩⟩
    · exact stop p f M S h3 hk F fs hc w
theorem r_expression {h : MH} {f : (Nat → Nat → Int32)} {l : (Nat → Nat → Int64)} {T : Nat → Int32} {n p i : Nat} {M S : Nat → Int} (hc : RCP T n f p M S) (hS : sOK S) (hn : n ≤ 100) (hp : p ≤ 101) (hi : i < 3) :
    SpI k_Ref_expression [.ref 54, .int (nI i)] (sil h f l) (fun r g => ∃ f', g = sil h f' l ∧ RX T n i f f' r (exB T n i p M S)) := by
  refine v_Ref_expression _ _ _ _ ⟨K54, SpI.mono (r_next hc.2.1 hc.2.2.1 hn (by omega)) ?_⟩
  rw [hc.1]
  rintro r g ⟨er, e⟩
  subst g er
  have g0 : sk T n p ≤ 101 := sk_le p (by omega) hp
  have c0 := hc.at (q := sk T n p)
  have go : ∀ (s : Int) (q : Nat) (f1 : (Nat → Nat → Int32)), (s = 1 ∨ s = -1) → q ≤ 101 → FQ f f1 → (f1 54 10 = f 54 10 ∧ f1 54 11 = f 54 11) → RCP T n f1 q M S → exN T n i p M S = (match tmF T n i s q M S with | .error e => .error e | .ok r => exL T n i 101 r.1 r.2.1 r.2.2) →
      SpI k_Ref_term [.ref 54, .int (nI i), .int (zI s)] (sil h f1 l) (fun r3 g1 => (r3 = 0 → ∃ r, Value.int 0 = .int r ∧ ∃ f', g1 = sil h f' l ∧ RX T n i f f' r (exB T n i p M S)) ∧ (¬ r3 = 0 → kd g1 54 = 13 ∧ SpI k_Ref_next [.ref 54] g1 (fun r6 g4 => WM k_Ref_expression p_Ref_expression_3 [.ref 54, .int (nI i), .int r6, Jv, Jv] [] g4 0 0 (fun v g => ∃ r, v = .int r ∧ ∃ f', g = sil h f' l ∧ RX T n i f f' r (exB T n i p M S))))) := by
    intro s q f1 hs hq F1 fs c1 spec
    unfold exB
    rw [spec]
    refine SpI.mono (r_term c1 hS hn hq hi hs) ?_
    rintro r _ ⟨f2, rfl, F2, cr⟩
    have F2' := F1.trans F2
    cases he : tmF T n i s q M S with
    | error e =>
      rw [he] at cr
      exact ⟨fun _ => ⟨_, rfl, f2, rfl, F2', rfl, cr.2.1, cr.2.2⟩, fun w => absurd cr.1 w⟩
    | ok u =>
      rw [he] at cr
      have b := tmF_b hi hS he
      refine ⟨fun w => by rw [cr.1] at w; exact absurd w (by decide), fun _ => ⟨K54, SpI.mono (r_next cr.2.1.2.1 cr.2.1.2.2.1 hn (by omega)) ?_⟩⟩
      rw [cr.2.1.1]
      rintro r g ⟨er, e⟩
      subst g er
      show WM _ _ _ _ _ _ _ (fun v g => ∃ r, v = .int r ∧ ∃ f', g = sil h f' l ∧ RX T n i f f' r (bdF T n i (exL T n i 101 u.1 u.2.1 u.2.2)))
      rw [← exL_sk]
      refine r_exprLoop hi hn 100 (sk T n u.1) _ _ _ (by omega) (sk_le u.1 (by omega) (by omega)) (sk_sk _) (F2'.up (by decide)) ⟨?_, ?_⟩ cr.2.1.at b.2.2
      · rw [up2_ni (by decide), cr.2.2.1]; exact fs.1
      · rw [up2_ni (by decide), cr.2.2.2]; exact fs.2
  have two : ∀ (q : Nat) (f1 : (Nat → Nat → Int32)), q ≤ 101 → FQ f f1 → (f1 54 10 = f 54 10 ∧ f1 54 11 = f 54 11) → RCP T n f1 q M S → exN T n i p M S = (match tmF T n i (sgI (bt T n (sk T n p))) q M S with | .error e => .error e | .ok r => exL T n i 101 r.1 r.2.1 r.2.2) →
      WM k_Ref_expression p_Ref_expression_2 [.ref 54, .int (nI i), .int (bt T n (sk T n p)), Jv, Jv] [] (sil h f1 l) 0 0 (fun v g => ∃ r, v = .int r ∧ ∃ f', g = sil h f' l ∧ RX T n i f f' r (exB T n i p M S)) := by
    intro q f1 hq F1 fs c1 spec
    have t := go _ q f1 (sgI_c _) hq F1 fs c1 spec
    refine v_Ref_expression_2 _ _ _ _ _ ⟨fun w => ⟨K54, ?_⟩, fun w => ⟨K54, ?_⟩⟩
    · rw [show sgI (bt T n (sk T n p)) = -1 from if_pos w] at t; exact t
    · rw [show sgI (bt T n (sk T n p)) = 1 from if_neg w] at t; exact t
  have F0 : FQ f (up2 f 54 12 (nI (sk T n p))) := FQ.refl.up (by decide)
  have fs0 : up2 f 54 12 (nI (sk T n p)) 54 10 = f 54 10 ∧ up2 f 54 12 (nI (sk T n p)) 54 11 = f 54 11 := ⟨up2_ni (by decide), up2_ni (by decide)⟩
  have sgn1 : (bt T n (sk T n p) = 43 ∨ bt T n (sk T n p) = 45) → WM k_Ref_expression p_Ref_expression_1 [.ref 54, .int (nI i), .int (bt T n (sk T n p)), Jv, Jv] [.int (1 : Int32)] (sil h (up2 f 54 12 (nI (sk T n p))) l) 0 0 (fun v g => ∃ r, v = .int r ∧ ∃ f', g = sil h f' l ∧ RX T n i f f' r (exB T n i p M S)) := by
    intro w
    have hpn : sk T n p < n := by rcases w with q | q <;> exact bt_ne q (by decide)
    refine v_Ref_expression_1 _ _ _ _ _ _ ⟨fun q => absurd q (by decide), fun _ => ⟨K54, ?_⟩⟩
    rintro _ rfl
    rw [mi_sil, up2_s, nI_1, wi_sil, up2_same]
    refine two (sk T n p + 1) _ (by omega) (FQ.refl.up (by decide)) ⟨up2_ni (by decide), up2_ni (by decide)⟩ hc.at ?_
    unfold exN sgI
    rw [if_pos w]
    cases tmF T n i (if bt T n (sk T n p) = 45 then -1 else 1) (sk T n p + 1) M S <;> rfl
  refine ⟨fun w => sgn1 (Or.inl w), fun n1 => ⟨fun w => sgn1 (Or.inr w), fun n2 => ?_⟩⟩
  refine v_Ref_expression_1 _ _ _ _ _ _ ⟨fun _ => ?_, fun q => absurd rfl q⟩
  refine two (sk T n p) _ g0 F0 fs0 c0 ?_
  unfold exN sgI
  rw [if_neg n2, if_neg (show ¬ (bt T n (sk T n p) = 43 ∨ bt T n (sk T n p) = 45) from fun q => q.elim n1 n2)]
  cases tmF T n i 1 (sk T n p) M S <;> rfl
/-- the reference's read, up to what is told -/
def ReadEnd (f f' : (Nat → Nat → Int32)) (T : Nat) (r : Int32) (res : Except (Nat × Nat) Nat) : Prop := match res with
  | .error e => r = zI (-1) ∧ FQ f f' ∧ f' 54 9 = nI 0 ∧ f' 54 10 = nI e.1 ∧ f' 54 11 = nI e.2
  | .ok c => if T = 40 then r = zI (-1) ∧ FQ f f' ∧ f' 54 9 = nI 0 ∧ f' 54 10 = nI 5 ∧ f' 54 11 = zI (-1) else r = nI T ∧ ∃ f1, FQ f f1 ∧ f1 54 9 = nI 0 ∧ f1 54 10 = nI 0 ∧ f1 54 11 = zI (-1) ∧ f' = tellF f1 T c
theorem sp_Ref_read {h : MH} {f : (Nat → Nat → Int32)} {l : (Nat → Nat → Int64)} {n T : Nat} (h2 : f 54 9 = nI n) (hn : n ≤ 100) (hT : f 54 1 = nI T) (h40 : T ≤ 40) : SpI k_Ref_read [.ref 54] (sil h f l) (fun r g => ∃ f', g = sil h f' l ∧ ReadEnd f f' T r (rdC (f 62) n)) := by
  refine v_Ref_read _ _ _ ⟨K54, ?_⟩
  rintro _ rfl
  rintro _ rfl
  rintro _ rfl
  rw [wi_sil, wi_sil, wi_sil]
  have F0 : FQ f (up2 (up2 (up2 f 54 10 0) 54 11 (-1)) 54 12 0) := ((FQ.refl.up (by decide)).up (by decide)).up (by decide)
  have g9 : up2 (up2 (up2 f 54 10 0) 54 11 (-1)) 54 12 0 54 9 = nI n := by rw [up2_ni (by decide), up2_ni (by decide), up2_ni (by decide)]; exact h2
  have g12 : up2 (up2 (up2 f 54 10 0) 54 11 (-1)) 54 12 0 54 12 = nI 0 := by rw [up2_s]; rfl
  have g10 : up2 (up2 (up2 f 54 10 0) 54 11 (-1)) 54 12 0 54 10 = nI 0 := by rw [up2_ni (by decide), up2_ni (by decide), up2_s]; rfl
  have g11 : up2 (up2 (up2 f 54 10 0) 54 11 (-1)) 54 12 0 54 11 = zI (-1) := by rw [up2_ni (by decide), up2_s]; rfl
  generalize up2 (up2 (up2 f 54 10 0) 54 11 (-1)) 54 12 0 = f1 at *
  refine up_ind 9 (fun i (f2 : (Nat → Nat → Int32)) => FQ f f2 ∧ f2 54 = f1 54 ∧ ∀ j, j < i → f2 95 j = zI 0) (fun i f2 => WM k_Ref_read p_Ref_read_1 [.ref 54, .int (nI i), Jv, Jv, Jv] [] (sil h f2 l) 0 0 _) ?_ ?_ 0 f1 (by decide) ⟨F0, rfl, fun j hj => absurd hj (Nat.not_lt_zero j)⟩
  · rintro i f2 hi ⟨i1, i2, i3⟩ ih
    refine v_Ref_read_1 _ _ _ _ ?_
    simp (disch := omega) only [↓(show (-1 : Int32) = zI (-1) from rfl), (show (0 : Int32) = nI 0 from rfl), (show (1 : Int32) = nI 1 from rfl), (show (2 : Int32) = nI 2 from rfl), (show (3 : Int32) = nI 3 from rfl), (show (4 : Int32) = nI 4 from rfl), (show (5 : Int32) = nI 5 from rfl), (show (9 : Int32) = nI 9 from rfl), (show (40 : Int32) = nI 40 from rfl), nI_add, nI_mul, nI_1, ix_nI, nI_toI, div_nI, irm_nI, InB_t, zI_add, zI_sub, zI_mul, zI_neg, nI_addZ, zI_addN, nI_mulZ, zI_mulN, nI_subZ, zI_subN, zI_toI, Int.cast_ofNat_Int, mi_sil, ml_sil, hn_sil, wi_sil, wl_sil, up2_ne, up2_s, true_and, and_true, forall_eq, true_implies, implies_true, forall_const, ne_eq, Int.reduceLT, Int.reduceLE, Int.reduceEq, Int.reduceAdd, Int.reduceSub, Int.reduceMul, Int.reduceNeg, Nat.reduceAdd, Nat.reduceMul, Nat.reduceSub, Nat.reduceDiv, Nat.reduceMod, Nat.add_zero, Nat.zero_add, Nat.mul_zero, not_true_eq_false, not_false_eq_true, false_implies, Nat.reduceEqDiff, nI_subN, Int.natCast_add, Int.natCast_mul, K54, R54_59, K95, L95, R54_60, K96, L96]
    refine ⟨fun _ => ih _ ⟨i1.up5, by rw [up2_row (by decide)]; exact i2, fun j hj => ?_⟩, fun c => absurd (by omega) c⟩
    by_cases ej : j = i
    · subst ej; rw [up2_s]; rfl
    · rw [up2_ni ej]; exact i3 j (by omega)
  · rintro f2 ⟨i1, i2, i3⟩
    refine v_Ref_read_1 _ _ _ _ ⟨fun c => absurd c (by decide), fun _ => ?_⟩
    refine up_ind 3 (fun i (f3 : (Nat → Nat → Int32)) => FQ f f3 ∧ f3 54 = f1 54 ∧ (∀ j, j < 9 → f3 95 j = zI 0) ∧ ∀ j, j < i → f3 96 j = zI 0) (fun i f3 => WM k_Ref_read p_Ref_read_2 [.ref 54, .int (nI i), Jv, Jv, Jv] [] (sil h f3 l) 0 0 _) ?_ ?_ 0 f2 (by decide) ⟨i1, i2, i3, fun j hj => absurd hj (Nat.not_lt_zero j)⟩
    · rintro i f3 hi ⟨j1, j2, j3, j4⟩ ih
      refine v_Ref_read_2 _ _ _ _ ⟨fun _ => ⟨K54, ?_⟩, fun c => absurd (by rw [nI_toI (by omega)]; show (i : Int) < 3; omega) c⟩
      rw [R54_60, ix_nI (by omega), nI_1]
      refine ⟨K96, InB_nI (show i < 3 from hi) (by omega), ?_⟩
      rintro _ rfl
      rw [wi_sil]
      refine ih _ ⟨j1.up6, by rw [up2_row (by decide)]; exact j2, fun j hj => by rw [up2_ne (by decide)]; exact j3 j hj, fun j hj => ?_⟩
      by_cases ej : j = i
      · subst ej; rw [up2_s]; rfl
      · rw [up2_ni ej]; exact j4 j (by omega)
    · rintro f3 ⟨j1, j2, j3, j4⟩
      have T3 : f3 62 = f 62 := j1.1 62 (by decide)
      have c0 : RCP (f 62) n f3 0 (fun _ => 0) (fun _ => 0) := ⟨T3, by rw [j2]; exact g9, by rw [j2]; exact g12, j3, j4⟩
      have k10 : f3 54 10 = nI 0 := by rw [j2]; exact g10
      have k11 : f3 54 11 = zI (-1) := by rw [j2]; exact g11
      have S0 : sOK (fun _ => 0) := fun j _ => ⟨Int.le_refl 0, show (0 : Int) < 24 by decide⟩
      have M0 : MBd (fun _ => 0) 0 := fun j => ⟨show -((0 : Nat) : Int) ≤ 0 by decide, show (0 : Int) ≤ ((0 : Nat) : Int) by decide⟩
      have bad : ∀ (f4 : (Nat → Nat → Int32)) (e : Nat × Nat), FQ f f4 → f4 54 10 = nI e.1 ∧ f4 54 11 = nI e.2 → rdC (f 62) n = .error e → WM k_Ref_read p_Ref_read_3 [.ref 54, Jv, Jv, Jv, Jv] [.int (0 : Int32)] (sil h f4 l) 0 0 (fun v g => ∃ r, v = .int r ∧ ∃ f', g = sil h f' l ∧ ReadEnd f f' T r (rdC (f 62) n)) := by
        intro f4 e F4 he hr
        refine v_Ref_read_3 _ _ _ _ ⟨K54, ?_⟩
        rintro _ rfl
        rw [wi_sil, hr]
        exact ⟨fun _ => ⟨_, rfl, _, rfl, rfl, F4.up (by decide), up2_s, by rw [up2_ni (by decide)]; exact he.1, by rw [up2_ni (by decide)]; exact he.2⟩, fun w => absurd rfl w⟩
      refine v_Ref_read_2 _ _ _ _ ⟨fun c => absurd c (by decide), fun _ => ⟨K54, SpI.mono (r_expression (i := 0) c0 S0 hn (by decide) (by decide)) ?_⟩⟩
      rintro r _ ⟨f4, rfl, F4, cr4⟩
      have F4' := j1.trans F4
      cases h0 : exB (f 62) n 0 0 (fun _ => 0) (fun _ => 0) with
      | error e =>
        rw [h0] at cr4
        exact ⟨fun _ => bad f4 e F4' cr4.2 (rdC_e (rdF_0 h0)), fun w => absurd cr4.1 w⟩
      | ok r0 =>
        rw [h0] at cr4
        have b0 := exB_b (by decide) hn (by decide) M0 S0 h0
        obtain ⟨e1, ⟨p4, c4, ep⟩, k4⟩ := cr4
        have ep := ep (by decide)
        subst ep
        refine ⟨fun w => by rw [e1] at w; exact absurd w (by decide), fun _ => ⟨K54, SpI.mono (r_expression (i := 1) c4 b0.2.2.2 hn (b0.1 (by decide)) (by decide)) ?_⟩⟩
        rintro r _ ⟨f5, rfl, F5, cr5⟩
        have F5' := F4'.trans F5
        cases h1 : exB (f 62) n 1 r0.1 r0.2.1 r0.2.2 with
        | error e =>
          rw [h1] at cr5
          exact ⟨fun _ => bad f5 e F5' cr5.2 (rdC_e (rdF_1 h0 h1)), fun w => absurd cr5.1 w⟩
        | ok r1 =>
          rw [h1] at cr5
          have b1 := exB_b (by decide) hn (b0.1 (by decide)) b0.2.2.1 b0.2.2.2 h1
          obtain ⟨e2, ⟨p5, c5, ep⟩, k5⟩ := cr5
          have ep := ep (by decide)
          subst ep
          refine ⟨fun w => by rw [e2] at w; exact absurd w (by decide), fun _ => ⟨K54, SpI.mono (r_expression (i := 2) c5 b1.2.2.2 hn (b1.1 (by decide)) (by decide)) ?_⟩⟩
          rintro r _ ⟨f6, rfl, F6, cr6⟩
          have F6' := F5'.trans F6
          cases h3 : exB (f 62) n 2 r1.1 r1.2.1 r1.2.2 with
          | error e =>
            rw [h3] at cr6
            exact ⟨fun _ => bad f6 e F6' cr6.2 (rdC_e ((rdF_2 h0 h1).trans h3)), fun w => absurd cr6.1 w⟩
          | ok r2 =>
            rw [h3] at cr6
            have b2 := exB_b (by decide) hn (b1.1 (by decide)) b1.2.2.1 b1.2.2.2 h3
            obtain ⟨e3, ⟨p6, c6, _⟩, k6⟩ := cr6
            refine ⟨fun w => by rw [e3] at w; exact absurd w (by decide), fun _ => ?_⟩
            have mA : MatAt f6 95 r2.2.1 := b2.2.2.1.mat (by omega) c6.2.2.2.1
            have sA : ShAt f6 96 r2.2.2 := b2.2.2.2.sh c6.2.2.2.2
            have q10 : f6 54 10 = nI 0 := by rw [k6.1, k5.1, k4.1]; exact k10
            have q11 : f6 54 11 = zI (-1) := by rw [k6.2, k5.2, k4.2]; exact k11
            have qT : f6 54 1 = nI T := by rw [F6'.2 1 (by decide) (by decide) (by decide) (by decide)]; exact hT
            have EQ := rdC_o ((rdF_2 h0 h1).trans h3)
            have F7 : FQ f (up2 f6 54 9 0) := F6'.up (by decide)
            have m2 : MatAt (up2 f6 54 9 0) 95 r2.2.1 := fun j hj => by rw [up2_ne (by decide)]; exact mA j hj
            have s2 : ShAt (up2 f6 54 9 0) 96 r2.2.2 := fun j hj => by rw [up2_ne (by decide)]; exact sA j hj
            refine v_Ref_read_3 _ _ _ _ ⟨K54, ?_⟩
            rintro _ rfl
            rw [wi_sil]
            refine ⟨fun w => absurd w (by decide), fun _ => ?_⟩
            rw [R54_59, R54_60]
            refine SpI.mono (sp_Ref_closed (h := sil h (up2 f6 54 9 0) l) (a := 95) (b := 96) rfl rfl rfl rfl m2 s2) ?_
            rintro rc g ⟨e, hrc⟩
            subst g
            rw [R54_59]
            refine ⟨K54, SpI.mono (sp_Ref_determinant (h := sil h (up2 f6 54 9 0) l) (a := 95) rfl rfl m2) ?_⟩
            rintro rd g ⟨e, erd⟩
            subst g erd
            have q9 : mi (sil h f6 l) 54 9 = nI n := c6.2.1
            rw [q9]
            rcases hrc with ⟨sm, er⟩ | ⟨sm, er⟩
            · have rg := enc_rng sm b2.2.2.2
              have ec : rc = nI (enc r2.2.1 r2.2.2).toNat := by
                rw [er, ← zI_nat]
                congr 1
                omega
              rw [if_pos sm] at EQ
              have ab := det9_ab sm
              have a1 := ab.lo
              have a2 := ab.hi
              have d1 : (zI (det9 r2.2.1) = (1 : Int32)) = (det9 r2.2.1 = 1) := zI_inj (y := 1) (by omega) (by omega) (by decide) (by decide)
              have d2 : (zI (det9 r2.2.1) = (-1 : Int32)) = (det9 r2.2.1 = -1) := zI_inj (y := -1) (by omega) (by omega) (by decide) (by decide)
              have nm : ¬ rc = -1 := by
                rw [er]
                intro q
                have := (zI_inj (x := enc r2.2.1 r2.2.2) (y := -1) (by omega) (by omega) (by decide) (by decide)).mp (show _ = zI (-1) from q)
                omega
              rw [d1, d2]
              have four : (det9 r2.2.1 = 1 ∨ det9 r2.2.1 = -1) → WM k_Ref_read p_Ref_read_4 [.ref 54, .int (1 : Int32), Jv, .int rc, Jv] [] (sil h (up2 f6 54 9 0) l) 0 0 (fun v g => ∃ r, v = .int r ∧ ∃ f', g = sil h f' l ∧ ReadEnd f f' T r (rdC (f 62) n)) := by
                intro hd
                rw [if_pos hd] at EQ
                rw [EQ]
                have qT' : up2 f6 54 9 0 54 1 = nI T := by rw [up2_ni (by decide)]; exact qT
                have e40 : (nI T = (40 : Int32)) = (T = 40) := nI_inj (y := 40) (by omega) (by decide)
                refine v_Ref_read_4 _ _ _ _ _ ⟨K54, ?_⟩
                rw [mi_sil, qT', e40]
                refine ⟨fun t => SpI.mono (sp_Ref_wrong (5 : Int32) (-1)) ?_, fun t => ⟨fun w => absurd w (by decide), fun _ => ?_⟩⟩
                · rintro rw_ g ⟨e1, e2⟩
                  subst g e1
                  refine ⟨fun _ => ⟨_, rfl, _, rfl, ?_⟩, fun w => absurd rfl w⟩
                  show if T = 40 then _ else _
                  rw [if_pos t]
                  refine ⟨rfl, (F7.up (by decide)).up (by decide), ?_, ?_, ?_⟩
                  · rw [up2_ni (by decide), up2_ni (by decide), up2_s]; rfl
                  · rw [up2_ni (by decide), up2_s]; rfl
                  · rw [up2_s]; rfl
                · rw [ec]
                  refine SpI.mono (sp_Ref_told0 qT' (by omega)) ?_
                  rintro rr g ⟨e1, e2⟩
                  subst g
                  refine ⟨_, rfl, _, rfl, ?_⟩
                  show if T = 40 then _ else _
                  rw [if_neg t]
                  refine ⟨e1, _, F7, ?_, ?_, ?_, rfl⟩
                  · rw [up2_s]; rfl
                  · rw [up2_ni (by decide)]; exact q10
                  · rw [up2_ni (by decide)]; exact q11
              refine ⟨fun w => absurd w nm, fun _ => ⟨fun w => four (Or.inl w), fun n1 => ⟨fun w => four (Or.inr w), fun n2 => ⟨K54, ?_⟩⟩⟩⟩
              rw [if_neg (fun q => by rcases q with q | q; exact n1 q; exact n2 q)] at EQ
              rw [EQ]
              refine SpI.mono (sp_Ref_wrong (4 : Int32) (nI n)) ?_
              rintro rr g ⟨e1, e2⟩
              subst g e1
              refine ⟨fun _ => ⟨_, rfl, _, rfl, rfl, (F7.up (by decide)).up (by decide), ?_, ?_, up2_s⟩, fun w => absurd rfl w⟩
              · rw [up2_ni (by decide), up2_ni (by decide), up2_s]; rfl
              · rw [up2_ni (by decide), up2_s]; rfl
            · rw [if_neg sm] at EQ
              rw [EQ]
              refine ⟨fun _ => ⟨K54, SpI.mono (sp_Ref_wrong (3 : Int32) (nI n)) ?_⟩, fun w => absurd (by rw [er]; rfl) w⟩
              rintro rr g ⟨e1, e2⟩
              subst g e1
              refine ⟨fun _ => ⟨_, rfl, _, rfl, rfl, (F7.up (by decide)).up (by decide), ?_, ?_, up2_s⟩, fun w => absurd rfl w⟩
              · rw [up2_ni (by decide), up2_ni (by decide), up2_s]; rfl
              · rw [up2_ni (by decide), up2_s]; rfl
