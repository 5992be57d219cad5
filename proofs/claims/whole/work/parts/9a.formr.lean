/-! the class's forms: lessening, reduction -/
def FoB (h : MH) (l : (Nat → Nat → Int64)) (a : Nat) (t : S6) (c : Prop) (F : S6) (b : Int32) (g : MH) : Prop := (b = 1 ∧ c ∧ FoP h l a F g) ∨ (b = 0 ∧ ¬ c ∧ FoP h l a t g)
theorem sg_pos {v : Int} (h : 0 < v) : sg v = 1 := if_neg (by omega)
theorem sg_neg {v : Int} (h : ¬ 0 < v) (n : v ≠ 0) : sg v = -1 := if_pos (by omega)
theorem fo_lessenX {h : MH} {a : Nat} (hk : kd h a = 3) {l : (Nat → Nat → Int64)} {t : S6} (hB : BB t) (hp : OKs t) (ft : FoAt l a t) : SpI k_Form_lessenX [.ref a] (sl h l) (fun b g => FoB h l a t (cx t) (xF t) b g) := by
  have bd := PD.bd hp
  obtain ⟨p, q, r, x, y, z⟩ := t
  obtain ⟨⟨a1, a2⟩, ⟨b1, b2⟩, ⟨d1, d2⟩, ⟨x1, x2⟩, ⟨y1, y2⟩, ⟨z1, z2⟩⟩ := hB
  have ft0 := ft
  obtain ⟨s0, s1, s2, s3, s4, s5⟩ := ft
  have bx := sz_c x
  have q0 : 0 < q := bd.1.2.1
  have fin : ∀ s : Int, s = sg x → cx (p, q, r, x, y, z) → WM k_Form_lessenX p_Form_lessenX_2 [.ref a, Jv, Jv] [.long (zL s)] (sl h l) 0 0 (fun v g => ∃ b, v = .int b ∧ FoB h l a (p, q, r, x, y, z) (cx (p, q, r, x, y, z)) (xF (p, q, r, x, y, z)) b g) := fun s es c => by
    refine v_Form_lessenX_2 _ _ _ _ ⟨hk, ?_⟩
    rw [sl_ml, s0, s1, s2, s3, s4, s5, j2]
    simp only [zL_add, zL_sub, zL_mul]
    subst es
    exact SpV.mono (fo_set hk _ _ _ _ _ _) (fun g w => ⟨_, rfl, Or.inl ⟨rfl, c, w⟩⟩)
  have sgn : cx (p, q, r, x, y, z) → (0 < x → WM k_Form_lessenX p_Form_lessenX_2 [.ref a, Jv, Jv] [.long (1 : Int64)] (sl h l) 0 0 (fun v g => ∃ b, v = .int b ∧ FoB h l a (p, q, r, x, y, z) (cx (p, q, r, x, y, z)) (xF (p, q, r, x, y, z)) b g)) ∧ (¬ 0 < x → WM k_Form_lessenX p_Form_lessenX_2 [.ref a, Jv, Jv] [.long (-1 : Int64)] (sl h l) 0 0 (fun v g => ∃ b, v = .int b ∧ FoB h l a (p, q, r, x, y, z) (cx (p, q, r, x, y, z)) (xF (p, q, r, x, y, z)) b g)) := fun c =>
    ⟨fun w => fin 1 (sg_pos w).symm c, fun w => by
      rw [jm]
      exact fin (-1) (sg_neg w (fun e => by
        rcases c with v | v | v
        · have v : q < sz x := v
          omega
        · omega
        · omega)).symm c⟩
  have no : ¬ cx (p, q, r, x, y, z) → ∃ b, Value.int 0 = .int b ∧ FoB h l a (p, q, r, x, y, z) (cx (p, q, r, x, y, z)) (xF (p, q, r, x, y, z)) b (sl h l) := fun c => ⟨_, rfl, Or.inr ⟨rfl, c, l, rfl, Fr.refl, ft0⟩⟩
  have one : ¬ q < sz x → ¬ (x = q ∧ 2 * y < z) → WM k_Form_lessenX p_Form_lessenX_1 [.ref a, Jv, Jv] [] (sl h l) 0 0 (fun v g => ∃ b, v = .int b ∧ FoB h l a (p, q, r, x, y, z) (cx (p, q, r, x, y, z)) (xF (p, q, r, x, y, z)) b g) := fun n1 n2 => by
    refine v_Form_lessenX_1 _ _ _ ⟨hk, ?_⟩
    rw [sl_ml, s1, s3, s5, zL_neg, j0, lz_eq (by omega) (by omega) (by omega) (by omega), lz_lt (by omega) (by omega) (by omega) (by omega), lz_gt (by omega) (by omega) (by omega) (by omega)]
    exact ⟨fun w1 => ⟨fun w2 => sgn (Or.inr (Or.inr ⟨w1, w2⟩)), fun w2 => no (fun w => by rcases w with w | w | w; exact n1 w; exact n2 w; exact w2 w.2)⟩, fun w1 => no (fun w => by rcases w with w | w | w; exact n1 w; exact n2 w; exact w1 w.1)⟩
  refine v_Form_lessenX _ _ _ ⟨hk, ?_⟩
  rw [sl_ml, s3]
  refine SpL.mono (abs_z (by omega) (by omega)) ?_
  rintro _ _ ⟨rfl, rfl⟩
  refine ⟨hk, ?_⟩
  rw [sl_ml, s1, s3, s4, s5, j0, j2, zL_mul, lz_gt (by omega) (by omega) (by omega) (by omega), lz_eq (by omega) (by omega) (by omega) (by omega), lz_lt (by omega) (by omega) (by omega) (by omega), lz_gt (by omega) (by omega) (by omega) (by omega)]
  exact ⟨fun w => sgn (Or.inl w), fun n1 => ⟨fun w1 => ⟨fun w2 => sgn (Or.inr (Or.inl ⟨w1, w2⟩)), fun w2 => one n1 (fun w => w2 w.2)⟩, fun w1 => one n1 (fun w => w1 w.1)⟩⟩
theorem fo_lessenY {h : MH} {a : Nat} (hk : kd h a = 3) {l : (Nat → Nat → Int64)} {t : S6} (hB : BB t) (hp : OKs t) (ft : FoAt l a t) : SpI k_Form_lessenY [.ref a] (sl h l) (fun b g => FoB h l a t (cy t) (yF t) b g) := by
  have bd := PD.bd hp
  obtain ⟨p, q, r, x, y, z⟩ := t
  obtain ⟨⟨a1, a2⟩, ⟨b1, b2⟩, ⟨d1, d2⟩, ⟨x1, x2⟩, ⟨y1, y2⟩, ⟨z1, z2⟩⟩ := hB
  have ft0 := ft
  obtain ⟨s0, s1, s2, s3, s4, s5⟩ := ft
  have bx := sz_c y
  have q0 : 0 < p := bd.1.1
  have fin : ∀ s : Int, s = sg y → cy (p, q, r, x, y, z) → WM k_Form_lessenY p_Form_lessenY_2 [.ref a, Jv, Jv] [.long (zL s)] (sl h l) 0 0 (fun v g => ∃ b, v = .int b ∧ FoB h l a (p, q, r, x, y, z) (cy (p, q, r, x, y, z)) (yF (p, q, r, x, y, z)) b g) := fun s es c => by
    refine v_Form_lessenY_2 _ _ _ _ ⟨hk, ?_⟩
    rw [sl_ml, s0, s1, s2, s3, s4, s5, j2]
    simp only [zL_add, zL_sub, zL_mul]
    subst es
    exact SpV.mono (fo_set hk _ _ _ _ _ _) (fun g w => ⟨_, rfl, Or.inl ⟨rfl, c, w⟩⟩)
  have sgn : cy (p, q, r, x, y, z) → (0 < y → WM k_Form_lessenY p_Form_lessenY_2 [.ref a, Jv, Jv] [.long (1 : Int64)] (sl h l) 0 0 (fun v g => ∃ b, v = .int b ∧ FoB h l a (p, q, r, x, y, z) (cy (p, q, r, x, y, z)) (yF (p, q, r, x, y, z)) b g)) ∧ (¬ 0 < y → WM k_Form_lessenY p_Form_lessenY_2 [.ref a, Jv, Jv] [.long (-1 : Int64)] (sl h l) 0 0 (fun v g => ∃ b, v = .int b ∧ FoB h l a (p, q, r, x, y, z) (cy (p, q, r, x, y, z)) (yF (p, q, r, x, y, z)) b g)) := fun c =>
    ⟨fun w => fin 1 (sg_pos w).symm c, fun w => by
      rw [jm]
      exact fin (-1) (sg_neg w (fun e => by
        rcases c with v | v | v
        · have v : p < sz y := v
          omega
        · omega
        · omega)).symm c⟩
  have no : ¬ cy (p, q, r, x, y, z) → ∃ b, Value.int 0 = .int b ∧ FoB h l a (p, q, r, x, y, z) (cy (p, q, r, x, y, z)) (yF (p, q, r, x, y, z)) b (sl h l) := fun c => ⟨_, rfl, Or.inr ⟨rfl, c, l, rfl, Fr.refl, ft0⟩⟩
  have one : ¬ p < sz y → ¬ (y = p ∧ 2 * x < z) → WM k_Form_lessenY p_Form_lessenY_1 [.ref a, Jv, Jv] [] (sl h l) 0 0 (fun v g => ∃ b, v = .int b ∧ FoB h l a (p, q, r, x, y, z) (cy (p, q, r, x, y, z)) (yF (p, q, r, x, y, z)) b g) := fun n1 n2 => by
    refine v_Form_lessenY_1 _ _ _ ⟨hk, ?_⟩
    rw [sl_ml, s0, s4, s5, zL_neg, j0, lz_eq (by omega) (by omega) (by omega) (by omega), lz_lt (by omega) (by omega) (by omega) (by omega), lz_gt (by omega) (by omega) (by omega) (by omega)]
    exact ⟨fun w1 => ⟨fun w2 => sgn (Or.inr (Or.inr ⟨w1, w2⟩)), fun w2 => no (fun w => by rcases w with w | w | w; exact n1 w; exact n2 w; exact w2 w.2)⟩, fun w1 => no (fun w => by rcases w with w | w | w; exact n1 w; exact n2 w; exact w1 w.1)⟩
  refine v_Form_lessenY _ _ _ ⟨hk, ?_⟩
  rw [sl_ml, s4]
  refine SpL.mono (abs_z (by omega) (by omega)) ?_
  rintro _ _ ⟨rfl, rfl⟩
  refine ⟨hk, ?_⟩
  rw [sl_ml, s0, s3, s4, s5, j0, j2, zL_mul, lz_gt (by omega) (by omega) (by omega) (by omega), lz_eq (by omega) (by omega) (by omega) (by omega), lz_lt (by omega) (by omega) (by omega) (by omega), lz_gt (by omega) (by omega) (by omega) (by omega)]
  exact ⟨fun w => sgn (Or.inl w), fun n1 => ⟨fun w1 => ⟨fun w2 => sgn (Or.inr (Or.inl ⟨w1, w2⟩)), fun w2 => one n1 (fun w => w2 w.2)⟩, fun w1 => one n1 (fun w => w1 w.1)⟩⟩
theorem fo_lessenZ {h : MH} {a : Nat} (hk : kd h a = 3) {l : (Nat → Nat → Int64)} {t : S6} (hB : BB t) (hp : OKs t) (ft : FoAt l a t) : SpI k_Form_lessenZ [.ref a] (sl h l) (fun b g => FoB h l a t (cz t) (zF t) b g) := by
  have bd := PD.bd hp
  obtain ⟨p, q, r, x, y, z⟩ := t
  obtain ⟨⟨a1, a2⟩, ⟨b1, b2⟩, ⟨d1, d2⟩, ⟨x1, x2⟩, ⟨y1, y2⟩, ⟨z1, z2⟩⟩ := hB
  have ft0 := ft
  obtain ⟨s0, s1, s2, s3, s4, s5⟩ := ft
  have bx := sz_c z
  have q0 : 0 < p := bd.1.1
  have fin : ∀ s : Int, s = sg z → cz (p, q, r, x, y, z) → WM k_Form_lessenZ p_Form_lessenZ_2 [.ref a, Jv, Jv] [.long (zL s)] (sl h l) 0 0 (fun v g => ∃ b, v = .int b ∧ FoB h l a (p, q, r, x, y, z) (cz (p, q, r, x, y, z)) (zF (p, q, r, x, y, z)) b g) := fun s es c => by
    refine v_Form_lessenZ_2 _ _ _ _ ⟨hk, ?_⟩
    rw [sl_ml, s0, s1, s2, s3, s4, s5, j2]
    simp only [zL_add, zL_sub, zL_mul]
    subst es
    exact SpV.mono (fo_set hk _ _ _ _ _ _) (fun g w => ⟨_, rfl, Or.inl ⟨rfl, c, w⟩⟩)
  have sgn : cz (p, q, r, x, y, z) → (0 < z → WM k_Form_lessenZ p_Form_lessenZ_2 [.ref a, Jv, Jv] [.long (1 : Int64)] (sl h l) 0 0 (fun v g => ∃ b, v = .int b ∧ FoB h l a (p, q, r, x, y, z) (cz (p, q, r, x, y, z)) (zF (p, q, r, x, y, z)) b g)) ∧ (¬ 0 < z → WM k_Form_lessenZ p_Form_lessenZ_2 [.ref a, Jv, Jv] [.long (-1 : Int64)] (sl h l) 0 0 (fun v g => ∃ b, v = .int b ∧ FoB h l a (p, q, r, x, y, z) (cz (p, q, r, x, y, z)) (zF (p, q, r, x, y, z)) b g)) := fun c =>
    ⟨fun w => fin 1 (sg_pos w).symm c, fun w => by
      rw [jm]
      exact fin (-1) (sg_neg w (fun e => by
        rcases c with v | v | v
        · have v : p < sz z := v
          omega
        · omega
        · omega)).symm c⟩
  have no : ¬ cz (p, q, r, x, y, z) → ∃ b, Value.int 0 = .int b ∧ FoB h l a (p, q, r, x, y, z) (cz (p, q, r, x, y, z)) (zF (p, q, r, x, y, z)) b (sl h l) := fun c => ⟨_, rfl, Or.inr ⟨rfl, c, l, rfl, Fr.refl, ft0⟩⟩
  have one : ¬ p < sz z → ¬ (z = p ∧ 2 * x < y) → WM k_Form_lessenZ p_Form_lessenZ_1 [.ref a, Jv, Jv] [] (sl h l) 0 0 (fun v g => ∃ b, v = .int b ∧ FoB h l a (p, q, r, x, y, z) (cz (p, q, r, x, y, z)) (zF (p, q, r, x, y, z)) b g) := fun n1 n2 => by
    refine v_Form_lessenZ_1 _ _ _ ⟨hk, ?_⟩
    rw [sl_ml, s0, s4, s5, zL_neg, j0, lz_eq (by omega) (by omega) (by omega) (by omega), lz_lt (by omega) (by omega) (by omega) (by omega), lz_gt (by omega) (by omega) (by omega) (by omega)]
    exact ⟨fun w1 => ⟨fun w2 => sgn (Or.inr (Or.inr ⟨w1, w2⟩)), fun w2 => no (fun w => by rcases w with w | w | w; exact n1 w; exact n2 w; exact w2 w.2)⟩, fun w1 => no (fun w => by rcases w with w | w | w; exact n1 w; exact n2 w; exact w1 w.1)⟩
  refine v_Form_lessenZ _ _ _ ⟨hk, ?_⟩
  rw [sl_ml, s5]
  refine SpL.mono (abs_z (by omega) (by omega)) ?_
  rintro _ _ ⟨rfl, rfl⟩
  refine ⟨hk, ?_⟩
  rw [sl_ml, s0, s3, s4, s5, j0, j2, zL_mul, lz_gt (by omega) (by omega) (by omega) (by omega), lz_eq (by omega) (by omega) (by omega) (by omega), lz_lt (by omega) (by omega) (by omega) (by omega), lz_gt (by omega) (by omega) (by omega) (by omega)]
  exact ⟨fun w => sgn (Or.inl w), fun n1 => ⟨fun w1 => ⟨fun w2 => sgn (Or.inr (Or.inl ⟨w1, w2⟩)), fun w2 => one n1 (fun w => w2 w.2)⟩, fun w1 => one n1 (fun w => w1 w.1)⟩⟩
theorem fo_lessenSum {h : MH} {a : Nat} (hk : kd h a = 3) {l : (Nat → Nat → Int64)} {t : S6} (hB : BB t) (ft : FoAt l a t) : SpI k_Form_lessenSum [.ref a] (sl h l) (fun b g => FoB h l a t (cs t) (sF t) b g) := by
  obtain ⟨p, q, r, x, y, z⟩ := t
  obtain ⟨⟨a1, a2⟩, ⟨b1, b2⟩, ⟨d1, d2⟩, ⟨x1, x2⟩, ⟨y1, y2⟩, ⟨z1, z2⟩⟩ := hB
  have ft0 := ft
  obtain ⟨s0, s1, s2, s3, s4, s5⟩ := ft
  have yes : cs (p, q, r, x, y, z) → WM k_Form_lessenSum p_Form_lessenSum_1 [.ref a, .long (zL (x + y + z + p + q)), Jv] [] (sl h l) 0 0 (fun v g => ∃ b, v = .int b ∧ FoB h l a (p, q, r, x, y, z) (cs (p, q, r, x, y, z)) (sF (p, q, r, x, y, z)) b g) := fun c => by
    refine v_Form_lessenSum_1 _ _ _ _ ⟨hk, ?_⟩
    rw [sl_ml, s0, s1, s2, s3, s4, s5, j2]
    simp only [zL_add, zL_mul]
    exact SpV.mono (fo_set hk _ _ _ _ _ _) (fun g w => ⟨_, rfl, Or.inl ⟨rfl, c, w⟩⟩)
  have no : ¬ cs (p, q, r, x, y, z) → ∃ b, Value.int 0 = .int b ∧ FoB h l a (p, q, r, x, y, z) (cs (p, q, r, x, y, z)) (sF (p, q, r, x, y, z)) b (sl h l) := fun c => ⟨_, rfl, Or.inr ⟨rfl, c, l, rfl, Fr.refl, ft0⟩⟩
  refine v_Form_lessenSum _ _ _ ⟨hk, ?_⟩
  rw [sl_ml, s0, s1, s3, s4, s5, j0, j2]
  simp only [zL_add, zL_mul]
  rw [lz_lt (by omega) (by omega) (by omega) (by omega), lz_eq (by omega) (by omega) (by omega) (by omega), lz_gt (by omega) (by omega) (by omega) (by omega)]
  exact ⟨fun w => yes (Or.inl w), fun w1 => ⟨fun w2 => ⟨fun w3 => yes (Or.inr ⟨w2, w3⟩), fun w3 => no (fun w => by rcases w with w | w; exact w1 w; exact w3 w.2)⟩, fun w2 => no (fun w => by rcases w with w | w; exact w1 w; exact w2 w.1)⟩⟩
/-- rounds of reduction -/
def Red : Nat → S6 → S6 → Prop
  | 0, t, u => stR t u False
  | n + 1, t, u => ∃ v, stR t v True ∧ Red n v u
theorem s1R_fn {t u u' : S6} (h : s1R t u) (h' : s1R t u') : u = u' := by
  rcases h with ⟨a, b⟩ | ⟨a, b⟩ <;> rcases h' with ⟨c, d⟩ | ⟨c, d⟩
  · rw [b, d]
  · exact absurd a c
  · exact absurd c a
  · rw [b, d]
theorem sgR_fn {t u u' : S6} (h : sgR t u) (h' : sgR t u') : u = u' := by
  rcases h with ⟨a, b⟩ | ⟨a, b⟩ <;> rcases h' with ⟨c, d⟩ | ⟨c, d⟩
  · rw [b, d]
  · exact absurd a c
  · exact absurd c a
  · rw [b, d]
theorem lsR_fn {t u u' : S6} {m m' : Prop} (h : lsR t u m) (h' : lsR t u' m') : u = u' ∧ (m ↔ m') := by
  rcases h with ⟨a, b, c⟩ | ⟨n1, a, b, c⟩ | ⟨n1, n2, a, b, c⟩ | ⟨n1, n2, n3, a, b, c⟩ | ⟨n1, n2, n3, n4, b, c⟩ <;> rcases h' with ⟨a', b', c'⟩ | ⟨m1, a', b', c'⟩ | ⟨m1, m2, a', b', c'⟩ | ⟨m1, m2, m3, a', b', c'⟩ | ⟨m1, m2, m3, m4, b', c'⟩ <;> first | contradiction | exact ⟨by rw [b, b'], iff_of_true c c'⟩ | exact ⟨by rw [b, b'], iff_of_false c c'⟩
theorem stR_fn {t u u' : S6} {m m' : Prop} (h : stR t u m) (h' : stR t u' m') : u = u' ∧ (m ↔ m') := by
  obtain ⟨v, hv, h⟩ := h
  obtain ⟨v', hv', h'⟩ := h'
  have := s1R_fn hv hv'
  subst this
  rcases h with ⟨a, b, c⟩ | ⟨n, w, hw, h⟩ <;> rcases h' with ⟨a', b', c'⟩ | ⟨n', w', hw', h'⟩
  · exact ⟨by rw [b, b'], iff_of_true c c'⟩
  · exact absurd a n'
  · exact absurd a' n
  · have := sgR_fn hw hw'
    subst this
    exact lsR_fn h h'
theorem FoP.tr {h : MH} {l l' : (Nat → Nat → Int64)} {a : Nat} {u : S6} {g : MH} (f : Fr [a] l l') (p : FoP h l' a u g) : FoP h l a u g := by
  obtain ⟨l2, e, f2, ft⟩ := p
  exact ⟨l2, e, f.trans f2, ft⟩
theorem OK_s1R {t u : S6} (h : s1R t u) (ho : OKs t) : OKs u ∧ tT u = tT t := by
  rcases h with ⟨a, b⟩ | ⟨a, b⟩ <;> subst b
  · refine ⟨OK_s1 ho, ?_⟩
    obtain ⟨p, q, r, x, y, z⟩ := t
    show q + p + r = p + q + r
    omega
  · exact ⟨ho, rfl⟩
theorem OK_sgR {t u : S6} (h : sgR t u) (ho : OKs t) : OKs u ∧ tT u = tT t := by
  rcases h with ⟨a, b⟩ | ⟨a, b⟩ <;> subst b
  · exact ⟨OK_p ho a, rfl⟩
  · exact ⟨OK_n ho a, rfl⟩
/-- one round -/
theorem fo_reduce {h : MH} {a : Nat} (hk : kd h a = 3) {l : (Nat → Nat → Int64)} {u : S6} : ∀ n (t : S6) (l1 : (Nat → Nat → Int64)) (i : Nat), Red n t u → OKs t → tT t ≤ 10000000 → FoAt l1 a t → Fr [a] l l1 → i + n < 1000000 →
    WM k_Form_reduce p_Form_reduce_1 [.ref a, .int (nI i)] [] (sl h l1) 0 0 (fun _ g => FoP h l a u g) := by
  have t1 : (1000000 : Int32).toInt = 1000000 := rfl
  have t10 : ¬ (1 : Int32) = 0 := by decide
  intro n
  induction n with
  | zero =>
    intro t l1 i rd ho hT ft fr hi
    have rd : stR t u False := rd
    refine v_Form_reduce_1 _ _ _ _ ?_
    rw [nI_toI (by omega), t1]
    refine ⟨fun _ => ⟨hk, SpV.mono (fo_swapFirst hk (OK_BB ho hT) ft) ?_⟩, fun q => absurd (by omega) q⟩
    rintro _ ⟨v, hv, l2, rfl, fr2, ft2⟩
    obtain ⟨ov, Tv⟩ := OK_s1R hv ho
    refine ⟨hk, SpI.mono (fo_swapLast hk (OK_BB ov (by omega)) ft2) ?_⟩
    rintro b _ (⟨rfl, c, l3, rfl, fr3, ft3⟩ | ⟨rfl, c, l3, rfl, fr3, ft3⟩)
    · exact absurd trivial ((stR_fn (m := True) ⟨v, hv, Or.inl ⟨c, rfl, trivial⟩⟩ rd).2.mp)
    refine ⟨fun _ => ⟨hk, SpV.mono (fo_alignSigns hk (OK_BB ov (by omega)) ft3) ?_⟩, fun q => absurd rfl q⟩
    rintro _ ⟨w, hw, l4, rfl, fr4, ft4⟩
    obtain ⟨ow, Tw⟩ := OK_sgR hw ov
    have bb := OK_BB ow (by omega)
    have mk : ∀ {u' : S6} {m : Prop}, lsR w u' m → stR t u' m := fun q => ⟨v, hv, Or.inr ⟨c, w, hw, q⟩⟩
    refine ⟨hk, SpI.mono (fo_lessenX hk bb ow ft4) ?_⟩
    rintro b _ (⟨rfl, c1, l5, rfl, fr5, ft5⟩ | ⟨rfl, c1, l5, rfl, fr5, ft5⟩)
    · exact absurd trivial ((stR_fn (mk (lsX c1)) rd).2.mp)
    refine ⟨fun _ => ⟨hk, SpI.mono (fo_lessenY hk bb ow ft5) ?_⟩, fun q => absurd rfl q⟩
    rintro b _ (⟨rfl, c2, l6, rfl, fr6, ft6⟩ | ⟨rfl, c2, l6, rfl, fr6, ft6⟩)
    · exact absurd trivial ((stR_fn (mk (lsY c1 c2)) rd).2.mp)
    refine ⟨fun _ => ⟨hk, SpI.mono (fo_lessenZ hk bb ow ft6) ?_⟩, fun q => absurd rfl q⟩
    rintro b _ (⟨rfl, c3, l7, rfl, fr7, ft7⟩ | ⟨rfl, c3, l7, rfl, fr7, ft7⟩)
    · exact absurd trivial ((stR_fn (mk (lsZ c1 c2 c3)) rd).2.mp)
    refine ⟨fun _ => ⟨hk, SpI.mono (fo_lessenSum hk bb ft7) ?_⟩, fun q => absurd rfl q⟩
    rintro b _ (⟨rfl, c4, l8, rfl, fr8, ft8⟩ | ⟨rfl, c4, l8, rfl, fr8, ft8⟩)
    · exact absurd trivial ((stR_fn (mk (lsS c1 c2 c3 c4)) rd).2.mp)
    refine ⟨fun _ => ?_, fun q => absurd rfl q⟩
    have e := (stR_fn (mk (lsN c1 c2 c3 c4)) rd).1
    subst e
    exact ⟨l8, rfl, ((((((fr.trans fr2).trans fr3).trans fr4).trans fr5).trans fr6).trans fr7).trans fr8, ft8⟩
  | succ n ih =>
    rintro t l1 i ⟨u', rd, rest⟩ ho hT ft fr hi
    have ok := stR_ok rd ho
    have nx : ∀ {l2 : (Nat → Nat → Int64)} {u2 : S6} {m : Prop}, stR t u2 m → Fr [a] l l2 → FoAt l2 a u2 → WM k_Form_reduce p_Form_reduce_1 [.ref a, .int (nI i + 1)] [] (sl h l2) 0 0 (fun _ g => FoP h l a u g) := fun st f2 ft2 => by
      have e := (stR_fn st rd).1
      subst e
      rw [nI_1]
      exact ih _ _ (i + 1) rest ok.1 (Int.le_trans ok.2.1 hT) ft2 f2 (by omega)
    refine v_Form_reduce_1 _ _ _ _ ?_
    rw [nI_toI (by omega), t1]
    refine ⟨fun _ => ⟨hk, SpV.mono (fo_swapFirst hk (OK_BB ho hT) ft) ?_⟩, fun q => absurd (by omega) q⟩
    rintro _ ⟨v, hv, l2, rfl, fr2, ft2⟩
    obtain ⟨ov, Tv⟩ := OK_s1R hv ho
    refine ⟨hk, SpI.mono (fo_swapLast hk (OK_BB ov (by omega)) ft2) ?_⟩
    rintro b _ (⟨rfl, c, l3, rfl, fr3, ft3⟩ | ⟨rfl, c, l3, rfl, fr3, ft3⟩)
    · exact ⟨fun q => absurd q t10, fun _ => nx (m := True) ⟨v, hv, Or.inl ⟨c, rfl, trivial⟩⟩ ((fr.trans fr2).trans fr3) ft3⟩
    refine ⟨fun _ => ⟨hk, SpV.mono (fo_alignSigns hk (OK_BB ov (by omega)) ft3) ?_⟩, fun q => absurd rfl q⟩
    rintro _ ⟨w, hw, l4, rfl, fr4, ft4⟩
    obtain ⟨ow, Tw⟩ := OK_sgR hw ov
    have bb := OK_BB ow (by omega)
    have f4 := ((fr.trans fr2).trans fr3).trans fr4
    have mk : ∀ {u' : S6} {m : Prop}, lsR w u' m → stR t u' m := fun q => ⟨v, hv, Or.inr ⟨c, w, hw, q⟩⟩
    refine ⟨hk, SpI.mono (fo_lessenX hk bb ow ft4) ?_⟩
    rintro b _ (⟨rfl, c1, l5, rfl, fr5, ft5⟩ | ⟨rfl, c1, l5, rfl, fr5, ft5⟩)
    · exact ⟨fun q => absurd q t10, fun _ => nx (mk (lsX c1)) (f4.trans fr5) ft5⟩
    refine ⟨fun _ => ⟨hk, SpI.mono (fo_lessenY hk bb ow ft5) ?_⟩, fun q => absurd rfl q⟩
    rintro b _ (⟨rfl, c2, l6, rfl, fr6, ft6⟩ | ⟨rfl, c2, l6, rfl, fr6, ft6⟩)
    · exact ⟨fun q => absurd q t10, fun _ => nx (mk (lsY c1 c2)) ((f4.trans fr5).trans fr6) ft6⟩
    refine ⟨fun _ => ⟨hk, SpI.mono (fo_lessenZ hk bb ow ft6) ?_⟩, fun q => absurd rfl q⟩
    rintro b _ (⟨rfl, c3, l7, rfl, fr7, ft7⟩ | ⟨rfl, c3, l7, rfl, fr7, ft7⟩)
    · exact ⟨fun q => absurd q t10, fun _ => nx (mk (lsZ c1 c2 c3)) (((f4.trans fr5).trans fr6).trans fr7) ft7⟩
    refine ⟨fun _ => ⟨hk, SpI.mono (fo_lessenSum hk bb ft7) ?_⟩, fun q => absurd rfl q⟩
    rintro b _ (⟨rfl, c4, l8, rfl, fr8, ft8⟩ | ⟨rfl, c4, l8, rfl, fr8, ft8⟩)
    · exact ⟨fun q => absurd q t10, fun _ => nx (mk (lsS c1 c2 c3 c4)) ((((f4.trans fr5).trans fr6).trans fr7).trans fr8) ft8⟩
    · exact absurd trivial ((stR_fn rd (mk (lsN c1 c2 c3 c4))).2.mp)
theorem sp_Form_reduce {h : MH} {a : Nat} (hk : kd h a = 3) {l : (Nat → Nat → Int64)} {t u : S6} {n : Nat} (rd : Red n t u) (ho : OKs t) (hT : tT t ≤ 10000000) (hn : n < 1000000) (ft : FoAt l a t) : SpV k_Form_reduce [.ref a] (sl h l) (fun g => FoP h l a u g) :=
  v_Form_reduce _ _ _ (fo_reduce hk n t l 0 rd ho hT ft Fr.refl (by omega))
