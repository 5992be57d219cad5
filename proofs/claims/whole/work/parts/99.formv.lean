/-! the class's forms, with their numbers -/
def FoAt (l : (Nat → Nat → Int64)) (a : Nat) : S6 → Prop := fun (p, q, r, x, y, z) => l a 0 = zL p ∧ l a 1 = zL q ∧ l a 2 = zL r ∧ l a 3 = zL x ∧ l a 4 = zL y ∧ l a 5 = zL z
theorem FoAt.fr {l l' : (Nat → Nat → Int64)} {a : Nat} {t : S6} (h : FoAt l a t) (e : l' a = l a) : FoAt l' a t := by
  unfold FoAt at *
  rw [e]; exact h
theorem fo_up {l : (Nat → Nat → Int64)} {a : Nat} (p q r x y z : Int) : FoAt (up2 (up2 (up2 (up2 (up2 (up2 l a 0 (zL p)) a 1 (zL q)) a 2 (zL r)) a 3 (zL x)) a 4 (zL y)) a 5 (zL z)) a (p, q, r, x, y, z) := by
  refine ⟨?_, ?_, ?_, ?_, ?_, ?_⟩ <;> simp (disch := decide) only [up2_ni, up2_s]
theorem fo_set {h : MH} {a : Nat} (hk : kd h a = 3) {l : (Nat → Nat → Int64)} (p q r x y z : Int) : SpV k_Form_set [.ref a, .long (zL p), .long (zL q), .long (zL r), .long (zL x), .long (zL y), .long (zL z)] (sl h l) (fun g => ∃ l', g = sl h l' ∧ Fr [a] l l' ∧ FoAt l' a (p, q, r, x, y, z)) := by
  refine SpV.mono (any_set hk _ _ _ _ _ _) ?_
  rintro _ rfl
  have m : a ∈ [a] := List.mem_cons_self
  exact ⟨_, rfl, (((((Fr.refl.up m).up m).up m).up m).up m).up m, fo_up _ _ _ _ _ _⟩
theorem abs_z {h : MH} {v : Int} (h1 : -1000000000000 ≤ v) (h2 : v ≤ 1000000000000) : SpL k_Math_absJJ [.long (zL v)] h (fun r g => g = h ∧ r = zL (sz v)) := by
  refine v_Math_absJJ _ _ _ ?_
  rw [j0, lz_lt (by omega) (by omega) (by omega) (by omega), zL_neg]
  have := sz_c v
  exact ⟨fun q => ⟨_, rfl, rfl, by congr 1; omega⟩, fun q => ⟨_, rfl, rfl, by congr 1; omega⟩⟩
def FoP (h : MH) (l : (Nat → Nat → Int64)) (a : Nat) (u : S6) (g : MH) : Prop := ∃ l', g = sl h l' ∧ Fr [a] l l' ∧ FoAt l' a u
theorem fo_swapFirst {h : MH} {a : Nat} (hk : kd h a = 3) {l : (Nat → Nat → Int64)} {t : S6} (hB : BB t) (ft : FoAt l a t) : SpV k_Form_swapFirst [.ref a] (sl h l) (fun g => ∃ u, s1R t u ∧ FoP h l a u g) := by
  obtain ⟨p, q, r, x, y, z⟩ := t
  obtain ⟨⟨a1, a2⟩, ⟨b1, b2⟩, ⟨d1, d2⟩, ⟨x1, x2⟩, ⟨y1, y2⟩, ⟨z1, z2⟩⟩ := hB
  obtain ⟨s0, s1, s2, s3, s4, s5⟩ := ft
  have bx := sz_c x
  have by_ := sz_c y
  have yes : c1 (p, q, r, x, y, z) → WM k_Form_swapFirst p_Form_swapFirst_1 [.ref a] [] (sl h l) 0 0 (fun _ g => ∃ u, s1R (p, q, r, x, y, z) u ∧ FoP h l a u g) := fun c => by
    refine v_Form_swapFirst_1 _ _ _ ⟨hk, ?_⟩
    rw [sl_ml, s0, s1, s2, s3, s4, s5]
    exact SpV.mono (fo_set hk _ _ _ _ _ _) (fun g w => ⟨_, Or.inl ⟨c, rfl⟩, w⟩)
  have no : ¬ c1 (p, q, r, x, y, z) → ∃ u, s1R (p, q, r, x, y, z) u ∧ FoP h l a u (sl h l) := fun c => ⟨_, Or.inr ⟨c, rfl⟩, l, rfl, Fr.refl, s0, s1, s2, s3, s4, s5⟩
  refine v_Form_swapFirst _ _ _ ⟨hk, ?_⟩
  rw [sl_ml, s0, s1, s3, lz_gt (by omega) (by omega) (by omega) (by omega), lz_eq (by omega) (by omega) (by omega) (by omega)]
  refine ⟨fun c => yes (Or.inl c), fun c0 => ⟨fun c1 => SpL.mono (abs_z (by omega) (by omega)) ?_, fun c1 => no (fun w => by rcases w with w | w; exact c0 w; exact c1 w.1)⟩⟩
  rintro _ _ ⟨rfl, rfl⟩
  refine ⟨hk, ?_⟩
  rw [sl_ml, s4]
  refine SpL.mono (abs_z (by omega) (by omega)) ?_
  rintro _ _ ⟨rfl, rfl⟩
  rw [lz_gt (by omega) (by omega) (by omega) (by omega)]
  exact ⟨fun c => yes (Or.inr ⟨c1, c⟩), fun c => no (fun w => by rcases w with w | w; exact c0 w; exact c w.2)⟩
theorem fo_swapLast {h : MH} {a : Nat} (hk : kd h a = 3) {l : (Nat → Nat → Int64)} {t : S6} (hB : BB t) (ft : FoAt l a t) : SpI k_Form_swapLast [.ref a] (sl h l) (fun b g => (b = 1 ∧ c2 t ∧ FoP h l a (s2F t) g) ∨ (b = 0 ∧ ¬ c2 t ∧ FoP h l a t g)) := by
  obtain ⟨p, q, r, x, y, z⟩ := t
  obtain ⟨⟨a1, a2⟩, ⟨b1, b2⟩, ⟨d1, d2⟩, ⟨x1, x2⟩, ⟨y1, y2⟩, ⟨z1, z2⟩⟩ := hB
  obtain ⟨s0, s1, s2, s3, s4, s5⟩ := ft
  have bz := sz_c z
  have by_ := sz_c y
  have yes : c2 (p, q, r, x, y, z) → WM k_Form_swapLast p_Form_swapLast_1 [.ref a] [] (sl h l) 0 0 (fun v g => ∃ b, v = .int b ∧ ((b = 1 ∧ c2 (p, q, r, x, y, z) ∧ FoP h l a (s2F (p, q, r, x, y, z)) g) ∨ (b = 0 ∧ ¬ c2 (p, q, r, x, y, z) ∧ FoP h l a (p, q, r, x, y, z) g))) := fun c => by
    refine v_Form_swapLast_1 _ _ _ ⟨hk, ?_⟩
    rw [sl_ml, s0, s1, s2, s3, s4, s5]
    exact SpV.mono (fo_set hk _ _ _ _ _ _) (fun g w => ⟨_, rfl, Or.inl ⟨rfl, c, w⟩⟩)
  have no : ¬ c2 (p, q, r, x, y, z) → ∃ b, Value.int 0 = .int b ∧ ((b = 1 ∧ c2 (p, q, r, x, y, z) ∧ FoP h l a (s2F (p, q, r, x, y, z)) (sl h l)) ∨ (b = 0 ∧ ¬ c2 (p, q, r, x, y, z) ∧ FoP h l a (p, q, r, x, y, z) (sl h l))) := fun c => ⟨_, rfl, Or.inr ⟨rfl, c, l, rfl, Fr.refl, s0, s1, s2, s3, s4, s5⟩⟩
  refine v_Form_swapLast _ _ _ ⟨hk, ?_⟩
  rw [sl_ml, s1, s2, s4, lz_gt (by omega) (by omega) (by omega) (by omega), lz_eq (by omega) (by omega) (by omega) (by omega)]
  refine ⟨fun c => yes (Or.inl c), fun c0 => ⟨fun c1 => SpL.mono (abs_z (by omega) (by omega)) ?_, fun c1 => no (fun w => by rcases w with w | w; exact c0 w; exact c1 w.1)⟩⟩
  rintro _ _ ⟨rfl, rfl⟩
  refine ⟨hk, ?_⟩
  rw [sl_ml, s5]
  refine SpL.mono (abs_z (by omega) (by omega)) ?_
  rintro _ _ ⟨rfl, rfl⟩
  rw [lz_gt (by omega) (by omega) (by omega) (by omega)]
  exact ⟨fun c => yes (Or.inr ⟨c1, c⟩), fun c => no (fun w => by rcases w with w | w; exact c0 w; exact c w.2)⟩
theorem fo_align3 {h : MH} {a : Nat} (hk : kd h a = 3) {l : (Nat → Nat → Int64)} {p q r x y z : Int} (hB : BB (p, q, r, x, y, z)) (ft : FoAt l a (p, q, r, x, y, z)) (s : Int) (u : S6) (eu : u = (p, q, r, s * sz x, s * sz y, s * sz z)) : WM k_Form_alignSigns p_Form_alignSigns_3 [.ref a, Jv, Jv, Jv] [.long (zL s)] (sl h l) 0 0 (fun _ g => FoP h l a u g) := by
  obtain ⟨⟨a1, a2⟩, ⟨b1, b2⟩, ⟨d1, d2⟩, ⟨x1, x2⟩, ⟨y1, y2⟩, ⟨z1, z2⟩⟩ := hB
  obtain ⟨s0, s1, s2, s3, s4, s5⟩ := ft
  have m : a ∈ [a] := List.mem_cons_self
  refine v_Form_alignSigns_3 _ _ _ _ ⟨hk, ?_⟩
  rw [sl_ml, s3]
  refine SpL.mono (abs_z (by omega) (by omega)) ?_
  rintro _ _ ⟨rfl, rfl⟩
  refine ⟨hk, ?_⟩
  rintro _ rfl
  rw [sl_wl, sl_ml, up2_ni (by decide), s4, zL_mul]
  refine SpL.mono (abs_z (by omega) (by omega)) ?_
  rintro _ _ ⟨rfl, rfl⟩
  refine ⟨hk, ?_⟩
  rintro _ rfl
  rw [sl_wl, sl_ml, up2_ni (by decide), up2_ni (by decide), s5, zL_mul]
  refine SpL.mono (abs_z (by omega) (by omega)) ?_
  rintro _ _ ⟨rfl, rfl⟩
  refine ⟨hk, ?_⟩
  rintro _ rfl
  rw [sl_wl, zL_mul]
  refine ⟨_, rfl, ((Fr.refl.up m).up m).up m, ?_⟩
  rw [eu]
  refine ⟨?_, ?_, ?_, ?_, ?_, ?_⟩ <;> simp (disch := decide) only [up2_ni, up2_s] <;> assumption
theorem fo_alignSigns {h : MH} {a : Nat} (hk : kd h a = 3) {l : (Nat → Nat → Int64)} {t : S6} (hB : BB t) (ft : FoAt l a t) : SpV k_Form_alignSigns [.ref a] (sl h l) (fun g => ∃ u, sgR t u ∧ FoP h l a u g) := by
  obtain ⟨p, q, r, x, y, z⟩ := t
  have hB0 := hB
  obtain ⟨⟨a1, a2⟩, ⟨b1, b2⟩, ⟨d1, d2⟩, ⟨x1, x2⟩, ⟨y1, y2⟩, ⟨z1, z2⟩⟩ := hB
  have ft0 := ft
  obtain ⟨s0, s1, s2, s3, s4, s5⟩ := ft
  have pos : posi x y z → WM k_Form_alignSigns p_Form_alignSigns_3 [.ref a, Jv, Jv, Jv] [.long (1 : Int64)] (sl h l) 0 0 (fun _ g => ∃ u, sgR (p, q, r, x, y, z) u ∧ FoP h l a u g) := fun c =>
    (fo_align3 hk hB0 ft0 1 (sgp (p, q, r, x, y, z)) (by unfold sgp; rw [Int.one_mul, Int.one_mul, Int.one_mul])).mono' (fun _ g w => ⟨_, Or.inl ⟨c, rfl⟩, w⟩)
  have neg : ¬ posi x y z → WM k_Form_alignSigns p_Form_alignSigns_3 [.ref a, Jv, Jv, Jv] [.long (-1 : Int64)] (sl h l) 0 0 (fun _ g => ∃ u, sgR (p, q, r, x, y, z) u ∧ FoP h l a u g) := fun c => by
    rw [jm]
    exact (fo_align3 hk hB0 ft0 (-1) (sgM (p, q, r, x, y, z)) (by unfold sgM; rw [Int.neg_one_mul, Int.neg_one_mul, Int.neg_one_mul])).mono' (fun _ g w => ⟨_, Or.inr ⟨c, rfl⟩, w⟩)
  have two : ∀ (i j : Int32), (i = 0 ∨ i = 1) → (j = 0 ∨ j = 1) → ((i ^^^ j = 0) ↔ (x < 0 ↔ (y < 0 ↔ 0 ≤ z))) → WM k_Form_alignSigns p_Form_alignSigns_2 [.ref a, Jv, Jv, Jv] [.int j, .int i] (sl h l) 0 0 (fun _ g => ∃ u, sgR (p, q, r, x, y, z) u ∧ FoP h l a u g) := fun i j hi hj e => by
    refine v_Form_alignSigns_2 _ _ _ _ _ ⟨hk, ?_⟩
    rw [sl_ml, s3, s4, s5, j0, lz_eq (by omega) (by omega) (by omega) (by omega), lz_eq (by omega) (by omega) (by omega) (by omega), lz_eq (by omega) (by omega) (by omega) (by omega)]
    exact ⟨fun w => neg (fun v => v.2.1 w), fun nx => ⟨fun w => neg (fun v => v.2.2.1 w), fun ny => ⟨fun w => neg (fun v => v.2.2.2 w), fun nz => ⟨fun w => pos ⟨e.mp w, nx, ny, nz⟩, fun w => neg (fun v => w (e.mpr v.1))⟩⟩⟩⟩
  have one : ∀ (i j : Int32), (i = 0 ∨ i = 1) → (j = 0 ∨ j = 1) → ((i = 1) ↔ x < 0) → ((j = 1) ↔ y < 0) → WM k_Form_alignSigns p_Form_alignSigns_1 [.ref a, Jv, Jv, Jv] [.int j, .int i] (sl h l) 0 0 (fun _ g => ∃ u, sgR (p, q, r, x, y, z) u ∧ FoP h l a u g) := fun i j hi hj ei ej => by
    refine v_Form_alignSigns_1 _ _ _ _ _ ⟨hk, ?_⟩
    rw [sl_ml, s5, j0, lz_lt (by omega) (by omega) (by omega) (by omega)]
    refine ⟨fun w => two _ _ (by rcases hi with rfl | rfl <;> rcases hj with rfl | rfl <;> decide) (Or.inr rfl) ?_, fun w => two _ _ (by rcases hi with rfl | rfl <;> rcases hj with rfl | rfl <;> decide) (Or.inl rfl) ?_⟩
    · rcases hi with rfl | rfl <;> rcases hj with rfl | rfl <;> simp at ei ej ⊢ <;> omega
    · rcases hi with rfl | rfl <;> rcases hj with rfl | rfl <;> simp at ei ej ⊢ <;> omega
  refine v_Form_alignSigns _ _ _ ⟨hk, ?_⟩
  rw [sl_ml, s3, s4, j0, lz_lt (by omega) (by omega) (by omega) (by omega), lz_lt (by omega) (by omega) (by omega) (by omega)]
  exact ⟨fun w => ⟨fun v => one 1 1 (Or.inr rfl) (Or.inr rfl) ⟨fun _ => w, fun _ => rfl⟩ ⟨fun _ => v, fun _ => rfl⟩, fun v => one 1 0 (Or.inr rfl) (Or.inl rfl) ⟨fun _ => w, fun _ => rfl⟩ ⟨fun u => absurd u (by decide), fun u => absurd u v⟩⟩, fun w => ⟨fun v => one 0 1 (Or.inl rfl) (Or.inr rfl) ⟨fun u => absurd u (by decide), fun u => absurd u w⟩ ⟨fun _ => v, fun _ => rfl⟩, fun v => one 0 0 (Or.inl rfl) (Or.inl rfl) ⟨fun u => absurd u (by decide), fun u => absurd u w⟩ ⟨fun u => absurd u (by decide), fun u => absurd u v⟩⟩⟩
