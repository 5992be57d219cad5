/-! the matrices of a group: their counts -/
theorem eM_c (c : Nat) : eM c = eM (13824 * (c / 13824)) := by
  funext j
  unfold eM
  rw [dM_k]
  rfl
theorem ng_d {k : Nat} (h : k < 19683) : (dK (19682 - k) 6561 = 2 - dK k 6561 ∧ dK (19682 - k) 2187 = 2 - dK k 2187 ∧ dK (19682 - k) 729 = 2 - dK k 729) ∧ (dK (19682 - k) 243 = 2 - dK k 243 ∧ dK (19682 - k) 81 = 2 - dK k 81 ∧ dK (19682 - k) 27 = 2 - dK k 27) ∧ dK (19682 - k) 9 = 2 - dK k 9 ∧ dK (19682 - k) 3 = 2 - dK k 3 ∧ dK (19682 - k) 1 = 2 - dK k 1 := by
  have e : ∀ m i, dK m i = m / i % 3 := fun _ _ => rfl
  simp only [e]
  refine ⟨⟨?_, ?_, ?_⟩, ⟨?_, ?_, ?_⟩, ?_, ?_, ?_⟩ <;> omega
theorem ng_e {k : Nat} (h : k < 19683) : ∀ j, j < 9 → eM (13824 * (19682 - k)) j = -eM (13824 * k) j := by
  obtain ⟨⟨p0, p1, p2⟩, ⟨p3, p4, p5⟩, p6, p7, p8⟩ := eM_k k
  obtain ⟨⟨q0, q1, q2⟩, ⟨q3, q4, q5⟩, q6, q7, q8⟩ := eM_k (19682 - k)
  obtain ⟨⟨d0, d1, d2⟩, ⟨d3, d4, d5⟩, d6, d7, d8⟩ := ng_d h
  have l : ∀ i, dK k i ≤ 2 := dK_le k
  have l0 := l 6561; have l1 := l 2187; have l2 := l 729; have l3 := l 243; have l4 := l 81; have l5 := l 27; have l6 := l 9; have l7 := l 3; have l8 := l 1
  intro j hj
  match j, hj with
  | 0, _ => rw [p0, q0, d0]; omega
  | 1, _ => rw [p1, q1, d1]; omega
  | 2, _ => rw [p2, q2, d2]; omega
  | 3, _ => rw [p3, q3, d3]; omega
  | 4, _ => rw [p4, q4, d4]; omega
  | 5, _ => rw [p5, q5, d5]; omega
  | 6, _ => rw [p6, q6, d6]; omega
  | 7, _ => rw [p7, q7, d7]; omega
  | 8, _ => rw [p8, q8, d8]; omega
  | n + 9, hj => exact absurd hj (by omega)
theorem det_neg {M N : Nat → Int} (h : ∀ j, j < 9 → N j = -M j) : det9 N = -det9 M := by
  unfold det9
  rw [h 0 (by decide), h 1 (by decide), h 2 (by decide), h 3 (by decide), h 4 (by decide), h 5 (by decide), h 6 (by decide), h 7 (by decide), h 8 (by decide)]
  grind
theorem tr_neg {M N : Nat → Int} (h : ∀ j, j < 9 → N j = -M j) : tr9 N = -tr9 M := by
  unfold tr9
  rw [h 0 (by decide), h 4 (by decide), h 8 (by decide)]
  omega
theorem mul9_neg1 {A A' B : Nat → Int} (h : ∀ j, j < 9 → A' j = -A j) : ∀ j, j < 9 → mul9 A' B j = -mul9 A B j := fun j hj => by
  unfold mul9
  rw [h _ (by omega), h _ (by omega), h _ (by omega)]
  simp only [Int.neg_mul]
  omega
theorem mul9_neg2 {A B B' : Nat → Int} (h : ∀ j, j < 9 → B' j = -B j) : ∀ j, j < 9 → mul9 A B' j = -mul9 A B j := fun j hj => by
  unfold mul9
  rw [h _ (by omega), h _ (by omega), h _ (by omega)]
  simp only [Int.mul_neg]
  omega
abbrev dtK (k : Nat) : Int := det9 (eM (13824 * k))
theorem dt_ng {k : Nat} (h : k < 19683) : dtK (19682 - k) = -dtK k := det_neg (ng_e h)
theorem MP.dt {p q r : Nat} (h : MP p q r) : dtK r = dtK p * dtK q := (det9_ext h).trans (det9_mul _ _)
theorem MP.n1 {p q r : Nat} (h : MP p q r) (hp : p < 19683) (hr : r < 19683) : MP (19682 - p) q (19682 - r) := fun j hj => by
  rw [ng_e hr j hj, h j hj, mul9_neg1 (ng_e hp) j hj]
theorem MP.n2 {p q r : Nat} (h : MP p q r) (hq : q < 19683) (hr : r < 19683) : MP p (19682 - q) (19682 - r) := fun j hj => by
  rw [ng_e hr j hj, h j hj, mul9_neg2 (ng_e hq) j hj]
def dbl (P : Nat → Prop) (k : Nat) : Prop := k < 19683 ∧ (P k ∨ P (19682 - k))
theorem ngng {k : Nat} (h : k < 19683) : 19682 - (19682 - k) = k := by omega
theorem CdC.dbl {P : Nat → Prop} (hc : CdC P) : CdC (dbl P) := by
  refine ⟨fun k h => h.1, fun p q ⟨hp, p'⟩ ⟨hq, q'⟩ => ?_⟩
  rcases p' with a | a <;> rcases q' with b | b
  · obtain ⟨r, h1, h2⟩ := hc.2 p q a b
    exact ⟨r, ⟨hc.1 r h1, Or.inl h1⟩, h2⟩
  · obtain ⟨r, h1, h2⟩ := hc.2 p _ a b
    have hr := hc.1 r h1
    refine ⟨19682 - r, ⟨by omega, Or.inr (by rw [ngng hr]; exact h1)⟩, ?_⟩
    have := h2.n2 (by omega) hr
    rw [ngng hq] at this
    exact this
  · obtain ⟨r, h1, h2⟩ := hc.2 _ q a b
    have hr := hc.1 r h1
    refine ⟨19682 - r, ⟨by omega, Or.inr (by rw [ngng hr]; exact h1)⟩, ?_⟩
    have := h2.n1 (by omega) hr
    rw [ngng hp] at this
    exact this
  · obtain ⟨r, h1, h2⟩ := hc.2 _ _ a b
    have hr := hc.1 r h1
    refine ⟨r, ⟨hr, Or.inl h1⟩, ?_⟩
    have := (h2.n1 (by omega) hr).n2 (by omega) (by omega)
    rw [ngng hp, ngng hq, ngng hr] at this
    exact this
def rotP (P : Nat → Prop) (k : Nat) : Prop := P k ∧ dtK k = 1
theorem CdC.rot {P : Nat → Prop} (hc : CdC P) : CdC (rotP P) := by
  refine ⟨fun k h => hc.1 k h.1, fun p q ⟨hp, dp⟩ ⟨hq, dq⟩ => ?_⟩
  obtain ⟨r, h1, h2⟩ := hc.2 p q hp hq
  exact ⟨r, ⟨h1, by rw [h2.dt, dp, dq]; rfl⟩, h2⟩
def QW (R : Nat → Prop) (w : Nat) : Prop := ∃ k, R k ∧ w = wK k
theorem sel_m {G : List Nat} : ∀ {l : List Nat} {y : Nat}, y ∈ sel G l ↔ y ∈ l ∧ y ∈ G
  | [], y => ⟨fun h => absurd h List.not_mem_nil, fun h => absurd h.1 List.not_mem_nil⟩
  | w :: t, y => by
    rw [sel]
    by_cases m : w ∈ G
    · rw [elm_i.mpr m, cond_true, List.mem_cons, List.mem_cons, sel_m]
      exact ⟨fun h => h.elim (fun q => ⟨Or.inl q, by rw [q]; exact m⟩) (fun q => ⟨Or.inr q.1, q.2⟩), fun h => h.1.elim Or.inl (fun q => Or.inr ⟨q, h.2⟩)⟩
    · have e : elm w G = false := by
        cases q : elm w G with
        | false => rfl
        | true => exact absurd (elm_i.mp q) m
      rw [e, cond_false, List.mem_cons, sel_m]
      exact ⟨fun h => ⟨Or.inr h.1, h.2⟩, fun h => h.1.elim (fun q => absurd (by rw [← q]; exact h.2) m) (fun q => ⟨q, h.2⟩)⟩
theorem sel_s {G : List Nat} : ∀ {l : List Nat}, l.Pairwise (· < ·) → (sel G l).Pairwise (· < ·)
  | [], _ => List.Pairwise.nil
  | w :: t, h => by
    obtain ⟨h1, h2⟩ := List.pairwise_cons.mp h
    rw [sel]
    by_cases m : w ∈ G
    · rw [elm_i.mpr m, cond_true]
      exact List.pairwise_cons.mpr ⟨fun y hy => h1 y (sel_m.mp hy).1, sel_s h2⟩
    · have e : elm w G = false := by
        cases q : elm w G with
        | false => rfl
        | true => exact absurd (elm_i.mp q) m
      rw [e, cond_false]
      exact sel_s h2
theorem rw_srt : rwL.Pairwise (· < ·) := by
  have := (asc_p 0 rtL rt_asc).1
  unfold rwL
  rw [List.pairwise_map]
  exact this
/-- a closed set of rotations has the counts of one of eleven -/
theorem rot11 {R : Nat → Prop} (hc : CdC R) (hd : ∀ k, R k → dtK k = 1) (hI : R 16484) : ∃ L : List Nat, L.Pairwise (· < ·) ∧ (∀ y, y ∈ L ↔ QW R y) ∧ key4 L ∈ k11 := by
  have hr : ∀ k, R k → k ∈ rcL := fun k hk => rc_mem hc hk (hd k hk)
  obtain ⟨E1, E2⟩ := rtE_s rt_E
  have up : ∀ y, QW R y → ∃ e ∈ rtL, e.1 = y := fun y ⟨k, hk, e⟩ => ⟨eKk k, E2 k (hr k hk), e.symm⟩
  obtain ⟨G, g1, g2⟩ := all_s (Q := QW R) (fun e he ⟨k, hk, ek⟩ x ⟨m, hm, ex⟩ => by
    obtain ⟨k0, _, h2, h3⟩ := E1 e he
    subst h3
    have kk : k0 = k := wK_inj h2 (hc.1 k hk) ek
    subst kk
    obtain ⟨r, r1, r2⟩ := hc.2 k0 m hk hm
    obtain ⟨l1, l2⟩ := lz_ok r2 (hc.1 r r1)
    rw [ex]
    exact ⟨l1, r, r1, l2⟩) ⟨16484, hI, by decide +kernel⟩ up
  refine ⟨sel G rwL, sel_s rw_srt, fun y => sel_m.trans ⟨fun h => (g1 y).mpr h.2, fun h => ⟨?_, (g1 y).mp h⟩⟩, elm_i.mp g2⟩
  obtain ⟨e, he, ee⟩ := up y h
  exact List.mem_map.mpr ⟨e, he, ee⟩
