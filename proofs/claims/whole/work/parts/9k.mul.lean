/-! multiples: their forms, their order -/
theorem mul_z {s : S6} {p q r s' t u : Int} : db (mulF s p q r s' t u) = (dotS s p 0 0 p 0 0, dotS s q r 0 q r 0, dotS s s' t u s' t u, 2 * dotS s q r 0 s' t u, 2 * dotS s p 0 0 s' t u, 2 * dotS s p 0 0 q r 0) := rfl
theorem mul_pD (s : S6) (p q r s' t u : Int) : pDs (db (mulF s p q r s' t u)) = (p * r * u) * (p * r * u) * pDs (db s) := by
  rw [mul_z]
  obtain ⟨a, b, c, d, e, f⟩ := s
  show pD _ _ _ _ _ _ = p * r * u * (p * r * u) * pD a b c (2 * d) (2 * e) (2 * f)
  unfold pD dotS
  simp only
  grind
theorem mul_ab (s : S6) (p q r : Int) : 4 * (dotS s p 0 0 p 0 0 * dotS s q r 0 q r 0) - 2 * dotS s p 0 0 q r 0 * (2 * dotS s p 0 0 q r 0) = 4 * ((p * r) * (p * r)) * (nth6 s 0 * nth6 s 1 - nth6 s 5 * nth6 s 5) := by
  obtain ⟨a, b, c, d, e, f⟩ := s
  unfold dotS nth6
  simp only [Nat.reduceEqDiff, if_true, if_false]
  grind
theorem sqp {x : Int} (h : 0 < x) : 0 < x * x := Int.mul_pos h h
theorem mul_OK {s : S6} (oks : okC s) {p q r s' t u : Int} (hp : 0 < p) (hr : 0 < r) (hu : 0 < u) : OKs (db (mulF s p q r s' t u)) := by
  have hd : 0 < pDs (db (mulF s p q r s' t u)) := by
    rw [mul_pD]
    have a : 0 < pDs (db s) := by
      have := oks.OK.1
      obtain ⟨a, b, c, d, e, f⟩ := s
      exact this.2.2.2.2.2.2
    exact Int.mul_pos (sqp (Int.mul_pos (Int.mul_pos hp hr) hu)) a
  have h2 := mul_ab s p q r
  obtain ⟨n, hn⟩ := oks
  have c7 : 0 < nth6 s 0 * nth6 s 1 - nth6 s 5 * nth6 s 5 := hn.2.2.2.2.2.2.2.1
  have h3 : 0 < 4 * ((p * r) * (p * r)) * (nth6 s 0 * nth6 s 1 - nth6 s 5 * nth6 s 5) := Int.mul_pos (Int.mul_pos (by decide) (sqp (Int.mul_pos hp hr))) c7
  have a0 : 0 < nth6 s 0 := by have := hn.2.1.1; omega
  rw [mul_z] at hd ⊢
  refine PD_mk ?_ ?_ hd
  · have : dotS s p 0 0 p 0 0 = nth6 s 0 * (p * p) := by
      obtain ⟨a, b, c, d, e, f⟩ := s
      unfold dotS nth6
      simp only [if_true]
      grind
    rw [this]
    exact Int.mul_pos a0 (sqp hp)
  · omega
theorem dot_abN {s : S6} (hs : ∀ i, i < 6 → Ab (nth6 s i) 10000) {x1 x2 x3 : Int} {X Y Z : Nat} (h1 : Ab x1 X) (h2 : Ab x2 Y) (h3 : Ab x3 Z) : Ab (dotS s x1 x2 x3 x1 x2 x3) (10000 * ((X + Y + Z) * (X + Y + Z))) := by
  obtain ⟨p, q, r, d, e, g⟩ := s
  have s0 : Ab p 10000 := hs 0 (by decide)
  have s1 : Ab q 10000 := hs 1 (by decide)
  have s2 : Ab r 10000 := hs 2 (by decide)
  have s3 : Ab d 10000 := hs 3 (by decide)
  have s4 : Ab e 10000 := hs 4 (by decide)
  have s5 : Ab g 10000 := hs 5 (by decide)
  have := ((((((s0.mul h1).mul h1).add ((s1.mul h2).mul h2)).add ((s2.mul h3).mul h3)).add (s3.mul ((h2.mul h3).add (h3.mul h2)))).add (s4.mul ((h1.mul h3).add (h3.mul h1)))).add (s5.mul ((h1.mul h2).add (h2.mul h1)))
  refine this.wk (Nat.le_of_eq ?_)
  grind
theorem ab_n (n : Nat) : Ab (n : Int) n := Ab.of (by omega) (by omega)
theorem hn_le {n p q r s t u : Nat} (hn : n ≤ 12) (n1 : 1 ≤ n) (h : HnF n p q r s t u) : 0 < u ∧ p ≤ 12 ∧ q + r ≤ 12 ∧ s + t + u ≤ 12 := by
  obtain ⟨hp, hr, e, hq, hs, ht⟩ := h
  have u0 : 0 < u := by
    rcases Nat.eq_zero_or_pos u with z | z
    · rw [z, Nat.mul_zero] at e; omega
    · exact z
  have a1 : p + r ≤ p * r + 1 := by
    obtain ⟨p', rfl⟩ : ∃ k, p = k + 1 := ⟨p - 1, by omega⟩
    obtain ⟨r', rfl⟩ : ∃ k, r = k + 1 := ⟨r - 1, by omega⟩
    have : (p' + 1) * (r' + 1) = p' * r' + p' + r' + 1 := by grind
    rw [this]
    have := Nat.zero_le (p' * r')
    omega
  have pr0 : 0 < p * r := Nat.mul_pos hp hr
  have a2 : p * r + u ≤ p * r * u + 1 := by
    generalize p * r = m at *
    obtain ⟨m', rfl⟩ : ∃ k, m = k + 1 := ⟨m - 1, by omega⟩
    obtain ⟨u', rfl⟩ : ∃ k, u = k + 1 := ⟨u - 1, by omega⟩
    have : (m' + 1) * (u' + 1) = m' * u' + m' + u' + 1 := by grind
    rw [this]
    have := Nat.zero_le (m' * u')
    omega
  omega
theorem okC.b4 {s : S6} (h : okC s) : ∀ i, i < 6 → Ab (nth6 s i) 10000 := by
  obtain ⟨n, h⟩ := h
  obtain ⟨_, q1, q2, q3, q4, q5, q6, _⟩ := h
  intro i hi
  have : i = 0 ∨ i = 1 ∨ i = 2 ∨ i = 3 ∨ i = 4 ∨ i = 5 := by omega
  rcases this with rfl | rfl | rfl | rfl | rfl | rfl
  · exact q1.ab
  · exact q2.ab
  · exact q3.ab
  · exact q4.ab
  · exact q5.ab
  · exact q6.ab
theorem sq12 {m : Nat} (h : m ≤ 12) : 10000 * (m * m) ≤ 1440000 := by
  have := Nat.mul_le_mul h h
  omega
theorem mul_T {s : S6} (oks : okC s) {n p q r s' t u : Nat} (hn : n ≤ 12) (n1 : 1 ≤ n) (h : HnF n p q r s' t u) : tT (db (mulF s p q r s' t u)) ≤ 4400000 := by
  have hb := oks.b4
  obtain ⟨u0, l1, l2, l3⟩ := hn_le hn n1 h
  have a := (dot_abN hb (ab_n p) (ab_n 0) (ab_n 0)).hi
  have b := (dot_abN hb (ab_n q) (ab_n r) (ab_n 0)).hi
  have c := (dot_abN hb (ab_n s') (ab_n t) (ab_n u)).hi
  have a' := sq12 (m := p + 0 + 0) (by omega)
  have b' := sq12 (m := q + r + 0) (by omega)
  have c' := sq12 (m := s' + t + u) (by omega)
  show dotS s p 0 0 p 0 0 + dotS s q r 0 q r 0 + dotS s s' t u s' t u ≤ 4400000
  have z : ((0 : Nat) : Int) = 0 := rfl
  rw [z] at a b
  omega
/-- the order of six numbers -/
theorem lx6.as {a b : S6} (h : lx6 a b) (h' : lx6 b a) : False := by
  obtain ⟨i, _, h1, h2⟩ := h
  obtain ⟨j, _, k1, k2⟩ := h'
  rcases Nat.lt_trichotomy i j with q | q | q
  · have := k2 i q; omega
  · subst q; omega
  · have := h2 j q; omega
theorem lx6.tr {a b c : S6} (h : lx6 a b) (h' : lx6 b c) : lx6 a c := by
  obtain ⟨i, i1, h1, h2⟩ := h
  obtain ⟨j, j1, k1, k2⟩ := h'
  rcases Nat.lt_trichotomy i j with q | q | q
  · exact ⟨i, i1, by have := k2 i q; omega, fun t ht => (h2 t ht).trans (k2 t (by omega))⟩
  · subst q; exact ⟨i, i1, by omega, fun t ht => (h2 t ht).trans (k2 t ht)⟩
  · exact ⟨j, j1, by have := h2 j q; omega, fun t ht => (h2 t (by omega)).trans (k2 t ht)⟩
theorem s6_ext {a b : S6} (h : ∀ i, i < 6 → nth6 a i = nth6 b i) : a = b := by
  have h0 := h 0 (by decide); have h1 := h 1 (by decide); have h2 := h 2 (by decide); have h3 := h 3 (by decide); have h4 := h 4 (by decide); have h5 := h 5 (by decide)
  obtain ⟨a0, a1, a2, a3, a4, a5⟩ := a
  obtain ⟨b0, b1, b2, b3, b4, b5⟩ := b
  unfold nth6 at *
  simp only [Nat.reduceEqDiff, if_true, if_false] at *
  subst h0 h1 h2 h3 h4 h5
  rfl
theorem MulL.fn {s : S6} {n : Nat} {M M' : List S6} (h : MulL s n M) (h' : MulL s n M') : M = M' := srtG (fun _ _ => lx6.as) h.1 h'.1 (fun x => (h.2 x).trans (h'.2 x).symm)
/-- the order in which both go through the multiples -/
def Bf (p r q s t p' r' q' s' t' : Nat) : Prop := p' < p ∨ (p' = p ∧ (r' < r ∨ (r' = r ∧ (q' < q ∨ (q' = q ∧ (s' < s ∨ (s' = s ∧ t' < t)))))))
def MulM (S : S6) (n p r q s t : Nat) (m : S6) : Prop := ∃ p' q' r' s' t' u', HnF n p' q' r' s' t' u' ∧ Bf p r q s t p' r' q' s' t' ∧ ∃ k v, Red k (db (mulF S p' q' r' s' t' u')) v ∧ m = hf v
def MulP (S : S6) (n p r q s t : Nat) (M : List S6) : Prop := M.Pairwise lx6 ∧ ∀ m, m ∈ M ↔ MulM S n p r q s t m
theorem MulP.iff {S : S6} {n p r q s t p2 r2 q2 s2 t2 : Nat} {M : List S6} (h : MulP S n p r q s t M) (e : ∀ p' q' r' s' t' u', HnF n p' q' r' s' t' u' → (Bf p r q s t p' r' q' s' t' ↔ Bf p2 r2 q2 s2 t2 p' r' q' s' t')) : MulP S n p2 r2 q2 s2 t2 M := by
  refine ⟨h.1, fun m => (h.2 m).trans ⟨?_, ?_⟩⟩
  · rintro ⟨p', q', r', s', t', u', a, b, c⟩
    exact ⟨p', q', r', s', t', u', a, (e _ _ _ _ _ _ a).mp b, c⟩
  · rintro ⟨p', q', r', s', t', u', a, b, c⟩
    exact ⟨p', q', r', s', t', u', a, (e _ _ _ _ _ _ a).mpr b, c⟩
theorem MulP.beg (S : S6) (n : Nat) : MulP S n 1 1 0 0 0 [] := ⟨List.Pairwise.nil, fun m => ⟨fun q => absurd q List.not_mem_nil, fun ⟨p', q', r', s', t', u', a, b, c⟩ => by
  obtain ⟨hp, hr, _⟩ := a
  unfold Bf at b
  omega⟩⟩
theorem MulP.nt {S : S6} {n p r q s : Nat} {M : List S6} (h : MulP S n p r q s r M) : MulP S n p r q (s + 1) 0 M := h.iff (fun p' q' r' s' t' u' ⟨_, _, _, _, _, ht⟩ => by unfold Bf; omega)
theorem MulP.ns {S : S6} {n p r q : Nat} {M : List S6} (h : MulP S n p r q p 0 M) : MulP S n p r (q + 1) 0 0 M := h.iff (fun p' q' r' s' t' u' ⟨_, _, _, _, hs, ht⟩ => by unfold Bf; omega)
theorem MulP.nq {S : S6} {n p r : Nat} {M : List S6} (h : MulP S n p r p 0 0 M) : MulP S n p (r + 1) 0 0 0 M := h.iff (fun p' q' r' s' t' u' ⟨_, _, _, hq, hs, ht⟩ => by unfold Bf; omega)
/-- no multiple where the divisors don't divide -/
theorem MulP.no {S : S6} {n p r : Nat} {M : List S6} (h : MulP S n p r 0 0 0 M) (nd : ∀ u, p * r * u ≠ n) : MulP S n p (r + 1) 0 0 0 M := h.iff (fun p' q' r' s' t' u' ⟨_, _, e, hq, hs, ht⟩ => by
  unfold Bf
  by_cases c : p' = p ∧ r' = r
  · obtain ⟨rfl, rfl⟩ := c
    exact absurd e (nd u')
  · omega)
theorem MulP.nr {S : S6} {n p r : Nat} {M : List S6} (h : MulP S n p r 0 0 0 M) (nd : ∀ r' u, r ≤ r' → p * r' * u ≠ n) : MulP S n (p + 1) 1 0 0 0 M := h.iff (fun p' q' r' s' t' u' ⟨_, hr, e, hq, hs, ht⟩ => by
  unfold Bf
  by_cases c : p' = p ∧ r ≤ r'
  · obtain ⟨rfl, c⟩ := c
    exact absurd e (nd r' u' c)
  · omega)
theorem MulP.end {S : S6} {n p : Nat} {M : List S6} (h : MulP S n p 1 0 0 0 M) (hp : n < p) (n1 : 1 ≤ n) : MulL S n M := by
  refine ⟨h.1, fun m => (h.2 m).trans ⟨?_, ?_⟩⟩
  · rintro ⟨p', q', r', s', t', u', a, _, c⟩
    exact ⟨p', q', r', s', t', u', a, c⟩
  · rintro ⟨p', q', r', s', t', u', a, c⟩
    refine ⟨p', q', r', s', t', u', a, ?_, c⟩
    obtain ⟨_, hr, e, _⟩ := a
    have u0 : 0 < u' := by
      rcases Nat.eq_zero_or_pos u' with z | z
      · rw [z, Nat.mul_zero] at e; omega
      · exact z
    have : p' ≤ p' * r' * u' := by
      rw [Nat.mul_assoc]
      exact Nat.le_mul_of_pos_right p' (Nat.mul_pos hr u0)
    unfold Bf
    omega
/-- one more -/
theorem MulP.add {S : S6} {n p r q s t u k : Nat} {v : S6} {M M' : List S6} (h : MulP S n p r q s t M) (hf' : HnF n p q r s t u) (rd : Red k (db (mulF S p q r s t u)) v) (pw : M'.Pairwise lx6) (mem : ∀ m, m ∈ M' ↔ m = hf v ∨ m ∈ M) : MulP S n p r q s (t + 1) M' := by
  refine ⟨pw, fun m => (mem m).trans ⟨?_, ?_⟩⟩
  · rintro (e | e)
    · exact ⟨p, q, r, s, t, u, hf', by unfold Bf; omega, k, v, rd, e⟩
    · obtain ⟨p', q', r', s', t', u', a, b, c⟩ := (h.2 m).mp e
      exact ⟨p', q', r', s', t', u', a, by unfold Bf at *; omega, c⟩
  · rintro ⟨p', q', r', s', t', u', a, b, k', v', rd', e⟩
    by_cases c : p' = p ∧ r' = r ∧ q' = q ∧ s' = s ∧ t' = t
    · obtain ⟨rfl, rfl, rfl, rfl, rfl⟩ := c
      have eu : u' = u := by
        have e1 := a.2.2.1
        have e2 := hf'.2.2.1
        exact Nat.eq_of_mul_eq_mul_left (Nat.mul_pos a.1 a.2.1) (e1.trans e2.symm)
      subst eu
      exact Or.inl (by rw [e, (rd'.fn rd).2])
    · exact Or.inr ((h.2 m).mpr ⟨p', q', r', s', t', u', a, by unfold Bf at *; omega, k', v', rd', e⟩)
/-- how many there may be -/
def cR (n p : Nat) : Nat → Nat
  | 0 => 0
  | r + 1 => cR n p r + if 0 < r ∧ n % (p * r) = 0 then p * p * r else 0
def cPm (n : Nat) : Nat → Nat
  | 0 => 0
  | p + 1 => cPm n p + if 0 < p then cR n p 13 else 0
theorem c_lat : ∀ n, n < 13 → ∀ p, p < 13 → ∀ r, r < 13 → (0 < p ∧ 0 < r ∧ 0 < n ∧ n % (p * r) = 0) → cPm n p + cR n p r + p * p * r ≤ lat.getD n 0 := by decide +kernel
theorem c_mono : ∀ n, n < 13 → ∀ p, p < 13 → ∀ r, r < 14 → 0 < p → cPm n p + cR n p r ≤ cPm n (p + 1) := by decide +kernel
