/-! codes of matrices, and their numbers of sixty-fours -/
def dK (k i : Nat) : Nat := Nat.mod (Nat.div k i) 3
def wK (k : Nat) : Nat := Nat.add (Nat.add (Nat.add (Nat.add (Nat.mul (dK k 6561) 281474976710656) (Nat.mul (dK k 2187) 4398046511104)) (Nat.add (Nat.mul (dK k 729) 68719476736) (Nat.mul (dK k 243) 1073741824))) (Nat.add (Nat.add (Nat.mul (dK k 81) 16777216) (Nat.mul (dK k 27) 262144)) (Nat.add (Nat.mul (dK k 9) 4096) (Nat.mul (dK k 3) 64)))) (dK k 1)
def aK (k p q r : Nat) : Nat := Nat.add (Nat.add (Nat.mul (dK k p) 68719476736) (Nat.mul (dK k q) 262144)) (dK k r)
def eKk (k : Nat) : E5 := (wK k, aK k 6561 243 9, aK k 2187 81 3, aK k 729 27 1, Nat.mul 4161 (Nat.add (Nat.add (aK k 6561 243 9) (aK k 2187 81 3)) (aK k 729 27 1)))
def allN (p : Nat → Bool) : Nat → Nat → Bool
  | _, 0 => true
  | a, n + 1 => and (p a) (allN p (Nat.succ a) n)
theorem allN_s {p : Nat → Bool} : ∀ {n a : Nat}, allN p a n = true → ∀ k, a ≤ k → k < a + n → p k = true
  | 0, a, _, k, h1, h2 => absurd h2 (by omega)
  | n + 1, a, h, k, h1, h2 => by
    rw [allN, Bool.and_eq_true] at h
    by_cases e : k = a
    · rw [e]; exact h.1
    · exact allN_s h.2 k (by omega) (by omega)
def rtE : List E5 → List Nat → Bool
  | [], [] => true
  | e :: t, k :: l => and (and (and (Nat.beq e.1 (wK k)) (Nat.blt k 19683)) (and (and (Nat.beq e.2.1 (eKk k).2.1) (Nat.beq e.2.2.1 (eKk k).2.2.1)) (and (Nat.beq e.2.2.2.1 (eKk k).2.2.2.1) (Nat.beq e.2.2.2.2 (eKk k).2.2.2.2)))) (rtE t l)
  | _, _ => false
set_option maxRecDepth 100000 in
theorem rt_E : rtE rtL rcL = true := by decide +kernel
theorem rtE_s : ∀ {t : List E5} {l : List Nat}, rtE t l = true → (∀ e ∈ t, ∃ k ∈ l, k < 19683 ∧ e = eKk k) ∧ ∀ k ∈ l, eKk k ∈ t
  | [], [], _ => ⟨fun e he => absurd he List.not_mem_nil, fun k hk => absurd hk List.not_mem_nil⟩
  | e :: t, k :: l, h => by
    rw [rtE, Bool.and_eq_true, Bool.and_eq_true, Bool.and_eq_true, Bool.and_eq_true, Bool.and_eq_true, Bool.and_eq_true] at h
    obtain ⟨⟨⟨a1, a2⟩, ⟨a3, a4⟩, a5, a6⟩, a7⟩ := h
    have ee : e = eKk k := by
      obtain ⟨e1, e2, e3, e4, e5⟩ := e
      exact Prod.ext (Nat.eq_of_beq_eq_true a1) (Prod.ext (Nat.eq_of_beq_eq_true a3) (Prod.ext (Nat.eq_of_beq_eq_true a4) (Prod.ext (Nat.eq_of_beq_eq_true a5) (Nat.eq_of_beq_eq_true a6))))
    obtain ⟨r1, r2⟩ := rtE_s a7
    exact ⟨fun x hx => (List.mem_cons.mp hx).elim (fun q => ⟨k, List.mem_cons_self, Nat.ble_eq.mp a2, q.trans ee⟩) (fun q => by obtain ⟨m, h1, h2⟩ := r1 x q; exact ⟨m, List.mem_cons_of_mem _ h1, h2⟩), fun x hx => (List.mem_cons.mp hx).elim (fun q => by rw [q, ← ee]; exact List.mem_cons_self) (fun q => List.mem_cons_of_mem _ (r2 x q))⟩
  | [], k :: l, h => Bool.noConfusion h
  | e :: t, [], h => Bool.noConfusion h
/-- numbers ascend with codes; digits within their fields are seen -/
def ckA (k : Nat) : Bool := and (Nat.blt (wK k) (wK (Nat.succ k))) (lok (Nat.add (wK k) 4575085335741456))
set_option maxRecDepth 100000 in
theorem ck_0 : allN ckA 0 5000 = true := by decide +kernel
set_option maxRecDepth 100000 in
theorem ck_1 : allN ckA 5000 5000 = true := by decide +kernel
set_option maxRecDepth 100000 in
theorem ck_2 : allN ckA 10000 5000 = true := by decide +kernel
set_option maxRecDepth 100000 in
theorem ck_3 : allN ckA 15000 4682 = true := by decide +kernel
theorem lok_last : lok (wK 19682 + 4575085335741456) = true := by decide +kernel
theorem ck_all {k : Nat} (h : k < 19682) : wK k < wK (k + 1) ∧ lok (wK k + 4575085335741456) = true := by
  have c : ckA k = true := by
    by_cases h1 : k < 5000
    · exact allN_s ck_0 k (by omega) (by omega)
    · by_cases h2 : k < 10000
      · exact allN_s ck_1 k (by omega) (by omega)
      · by_cases h3 : k < 15000
        · exact allN_s ck_2 k (by omega) (by omega)
        · exact allN_s ck_3 k (by omega) (by omega)
  unfold ckA at c
  rw [Bool.and_eq_true] at c
  exact ⟨Nat.ble_eq.mp c.1, c.2⟩
theorem wK_lok {k : Nat} (h : k < 19683) : lok (wK k + 4575085335741456) = true := by
  by_cases e : k = 19682
  · rw [e]; exact lok_last
  · exact (ck_all (by omega)).2
theorem wK_mono : ∀ {d k : Nat}, k + d + 1 < 19683 → wK k < wK (k + d + 1)
  | 0, k, h => (ck_all (by omega)).1
  | d + 1, k, h => Nat.lt_trans (wK_mono (d := d) (k := k) (by omega)) (ck_all (k := k + d + 1) (by omega)).1
theorem wK_lt {k m : Nat} (h : k < m) (hm : m < 19683) : wK k < wK m := by
  have := wK_mono (d := m - k - 1) (k := k) (by omega)
  rw [show k + (m - k - 1) + 1 = m by omega] at this
  exact this
theorem wK_inj {k m : Nat} (hk : k < 19683) (hm : m < 19683) (e : wK k = wK m) : k = m := by
  rcases Nat.lt_trichotomy k m with h | h | h
  · have := wK_lt h hm; omega
  · exact h
  · have := wK_lt h hk; omega
