/-! products of codes -/
theorem dM_k {k j : Nat} : dM (13824 * k) j = k / 3 ^ (8 - j) % 3 := by
  unfold dM
  rw [Nat.mul_div_cancel_left k (by decide)]
theorem eM_k (k : Nat) : (eM (13824 * k) 0 = (dK k 6561 : Int) - 1 ∧ eM (13824 * k) 1 = (dK k 2187 : Int) - 1 ∧ eM (13824 * k) 2 = (dK k 729 : Int) - 1) ∧ (eM (13824 * k) 3 = (dK k 243 : Int) - 1 ∧ eM (13824 * k) 4 = (dK k 81 : Int) - 1 ∧ eM (13824 * k) 5 = (dK k 27 : Int) - 1) ∧ eM (13824 * k) 6 = (dK k 9 : Int) - 1 ∧ eM (13824 * k) 7 = (dK k 3 : Int) - 1 ∧ eM (13824 * k) 8 = (dK k 1 : Int) - 1 := by
  unfold eM
  simp only [dM_k]
  exact ⟨⟨rfl, rfl, rfl⟩, ⟨rfl, rfl, rfl⟩, rfl, rfl, rfl⟩
def MP (p q r : Nat) : Prop := ∀ j, j < 9 → eM (13824 * r) j = mul9 (eM (13824 * p)) (eM (13824 * q)) j
theorem exp3 (a b c x y z X Y P Q : Nat) : (a * X + b * Y + c) * (x * P + y * Q + z) = a * x * (X * P) + a * y * (X * Q) + a * z * X + b * x * (Y * P) + b * y * (Y * Q) + b * z * Y + c * x * P + c * y * Q + c * z := by
  simp only [Nat.add_mul, Nat.mul_add, Nat.mul_assoc, Nat.mul_comm, Nat.mul_left_comm]
  omega
theorem ent_n {a b c x y z r : Nat} (h : (r : Int) - 1 = ((a : Int) - 1) * ((x : Int) - 1) + ((b : Int) - 1) * ((y : Int) - 1) + ((c : Int) - 1) * ((z : Int) - 1)) : r + (a + b + c) + (x + y + z) = a * x + b * y + c * z + 4 := by
  simp only [Int.sub_mul, Int.mul_sub, Int.one_mul, Int.mul_one] at h
  have e1 : (a : Int) * x = ((a * x : Nat) : Int) := rfl
  have e2 : (b : Int) * y = ((b * y : Nat) : Int) := rfl
  have e3 : (c : Int) * z = ((c * z : Nat) : Int) := rfl
  rw [e1, e2, e3] at h
  omega
theorem dK_le (k i : Nat) : dK k i ≤ 2 := by
  have : k / i % 3 < 3 := Nat.mod_lt _ (by decide)
  show k / i % 3 ≤ 2
  omega
theorem wK_e (k : Nat) : wK k = dK k 6561 * 281474976710656 + dK k 2187 * 4398046511104 + (dK k 729 * 68719476736 + dK k 243 * 1073741824) + (dK k 81 * 16777216 + dK k 27 * 262144 + (dK k 9 * 4096 + dK k 3 * 64)) + dK k 1 := rfl
theorem wK_v (k : Nat) : wK k / 68719476736 = dK k 6561 * 4096 + dK k 2187 * 64 + dK k 729 ∧ wK k / 262144 % 262144 = dK k 243 * 4096 + dK k 81 * 64 + dK k 27 ∧ wK k % 262144 = dK k 9 * 4096 + dK k 3 * 64 + dK k 1 := by
  rw [wK_e]
  have h0 := dK_le k 6561; have h1 := dK_le k 2187; have h2 := dK_le k 729; have h3 := dK_le k 243; have h4 := dK_le k 81; have h5 := dK_le k 27; have h6 := dK_le k 9; have h7 := dK_le k 3; have h8 := dK_le k 1
  refine ⟨?_, ?_, ?_⟩ <;> omega
theorem lz_MP {p q r : Nat} (h : MP p q r) : lz (eKk p) (wK q) = wK r + 4575085335741456 := by
  obtain ⟨⟨p0, p1, p2⟩, ⟨p3, p4, p5⟩, p6, p7, p8⟩ := eM_k p
  obtain ⟨⟨q0, q1, q2⟩, ⟨q3, q4, q5⟩, q6, q7, q8⟩ := eM_k q
  obtain ⟨⟨r0, r1, r2⟩, ⟨r3, r4, r5⟩, r6, r7, r8⟩ := eM_k r
  have e : ∀ i k, k < 3 → 3 * i + k < 9 → eM (13824 * r) (3 * i + k) = eM (13824 * p) (3 * i) * eM (13824 * q) k + eM (13824 * p) (3 * i + 1) * eM (13824 * q) (3 + k) + eM (13824 * p) (3 * i + 2) * eM (13824 * q) (6 + k) := fun i k hk hj => (h _ hj).trans (mul9_at3 _ _ i k hk)
  have e0 := e 0 0 (by decide) (by decide); have e1 := e 0 1 (by decide) (by decide); have e2 := e 0 2 (by decide) (by decide)
  have e3 := e 1 0 (by decide) (by decide); have e4 := e 1 1 (by decide) (by decide); have e5 := e 1 2 (by decide) (by decide)
  have e6 := e 2 0 (by decide) (by decide); have e7 := e 2 1 (by decide) (by decide); have e8 := e 2 2 (by decide) (by decide)
  simp only [Nat.mul_zero, Nat.mul_one, Nat.zero_add, Nat.add_zero, Nat.reduceMul, Nat.reduceAdd, p0, p1, p2, p3, p4, p5, p6, p7, p8, q0, q1, q2, q3, q4, q5, q6, q7, q8, r0, r1, r2, r3, r4, r5, r6, r7, r8] at e0 e1 e2 e3 e4 e5 e6 e7 e8
  have f0 := ent_n e0; have f1 := ent_n e1; have f2 := ent_n e2; have f3 := ent_n e3; have f4 := ent_n e4; have f5 := ent_n e5; have f6 := ent_n e6; have f7 := ent_n e7; have f8 := ent_n e8
  obtain ⟨v0, v1, v2⟩ := wK_v q
  have el : lz (eKk p) (wK q) = ((dK p 6561 * 68719476736 + dK p 243 * 262144 + dK p 9) * (wK q / 68719476736) + (dK p 2187 * 68719476736 + dK p 81 * 262144 + dK p 3) * (wK q / 262144 % 262144) + (dK p 729 * 68719476736 + dK p 27 * 262144 + dK p 1) * (wK q % 262144) + 5718856669676820) - (4161 * ((dK p 6561 * 68719476736 + dK p 243 * 262144 + dK p 9) + (dK p 2187 * 68719476736 + dK p 81 * 262144 + dK p 3) + (dK p 729 * 68719476736 + dK p 27 * 262144 + dK p 1)) + 68719738881 * (wK q / 68719476736 + wK q / 262144 % 262144 + wK q % 262144)) := rfl
  rw [el, v0, v1, v2, exp3, exp3, exp3, wK_e r]
  clear el v0 v1 v2 e0 e1 e2 e3 e4 e5 e6 e7 e8 e h p0 p1 p2 p3 p4 p5 p6 p7 p8 q0 q1 q2 q3 q4 q5 q6 q7 q8 r0 r1 r2 r3 r4 r5 r6 r7 r8
  generalize dK p 6561 = a0 at *; generalize dK p 2187 = a1 at *; generalize dK p 729 = a2 at *
  generalize dK p 243 = a3 at *; generalize dK p 81 = a4 at *; generalize dK p 27 = a5 at *
  generalize dK p 9 = a6 at *; generalize dK p 3 = a7 at *; generalize dK p 1 = a8 at *
  generalize dK q 6561 = b0 at *; generalize dK q 2187 = b1 at *; generalize dK q 729 = b2 at *
  generalize dK q 243 = b3 at *; generalize dK q 81 = b4 at *; generalize dK q 27 = b5 at *
  generalize dK q 9 = b6 at *; generalize dK q 3 = b7 at *; generalize dK q 1 = b8 at *
  generalize dK r 6561 = c0 at *; generalize dK r 2187 = c1 at *; generalize dK r 729 = c2 at *
  generalize dK r 243 = c3 at *; generalize dK r 81 = c4 at *; generalize dK r 27 = c5 at *
  generalize dK r 9 = c6 at *; generalize dK r 3 = c7 at *; generalize dK r 1 = c8 at *
  generalize a0 * b0 = m00 at *; generalize a0 * b1 = m01 at *; generalize a0 * b2 = m02 at *
  generalize a1 * b3 = m13 at *; generalize a1 * b4 = m14 at *; generalize a1 * b5 = m15 at *
  generalize a2 * b6 = m26 at *; generalize a2 * b7 = m27 at *; generalize a2 * b8 = m28 at *
  generalize a3 * b0 = m30 at *; generalize a3 * b1 = m31 at *; generalize a3 * b2 = m32 at *
  generalize a4 * b3 = m43 at *; generalize a4 * b4 = m44 at *; generalize a4 * b5 = m45 at *
  generalize a5 * b6 = m56 at *; generalize a5 * b7 = m57 at *; generalize a5 * b8 = m58 at *
  generalize a6 * b0 = m60 at *; generalize a6 * b1 = m61 at *; generalize a6 * b2 = m62 at *
  generalize a7 * b3 = m73 at *; generalize a7 * b4 = m74 at *; generalize a7 * b5 = m75 at *
  generalize a8 * b6 = m86 at *; generalize a8 * b7 = m87 at *; generalize a8 * b8 = m88 at *
  omega
theorem lz_ok {p q r : Nat} (h : MP p q r) (hr : r < 19683) : lok (lz (eKk p) (wK q)) = true ∧ lsb (lz (eKk p) (wK q)) = wK r := by
  rw [lz_MP h]
  refine ⟨wK_lok hr, ?_⟩
  show wK r + 4575085335741456 - 4575085335741456 = wK r
  omega
def ill : Nat → E5 → Nat → Bool
  | 0, _, _ => false
  | n + 1, e, x => frc (lz e x) fun Z => cond (lok Z) (frc (lsb Z) fun y => ill n e y) true
def CdC (Q : Nat → Prop) : Prop := (∀ k, Q k → k < 19683) ∧ ∀ p q, Q p → Q q → ∃ r, Q r ∧ MP p q r
theorem ill_n {Q : Nat → Prop} (hc : CdC Q) {k : Nat} (hk : Q k) : ∀ n m, Q m → ill n (eKk k) (wK m) = false
  | 0, _, _ => rfl
  | n + 1, m, hm => by
    obtain ⟨r, h1, h2⟩ := hc.2 k m hk hm
    obtain ⟨l1, l2⟩ := lz_ok h2 (hc.1 r h1)
    rw [ill, frc_e, l1, cond_true, frc_e, l2]
    exact ill_n hc hk n r h1
def ckB (k : Nat) : Bool := or (not (decide (det9 (eM (13824 * k)) = 1))) (or (ill 5 (eKk k) (wK k)) (elm k rcL))
set_option maxRecDepth 100000 in
theorem kb_0 : allN ckB 0 2000 = true := by decide +kernel
set_option maxRecDepth 100000 in
theorem kb_1 : allN ckB 2000 2000 = true := by decide +kernel
set_option maxRecDepth 100000 in
theorem kb_2 : allN ckB 4000 2000 = true := by decide +kernel
set_option maxRecDepth 100000 in
theorem kb_3 : allN ckB 6000 2000 = true := by decide +kernel
set_option maxRecDepth 100000 in
theorem kb_4 : allN ckB 8000 2000 = true := by decide +kernel
set_option maxRecDepth 100000 in
theorem kb_5 : allN ckB 10000 2000 = true := by decide +kernel
set_option maxRecDepth 100000 in
theorem kb_6 : allN ckB 12000 2000 = true := by decide +kernel
set_option maxRecDepth 100000 in
theorem kb_7 : allN ckB 14000 2000 = true := by decide +kernel
set_option maxRecDepth 100000 in
theorem kb_8 : allN ckB 16000 2000 = true := by decide +kernel
set_option maxRecDepth 100000 in
theorem kb_9 : allN ckB 18000 1683 = true := by decide +kernel
theorem ckB_all {k : Nat} (h : k < 19683) : ckB k = true := by
  by_cases h0 : k < 2000
  · exact allN_s kb_0 k (by omega) (by omega)
  by_cases h1 : k < 4000
  · exact allN_s kb_1 k (by omega) (by omega)
  by_cases h2 : k < 6000
  · exact allN_s kb_2 k (by omega) (by omega)
  by_cases h3 : k < 8000
  · exact allN_s kb_3 k (by omega) (by omega)
  by_cases h4 : k < 10000
  · exact allN_s kb_4 k (by omega) (by omega)
  by_cases h5 : k < 12000
  · exact allN_s kb_5 k (by omega) (by omega)
  by_cases h6 : k < 14000
  · exact allN_s kb_6 k (by omega) (by omega)
  by_cases h7 : k < 16000
  · exact allN_s kb_7 k (by omega) (by omega)
  by_cases h8 : k < 18000
  · exact allN_s kb_8 k (by omega) (by omega)
  exact allN_s kb_9 k (by omega) (by omega)
theorem rc_mem {Q : Nat → Prop} (hc : CdC Q) {k : Nat} (hk : Q k) (hd : det9 (eM (13824 * k)) = 1) : k ∈ rcL := by
  have c := ckB_all (hc.1 k hk)
  unfold ckB at c
  rw [Bool.or_eq_true, Bool.or_eq_true, ill_n hc hk 5 k hk] at c
  rcases c with c | c | c
  · rw [hd] at c; exact absurd c (by decide)
  · exact Bool.noConfusion c
  · exact elm_i.mp c
