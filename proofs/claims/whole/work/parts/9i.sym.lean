/-! the class counts what keeps a form -/
def pt (i : Nat) : V3 := ((i / 9 % 3 : Nat) - 1, (i / 3 % 3 : Nat) - 1, (i % 3 : Nat) - 1)
def en3 (i j k : Nat) : Nat := 6561 * (i / 9 % 3) + 2187 * (j / 9 % 3) + 729 * (k / 9 % 3) + 243 * (i / 3 % 3) + 81 * (j / 3 % 3) + 27 * (k / 3 % 3) + 9 * (i % 3) + 3 * (j % 3) + k % 3
theorem dig9 {m0 m1 m2 m3 m4 m5 m6 m7 m8 n : Nat} (h0 : m0 < 3) (h1 : m1 < 3) (h2 : m2 < 3) (h3 : m3 < 3) (h4 : m4 < 3) (h5 : m5 < 3) (h6 : m6 < 3) (h7 : m7 < 3) (h8 : m8 < 3) (e : n = 6561 * m0 + 2187 * m1 + 729 * m2 + 243 * m3 + 81 * m4 + 27 * m5 + 9 * m6 + 3 * m7 + m8) : (n / 6561 % 3 = m0 ∧ n / 2187 % 3 = m1 ∧ n / 729 % 3 = m2) ∧ (n / 243 % 3 = m3 ∧ n / 81 % 3 = m4 ∧ n / 27 % 3 = m5) ∧ (n / 9 % 3 = m6 ∧ n / 3 % 3 = m7 ∧ n % 3 = m8) := by omega
theorem en3_lt (i j k : Nat) : en3 i j k < 19683 := by unfold en3; omega
theorem en3_dig (i j k : Nat) : (en3 i j k / 6561 % 3 = i / 9 % 3 ∧ en3 i j k / 2187 % 3 = j / 9 % 3 ∧ en3 i j k / 729 % 3 = k / 9 % 3) ∧ (en3 i j k / 243 % 3 = i / 3 % 3 ∧ en3 i j k / 81 % 3 = j / 3 % 3 ∧ en3 i j k / 27 % 3 = k / 3 % 3) ∧ (en3 i j k / 9 % 3 = i % 3 ∧ en3 i j k / 3 % 3 = j % 3 ∧ en3 i j k % 3 = k % 3) :=
  dig9 (Nat.mod_lt _ (by decide)) (Nat.mod_lt _ (by decide)) (Nat.mod_lt _ (by decide)) (Nat.mod_lt _ (by decide)) (Nat.mod_lt _ (by decide)) (Nat.mod_lt _ (by decide)) (Nat.mod_lt _ (by decide)) (Nat.mod_lt _ (by decide)) (Nat.mod_lt _ (by decide)) rfl
theorem en3_inj {i j k i' j' k' : Nat} (hi : i < 27) (hj : j < 27) (hk : k < 27) (hi' : i' < 27) (hj' : j' < 27) (hk' : k' < 27) (e : en3 i j k = en3 i' j' k') : i = i' ∧ j = j' ∧ k = k' := by
  have a := en3_dig i j k
  have b := en3_dig i' j' k'
  rw [e] at a
  obtain ⟨⟨a1, a2, a3⟩, ⟨a4, a5, a6⟩, a7, a8, a9⟩ := a
  obtain ⟨⟨b1, b2, b3⟩, ⟨b4, b5, b6⟩, b7, b8, b9⟩ := b
  rw [a1] at b1; rw [a2] at b2; rw [a3] at b3; rw [a4] at b4; rw [a5] at b5; rw [a6] at b6; rw [a7] at b7; rw [a8] at b8; rw [a9] at b9
  clear a1 a2 a3 a4 a5 a6 a7 a8 a9 e
  omega
theorem en3_sur {n : Nat} (hn : n < 19683) : ∃ i j k, i < 27 ∧ j < 27 ∧ k < 27 ∧ n = en3 i j k := by
  refine ⟨9 * (n / 6561 % 3) + 3 * (n / 243 % 3) + n / 9 % 3, 9 * (n / 2187 % 3) + 3 * (n / 81 % 3) + n / 3 % 3, 9 * (n / 729 % 3) + 3 * (n / 27 % 3) + n % 3, by omega, by omega, by omega, ?_⟩
  have key : ∀ p q r : Nat, p < 3 → q < 3 → r < 3 → (9 * p + 3 * q + r) / 9 % 3 = p ∧ (9 * p + 3 * q + r) / 3 % 3 = q ∧ (9 * p + 3 * q + r) % 3 = r := fun p q r h1 h2 h3 => by omega
  unfold en3
  have k1 := key (n / 6561 % 3) (n / 243 % 3) (n / 9 % 3) (by omega) (by omega) (by omega)
  have k2 := key (n / 2187 % 3) (n / 81 % 3) (n / 3 % 3) (by omega) (by omega) (by omega)
  have k3 := key (n / 729 % 3) (n / 27 % 3) (n % 3) (by omega) (by omega) (by omega)
  rw [k1.1, k1.2.1, k1.2.2, k2.1, k2.2.1, k2.2.2, k3.1, k3.2.1, k3.2.2]
  clear k1 k2 k3 key
  have f0 : n = 3 * (n / 3) + n % 3 := by omega
  have f1 : n / 3 = 3 * (n / 9) + n / 3 % 3 := by omega
  have f2 : n / 9 = 3 * (n / 27) + n / 9 % 3 := by omega
  have f3 : n / 27 = 3 * (n / 81) + n / 27 % 3 := by omega
  have f4 : n / 81 = 3 * (n / 243) + n / 81 % 3 := by omega
  have f5 : n / 243 = 3 * (n / 729) + n / 243 % 3 := by omega
  have f6 : n / 729 = 3 * (n / 2187) + n / 729 % 3 := by omega
  have f7 : n / 2187 = 3 * (n / 6561) + n / 2187 % 3 := by omega
  have f8 : n / 6561 = n / 6561 % 3 := by omega
  generalize n % 3 = d0 at *
  generalize n / 3 % 3 = d1 at *
  generalize n / 9 % 3 = d2 at *
  generalize n / 27 % 3 = d3 at *
  generalize n / 81 % 3 = d4 at *
  generalize n / 243 % 3 = d5 at *
  generalize n / 729 % 3 = d6 at *
  generalize n / 2187 % 3 = d7 at *
  generalize n / 6561 % 3 = d8 at *
  generalize n / 3 = q1 at *
  generalize n / 9 = q2 at *
  generalize n / 27 = q3 at *
  generalize n / 81 = q4 at *
  generalize n / 243 = q5 at *
  generalize n / 729 = q6 at *
  generalize n / 2187 = q7 at *
  generalize n / 6561 = q8 at *
  omega
theorem en3_col (i j k : Nat) : colV (eM (13824 * en3 i j k)) 0 = pt i ∧ colV (eM (13824 * en3 i j k)) 1 = pt j ∧ colV (eM (13824 * en3 i j k)) 2 = pt k := by
  have d : 13824 * en3 i j k / 13824 = en3 i j k := by omega
  obtain ⟨⟨a1, a2, a3⟩, ⟨a4, a5, a6⟩, a7, a8, a9⟩ := en3_dig i j k
  have e : ∀ q v, 0 < q → en3 i j k / q % 3 = v → en3 i j k / q % 3 = v := fun _ _ _ w => w
  unfold colV pt eM dM
  rw [d]
  simp only [Nat.reduceSub, Nat.reducePow, Nat.reduceAdd, Nat.sub_zero, Nat.pow_zero, Nat.pow_one, Nat.div_one, Nat.sub_self]
  rw [a1, a2, a3, a4, a5, a6, a7, a8, a9]
  exact ⟨rfl, rfl, rfl⟩
def C1 (s : S6) (i : Nat) : Prop := dotS s (pt i).1 (pt i).2.1 (pt i).2.2 (pt i).1 (pt i).2.1 (pt i).2.2 = nth6 s 0
def C2 (s : S6) (i j : Nat) : Prop := dotS s (pt j).1 (pt j).2.1 (pt j).2.2 (pt j).1 (pt j).2.1 (pt j).2.2 = nth6 s 1 ∧ dotS s (pt i).1 (pt i).2.1 (pt i).2.2 (pt j).1 (pt j).2.1 (pt j).2.2 = nth6 s 5
def C3 (s : S6) (i j k : Nat) : Prop := dotS s (pt k).1 (pt k).2.1 (pt k).2.2 (pt k).1 (pt k).2.1 (pt k).2.2 = nth6 s 2 ∧ dotS s (pt i).1 (pt i).2.1 (pt i).2.2 (pt k).1 (pt k).2.1 (pt k).2.2 = nth6 s 4 ∧ dotS s (pt j).1 (pt j).2.1 (pt j).2.2 (pt k).1 (pt k).2.1 (pt k).2.2 = nth6 s 3
theorem kp_123 {s : S6} {i j k : Nat} : KpM s (eM (13824 * en3 i j k)) ↔ C1 s i ∧ C2 s i j ∧ C3 s i j k := by
  unfold KpM
  rw [(en3_col i j k).1, (en3_col i j k).2.1, (en3_col i j k).2.2]
  unfold kpS C1 C2 C3
  exact ⟨fun ⟨a, b, c, d, e, f⟩ => ⟨a, ⟨b, f⟩, c, e, d⟩, fun ⟨a, ⟨b, f⟩, c, e, d⟩ => ⟨a, b, c, d, e, f⟩⟩
noncomputable def pif {α : Type} (P : Prop) (L : List α) : List α := @ite _ P (Classical.propDecidable P) L []
theorem pif_y {α : Type} {P : Prop} {L : List α} (h : P) : pif P L = L := if_pos h
theorem pif_n {α : Type} {P : Prop} {L : List α} (h : ¬ P) : pif P L = [] := if_neg h
theorem pif_m {α : Type} {P : Prop} {L : List α} {x : α} : x ∈ pif P L ↔ P ∧ x ∈ L := by
  by_cases h : P
  · rw [pif_y h]; exact ⟨fun q => ⟨h, q⟩, fun q => q.2⟩
  · rw [pif_n h]; exact ⟨fun q => absurd q List.not_mem_nil, fun q => absurd q.1 h⟩
noncomputable def gL {α : Type} (P : Nat → Prop) (F : Nat → List α) : Nat → List α
  | 0 => []
  | n + 1 => gL P F n ++ pif (P n) (F n)
theorem gL_m {α : Type} {P : Nat → Prop} {F : Nat → List α} {x : α} : ∀ n, x ∈ gL P F n ↔ ∃ k, k < n ∧ P k ∧ x ∈ F k
  | 0 => ⟨fun q => absurd q List.not_mem_nil, fun ⟨k, q, _⟩ => absurd q (Nat.not_lt_zero k)⟩
  | n + 1 => by
    show x ∈ gL P F n ++ pif (P n) (F n) ↔ _
    rw [List.mem_append, gL_m n, pif_m]
    constructor
    · rintro (⟨k, a, b, c⟩ | ⟨b, c⟩)
      · exact ⟨k, by omega, b, c⟩
      · exact ⟨n, by omega, b, c⟩
    · rintro ⟨k, a, b, c⟩
      by_cases e : k = n
      · subst e; exact Or.inr ⟨b, c⟩
      · exact Or.inl ⟨k, by omega, b, c⟩
theorem gL_nd {α : Type} {P : Nat → Prop} {F : Nat → List α} : ∀ n, (∀ k, k < n → P k → (F k).Nodup) → (∀ k k', k < n → k' < n → ∀ x, x ∈ F k → x ∈ F k' → k = k') → (gL P F n).Nodup
  | 0, _, _ => List.nodup_nil
  | n + 1, h1, h2 => by
    show (gL P F n ++ pif (P n) (F n)).Nodup
    refine List.nodup_append.mpr ⟨gL_nd n (fun k hk => h1 k (by omega)) (fun k k' hk hk' => h2 k k' (by omega) (by omega)), ?_, fun a ha b hb e => ?_⟩
    · by_cases q : P n
      · rw [pif_y q]; exact h1 n (by omega) q
      · rw [pif_n q]; exact List.nodup_nil
    · subst e
      obtain ⟨k, hk, _, m⟩ := (gL_m n).mp ha
      have := h2 k n (by omega) (by omega) a m (pif_m.mp hb).2
      omega
noncomputable def LK (s : S6) (i j n : Nat) : List Nat := gL (C3 s i j) (fun k => [en3 i j k]) n
noncomputable def LJ (s : S6) (i n : Nat) : List Nat := gL (C2 s i) (fun j => LK s i j 27) n
noncomputable def LI (s : S6) (n : Nat) : List Nat := gL (C1 s) (fun i => LJ s i 27) n
theorem LI_N (s : S6) : symN s = (LI s 27).length := by
  have mK : ∀ i j x, x ∈ LK s i j 27 ↔ ∃ k, k < 27 ∧ C3 s i j k ∧ x = en3 i j k := fun i j x => by
    unfold LK
    rw [gL_m]
    exact ⟨fun ⟨k, a, b, c⟩ => ⟨k, a, b, List.mem_singleton.mp c⟩, fun ⟨k, a, b, c⟩ => ⟨k, a, b, List.mem_singleton.mpr c⟩⟩
  have mJ : ∀ i x, x ∈ LJ s i 27 ↔ ∃ j k, j < 27 ∧ k < 27 ∧ C2 s i j ∧ C3 s i j k ∧ x = en3 i j k := fun i x => by
    unfold LJ
    rw [gL_m]
    constructor
    · rintro ⟨j, a, b, c⟩
      obtain ⟨k, d, e, f⟩ := (mK i j x).mp c
      exact ⟨j, k, a, d, b, e, f⟩
    · rintro ⟨j, k, a, d, b, e, f⟩
      exact ⟨j, a, b, (mK i j x).mpr ⟨k, d, e, f⟩⟩
  have mI : ∀ x, x ∈ LI s 27 ↔ ∃ i j k, i < 27 ∧ j < 27 ∧ k < 27 ∧ C1 s i ∧ C2 s i j ∧ C3 s i j k ∧ x = en3 i j k := fun x => by
    unfold LI
    rw [gL_m]
    constructor
    · rintro ⟨i, a, b, c⟩
      obtain ⟨j, k, d, e, f, g, q⟩ := (mJ i x).mp c
      exact ⟨i, j, k, a, d, e, b, f, g, q⟩
    · rintro ⟨i, j, k, a, d, e, b, f, g, q⟩
      exact ⟨i, a, b, (mJ i x).mpr ⟨j, k, d, e, f, g, q⟩⟩
  have nd : (LI s 27).Nodup := by
    refine gL_nd 27 (fun i hi _ => gL_nd 27 (fun j hj _ => gL_nd 27 (fun k hk _ => by simp) (fun k k' hk hk' x a b => ?_)) (fun j j' hj hj' x a b => ?_)) (fun i i' hi hi' x a b => ?_)
    · have := (List.mem_singleton.mp a).symm.trans (List.mem_singleton.mp b)
      exact (en3_inj hi hj hk hi hj hk' this).2.2
    · obtain ⟨k, hk, _, e⟩ := (mK i j x).mp a
      obtain ⟨k', hk', _, e'⟩ := (mK i j' x).mp b
      exact (en3_inj hi hj hk hi hj' hk' (e.symm.trans e')).2.1
    · obtain ⟨j, k, hj, hk, _, _, e⟩ := (mJ i x).mp a
      obtain ⟨j', k', hj', hk', _, _, e'⟩ := (mJ i' x).mp b
      exact (en3_inj hi hj hk hi' hj' hk' (e.symm.trans e')).1
  refine len_eq (List.nodup_range.filter _) nd (fun n => ?_)
  rw [List.mem_filter, List.mem_range, mI]
  constructor
  · rintro ⟨hn, q⟩
    have q := @of_decide_eq_true _ (Classical.propDecidable _) q
    obtain ⟨i, j, k, hi, hj, hk, e⟩ := en3_sur hn
    rw [e] at q
    have := (kp_123 (s := s)).mp q
    exact ⟨i, j, k, hi, hj, hk, this.1, this.2.1, this.2.2, e⟩
  · rintro ⟨i, j, k, hi, hj, hk, a, b, c, e⟩
    refine ⟨by rw [e]; exact en3_lt i j k, @decide_eq_true _ (Classical.propDecidable _) ?_⟩
    rw [e]
    exact (kp_123 (s := s)).mpr ⟨a, b, c⟩
