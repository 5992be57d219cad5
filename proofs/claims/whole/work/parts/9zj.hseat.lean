/-! the class's lines: the seat of a Q, a new row -/
def LnK (h : MH) (y m : Nat) : Prop := (kd h y = 5 ∧ mr h y 1 = y + 1 ∧ mr h y 2 = y + 2) ∧ kd h (y + 1) = 21 ∧ ln h (y + 1) = 6 * (bN m / 2) ∧ kd h (y + 2) = 20 ∧ ln h (y + 2) = bN m / 2
theorem LnK.s {h : MH} {f : (Nat → Nat → Int32)} {l : (Nat → Nat → Int64)} {y m : Nat} (H : SS h) (k : LnK h y m) : LnK (sil h f l) y m := by
  unfold LnK at *
  rw [kd_sil H, ln_sil H, mr_sil H]
  exact k
def LnR (f : (Nat → Nat → Int32)) (l : (Nat → Nat → Int64)) (y : Nat) (L : List Int) (V : Int → Nat → Int) : Prop := f y 3 = nI L.length ∧ ∃ o : Nat → Nat, (∀ k, k < L.length → o k < L.length ∧ f (y + 2) k = nI (o k)) ∧ (∀ j k, j < L.length → k < L.length → o j = o k → j = k) ∧ ∀ k, k < L.length → ∀ i, i < 6 → l (y + 1) (6 * o k + i) = zL (V (L.getD k 0) i)
theorem sp_Lines_seat {h : MH} {f : (Nat → Nat → Int32)} {l : (Nat → Nat → Int64)} {y m : Nat} {L : List Int} {V : Int → Nat → Int} {q : Int} (H : SS h) (hm : m < 7) (lk : LnK h y m) (r : LnR f l y L V) (V0 : ∀ x, V x 0 = x) (so : L.Pairwise (· < ·)) (le : L.length ≤ bN m / 2) (lb : ∀ x ∈ L, -1000000000000 ≤ x ∧ x ≤ 1000000000000) (qb : -1000000000000 ≤ q ∧ q ≤ 1000000000000) :
    SpI k_Lines_seat [.ref y, .long (zL q)] (sil h f l) (fun r g => g = sil h f l ∧ ∃ k, k ≤ L.length ∧ r = nI k ∧ (∀ i, i < k → L.getD i 0 < q) ∧ ∀ i, k ≤ i → i < L.length → q ≤ L.getD i 0) := by
  have hl := half_le hm
  have lks : LnK (sil h f l) y m := lk.s H
  obtain ⟨⟨k0, r1, r2⟩, k1, n1, k2, n2⟩ := lks
  obtain ⟨e3, o, o1, _, o3⟩ := r
  have m6 : ∀ a : Nat, (6 : Int32) * nI a = nI (6 * a) := fun a => nI_mul 6 a
  refine v_Lines_seat _ _ _ _ ⟨k0, ?_⟩
  rw [mi_sil, e3]
  have loop : ∀ (d low high i : Nat), high - low ≤ d → low ≤ high → high ≤ L.length → i ≤ 32 → high - low < 2 ^ (32 - i) → (∀ j, j < low → L.getD j 0 < q) → (∀ j, high ≤ j → j < L.length → q ≤ L.getD j 0) →
      WM k_Lines_seat p_Lines_seat_1 [.ref y, .long (zL q), Jv, .int (nI low), .int (nI high), .int (nI i), Jv] [] (sil h f l) 0 0 (fun v g => ∃ r, v = .int r ∧ g = sil h f l ∧ ∃ k, k ≤ L.length ∧ r = nI k ∧ (∀ i, i < k → L.getD i 0 < q) ∧ ∀ i, k ≤ i → i < L.length → q ≤ L.getD i 0) := by
    intro d
    induction d with
    | zero =>
      intro low high i h1 h2 h3 h4 h5 h6 h7
      have e : low = high := by omega
      subst e
      exact v_Lines_seat_1 _ _ _ _ _ _ _ ⟨fun c1 => ⟨fun c2 => absurd c2 (by omega), fun c2 => ⟨_, rfl, rfl, low, h3, rfl, h6, h7⟩⟩, fun c1 => ⟨_, rfl, rfl, low, h3, rfl, h6, h7⟩⟩
    | succ d ih =>
      intro low high i h1 h2 h3 h4 h5 h6 h7
      have t1 : (nI low).toInt = (low : Int) := nI_toInt (by omega)
      have t2 : (nI high).toInt = (high : Int) := nI_toInt (by omega)
      have t3 : (nI i).toInt = (i : Int) := nI_toInt (by omega)
      have t32 : (32 : Int32).toInt = 32 := rfl
      refine v_Lines_seat_1 _ _ _ _ _ _ _ ?_
      rw [mid_nI (by omega) (by omega), t1, t2, t3, t32]
      refine ⟨fun c1 => ⟨fun c2 => ?_, fun c2 => ⟨_, rfl, rfl, low, by omega, rfl, h6, fun j q1 q2 => h7 j (by omega) q2⟩⟩, fun c1 => ?_⟩
      · have hm : (low + high) / 2 < high := by omega
        have hm2 : low ≤ (low + high) / 2 := by omega
        have hi : i < 32 := by omega
        have hp : 2 ^ (32 - i) = 2 * 2 ^ (32 - (i + 1)) := by rw [show 32 - i = (32 - (i + 1)) + 1 by omega, Nat.pow_succ]; omega
        have ml : (low + high) / 2 < L.length := by omega
        generalize hM : (low + high) / 2 = M at *
        have om := o1 M ml
        have b := lb _ (zgetD_mem ml)
        have v : l (y + 1) (6 * o M) = zL (L.getD M 0) := (o3 M ml 0 (by decide)).trans (by rw [V0])
        rw [r1, r2, ix_nI (a := M) (by omega), mi_sil, om.2, m6, ix_nI (by omega), ml_sil, v, lz_lt b.1 b.2 qb.1 qb.2, nI_1, nI_1, n1, n2]
        refine ⟨k0, k2, InB_nI (by omega) (by omega), k1, InB_nI (by omega) (by omega), fun c3 => ih _ _ _ (by omega) (by omega) h3 (by omega) (by omega) (fun j hj => ?_) h7, fun c3 => ih _ _ _ (by omega) (by omega) (by omega) (by omega) (by omega) h6 (fun j q1 q2 => ?_)⟩
        · by_cases e : j = M
          · rw [e]; exact c3
          · have := zsrt_lt so (show j < M by omega) ml
            omega
        · by_cases e : j = M
          · rw [e]; omega
          · have := zsrt_lt so (show M < j by omega) q2
            omega
      · have hi : i = 32 := by omega
        subst hi
        exact ⟨_, rfl, rfl, low, by omega, rfl, h6, fun j q1 q2 => h7 j (by simp at h5; omega) q2⟩
  exact loop L.length 0 L.length 0 (by omega) (by omega) (by omega) (by omega) (by simp; omega) (fun j hj => by omega) (fun j h1 h2 => by omega)
theorem sp_startRow {h : MH} {f : (Nat → Nat → Int32)} {l : (Nat → Nat → Int64)} {y m r : Nat} {q : Int} (H : SS h) (hm : m < 7) (lk : LnK h y m) (hr : r + 6 ≤ 6 * (bN m / 2)) :
    SpV k_Lines_startRow [.ref y, .int (nI r), .long (zL q)] (sil h f l) (fun g => ∃ l', g = sil h f l' ∧ Fr [y + 1] l l' ∧ (∀ j, (j < r ∨ r + 6 ≤ j) → l' (y + 1) j = l (y + 1) j) ∧ l' (y + 1) r = zL q ∧ ∀ i, 1 ≤ i → i < 6 → l' (y + 1) (r + i) = zL 0) := by
  have hl := half_le hm
  have lks : ∀ l', LnK (sil h f l') y m := fun l' => lk.s H
  have r1 : ∀ l', mr (sil h f l') y 1 = y + 1 := fun l' => (lks l').1.2.1
  have n1 : ∀ l', ln (sil h f l') (y + 1) = 6 * (bN m / 2) := fun l' => (lks l').2.2.1
  have t6 : (6 : Int32).toInt = 6 := rfl
  have me : y + 1 ∈ [y + 1] := List.mem_cons_self
  refine v_Lines_startRow _ _ _ _ _ ⟨(lks l).1.1, ?_⟩
  rw [r1, n1, ix_nI (by omega)]
  refine ⟨(lks l).2.1, InB_nI (by omega) (by omega), ?_⟩
  rintro _ rfl
  rw [wl_sil]
  have go : ∀ d i (l1 : (Nat → Nat → Int64)), 6 - i = d → 1 ≤ i → i ≤ 6 → Fr [y + 1] l l1 → (∀ j, (j < r ∨ r + 6 ≤ j) → l1 (y + 1) j = l (y + 1) j) → l1 (y + 1) r = zL q → (∀ j, 1 ≤ j → j < i → l1 (y + 1) (r + j) = zL 0) →
      WM k_Lines_startRow p_Lines_startRow_1 [.ref y, .int (nI r), Jv, Jv, .int (nI i)] [] (sil h f l1) 0 0 (fun _ g => ∃ l', g = sil h f l' ∧ Fr [y + 1] l l' ∧ (∀ j, (j < r ∨ r + 6 ≤ j) → l' (y + 1) j = l (y + 1) j) ∧ l' (y + 1) r = zL q ∧ ∀ i, 1 ≤ i → i < 6 → l' (y + 1) (r + i) = zL 0) := by
    intro d
    induction d with
    | zero =>
      intro i l1 hd h1 hi fr o a z
      have : i = 6 := by omega
      subst this
      exact v_Lines_startRow_1 _ _ _ _ _ ⟨fun c => absurd c (by decide), fun _ => ⟨l1, rfl, fr, o, a, z⟩⟩
    | succ d ih =>
      intro i l1 hd h1 hi fr o a z
      refine v_Lines_startRow_1 _ _ _ _ _ ⟨fun _ => ⟨(lks l1).1.1, ?_⟩, fun c => absurd (by rw [nI_toI (by omega), t6]; omega) c⟩
      rw [r1, n1, nI_add, ix_nI (by omega), nI_1]
      refine ⟨(lks l1).2.1, InB_nI (by omega) (by omega), ?_⟩
      rintro _ rfl
      rw [wl_sil]
      refine ih (i + 1) _ (by omega) (by omega) (by omega) (fr.up me) (fun j hj => by rw [up2_ni (by omega)]; exact o j hj) (by rw [up2_ni (by omega)]; exact a) (fun j j1 j2 => ?_)
      by_cases e : j = i
      · subst e; rw [up2_s]; rfl
      · rw [up2_ni (by omega)]; exact z j j1 (by omega)
  exact go _ 1 _ rfl (by decide) (by decide) (Fr.refl.up me) (fun j hj => by rw [up2_ni (by omega)]) up2_s (fun j j1 j2 => absurd j1 (by omega))
