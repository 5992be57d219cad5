/-! rounds by blocks: what is enough for RND -/
theorem red5 : ∀ (n : Nat) (t u : S6), OKs t → Red n t u → ((n : Int) ≤ 4 * (tT t - tT u) + 3) ∧ (St3 t → (n : Int) ≤ 4 * (tT t - tT u) + 2) ∧ (St2 t → (n : Int) ≤ 4 * (tT t - tT u) + 1) ∧ (NoS t → (n : Int) ≤ 4 * (tT t - tT u))
  | 0, t, u, ho, h => by
    have := (stR_ok (show stR t u False from h) ho).2.1
    refine ⟨?_, fun _ => ?_, fun _ => ?_, fun _ => ?_⟩ <;> omega
  | n + 1, t, u, ho, ⟨v, h, r⟩ => by
    have hv := stR_ok h ho
    obtain ⟨i1, i2, i3, i4⟩ := red5 n v u hv.1 r
    have le := hv.2.1
    refine ⟨?_, fun q => ?_, fun q => ?_, fun q => ?_⟩
    · rcases st4 ho v h with w | w
      · omega
      · have := i2 w; omega
    · rcases q v h with w | w
      · omega
      · have := i3 w; omega
    · rcases q v h with w | w
      · omega
      · have := i4 w; omega
    · have := q v h
      omega
/-- k rounds, none the last -/
def Rn : Nat → S6 → S6 → Prop
  | 0, t, v => t = v
  | k + 1, t, v => ∃ w, stR t w True ∧ Rn k w v
theorem Rn.ok : ∀ {k : Nat} {t v : S6}, Rn k t v → OKs t → OKs v ∧ tT v ≤ tT t ∧ (Ev t → Ev v)
  | 0, t, v, h, ho => by
    have h : t = v := h
    subst h
    exact ⟨ho, Int.le_refl _, id⟩
  | k + 1, t, v, ⟨w, h, r⟩, ho => by
    have a := stR_ok h ho
    have b := stR_k h
    have c := Rn.ok r a.1
    exact ⟨c.1, Int.le_trans c.2.1 a.2.1, fun q => c.2.2 (b.1 q)⟩
theorem Red.split : ∀ (k : Nat) {n : Nat} {t u : S6}, Red (k + n) t u → ∃ v, Rn k t v ∧ Red n v u
  | 0, n, t, u, h => ⟨t, rfl, by rw [Nat.zero_add] at h; exact h⟩
  | k + 1, n, t, u, h => by
    rw [show k + 1 + n = (k + n) + 1 by omega] at h
    obtain ⟨w, h1, h2⟩ := h
    obtain ⟨v, h3, h4⟩ := Red.split k h2
    exact ⟨v, ⟨w, h1, h3⟩, h4⟩
/-- far from the end a hundred rounds lower a + b + c by 600 -/
def LW : Prop := ∀ (t v u : S6) (n : Nat), OKs t → Ev t → tT t ≤ 4400000 → Rn 100 t v → Red n v u → tT t - tT v < 600 → tT t - tT u ≤ 60000
theorem blk (W : LW) : ∀ (m : Nat) (n : Nat), n ≤ m → ∀ (t u : S6), OKs t → Ev t → tT t ≤ 4400000 → Red n t u → 6 * (n : Int) ≤ tT t - tT u + 1440700
  | 0, n, hm, t, u, ho, _, _, h => by
    have := (red5 n t u ho h).1
    have := (Red.k h ho).2.1
    omega
  | m + 1, n, hm, t, u, ho, ev, hT, h => by
    by_cases e : tT t - tT u ≤ 60000
    · have := (red5 n t u ho h).1
      have := (Red.k h ho).2.1
      omega
    · by_cases q : n < 100
      · have := (Red.k h ho).2.1
        omega
      · obtain ⟨k, rfl⟩ : ∃ k, n = 100 + k := ⟨n - 100, by omega⟩
        obtain ⟨v, h1, h2⟩ := Red.split 100 h
        have a := h1.ok ho
        have d : 600 ≤ tT t - tT v := Int.not_lt.mp (fun w => e (W t v u k ho ev hT h1 h2 w))
        have ih := blk W m k (by omega) v u a.1 (a.2.2 ev) (by omega) h2
        omega
theorem rnd_of_LW (W : LW) : RND := fun t n u ho ev hT h => by
  have a := blk W n n (Nat.le_refl _) t u ho ev hT h
  have b := tT_pos ((Red.k h ho).1)
  omega
