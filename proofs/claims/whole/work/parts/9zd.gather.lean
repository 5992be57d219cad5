/-! places of the box; the reciprocal six -/
theorem bx_at {w a b c : Nat} (hw : w < 7) (ha : a < 2 * w + 1) (hb : b < 2 * w + 1) (hc : c < 2 * w + 1) : bx w ((a * (2 * w + 1) + b) * (2 * w + 1) + c) = ((a : Int) - w, (b : Int) - w, (c : Int) - w) := by
  have : w = 0 ∨ w = 1 ∨ w = 2 ∨ w = 3 ∨ w = 4 ∨ w = 5 ∨ w = 6 := by omega
  unfold bx
  rcases this with rfl | rfl | rfl | rfl | rfl | rfl | rfl <;> simp only [Nat.reduceMul, Nat.reduceAdd] at * <;> refine Prod.ext ?_ (Prod.ext ?_ ?_) <;> simp only <;> omega
theorem bx_mid {w a b c : Nat} (hw : w < 7) (ha : a < 2 * w + 1) (hb : b < 2 * w + 1) (hc : c < 2 * w + 1) : (a * (2 * w + 1) + b) * (2 * w + 1) + c = bN w / 2 ↔ a = w ∧ b = w ∧ c = w := by
  have : w = 0 ∨ w = 1 ∨ w = 2 ∨ w = 3 ∨ w = 4 ∨ w = 5 ∨ w = 6 := by omega
  unfold bN
  rcases this with rfl | rfl | rfl | rfl | rfl | rfl | rfl <;> simp only [Nat.reduceMul, Nat.reduceAdd, Nat.reduceDiv] at * <;> omega
theorem bx_lt {w a b c : Nat} (hw : w < 7) (ha : a < 2 * w + 1) (hb : b < 2 * w + 1) (hc : c < 2 * w + 1) : (a * (2 * w + 1) + b) * (2 * w + 1) + c < 2197 := by
  have : w = 0 ∨ w = 1 ∨ w = 2 ∨ w = 3 ∨ w = 4 ∨ w = 5 ∨ w = 6 := by omega
  rcases this with rfl | rfl | rfl | rfl | rfl | rfl | rfl <;> simp only [Nat.reduceMul, Nat.reduceAdd] at * <;> omega
theorem bx_b {w n : Nat} (hw : w < 7) (hn : n < bN w) : wB (bx w n) 6 := by
  have : w = 0 ∨ w = 1 ∨ w = 2 ∨ w = 3 ∨ w = 4 ∨ w = 5 ∨ w = 6 := by omega
  unfold bN at hn
  unfold bx wB
  rcases this with rfl | rfl | rfl | rfl | rfl | rfl | rfl <;> simp only [Nat.reduceMul, Nat.reduceAdd] at * <;> refine ⟨⟨?_, ?_⟩, ⟨?_, ?_⟩, ?_, ?_⟩ <;> omega
theorem rc_ab {s : S6} (h : okC s) : ∀ i, i < 6 → Ab (nth6 (rcS s) i) 200000000 := by
  have b := h.b4
  obtain ⟨p, q, r, d, e, f⟩ := s
  have b0 : Ab p 10000 := b 0 (by decide)
  have b1 : Ab q 10000 := b 1 (by decide)
  have b2 : Ab r 10000 := b 2 (by decide)
  have b3 : Ab d 10000 := b 3 (by decide)
  have b4 : Ab e 10000 := b 4 (by decide)
  have b5 : Ab f 10000 := b 5 (by decide)
  intro i hi
  have : i = 0 ∨ i = 1 ∨ i = 2 ∨ i = 3 ∨ i = 4 ∨ i = 5 := by omega
  rcases this with rfl | rfl | rfl | rfl | rfl | rfl
  · exact ((b1.mul b2).sub (b3.mul b3)).wk (by decide)
  · exact ((b0.mul b2).sub (b4.mul b4)).wk (by decide)
  · exact ((b0.mul b1).sub (b5.mul b5)).wk (by decide)
  · exact ((b4.mul b5).sub (b0.mul b3)).wk (by decide)
  · exact ((b3.mul b5).sub (b1.mul b4)).wk (by decide)
  · exact ((b3.mul b4).sub (b2.mul b5)).wk (by decide)
theorem lnQ_ab {s : S6} (h : okC s) {w n : Nat} (hw : w < 7) (hn : n < bN w) : Ab (lnQ s w n) 64800000000 := by
  have b := rc_ab h
  have v := bx_b hw hn
  unfold lnQ
  generalize bx w n = u at *
  obtain ⟨x, y, z⟩ := u
  obtain ⟨⟨x1, x2⟩, ⟨y1, y2⟩, z1, z2⟩ := v
  generalize rcS s = t at *
  obtain ⟨p, q, r, d, e, f⟩ := t
  have b0 : Ab p 200000000 := b 0 (by decide)
  have b1 : Ab q 200000000 := b 1 (by decide)
  have b2 : Ab r 200000000 := b 2 (by decide)
  have b3 : Ab d 200000000 := b 3 (by decide)
  have b4 : Ab e 200000000 := b 4 (by decide)
  have b5 : Ab f 200000000 := b 5 (by decide)
  have cx : Ab x 6 := Ab.of x1 x2
  have cy : Ab y 6 := Ab.of y1 y2
  have cz : Ab z 6 := Ab.of z1 z2
  exact (((((((b0.mul cx).mul cx).add ((b1.mul cy).mul cy)).add ((b2.mul cz).mul cz)).add (b3.mul ((cy.mul cz).add (cz.mul cy)))).add (b4.mul ((cx.mul cz).add (cz.mul cx)))).add (b5.mul ((cx.mul cy).add (cy.mul cx)))).wk (by decide)
/-- one more place of the box, added -/
theorem lnV_ad {s : S6} {P : List Pl} {m a n i : Nat} {q : Int} (ha : a ≤ n) (hc : lnC P m n) (hi : 1 ≤ i) : adV (lnV s P m a n) (lnQ s m n) (pwA P (bx m n)) q i = lnV s P m a (n + 1) q i := by
  unfold adV
  rw [lnV_s hi]
  by_cases e : q = lnQ s m n
  · have c : a ≤ n ∧ lnC P m n ∧ lnQ s m n = q := ⟨ha, hc, e.symm⟩
    by_cases o : i = 1
    · subst o
      simp only [if_pos e, if_pos c, if_true]
    · simp only [if_pos e, if_pos c, if_neg o]
  · rw [if_neg e, if_neg (fun c => e c.2.2.symm), Int.add_zero]
