/-! the class gathers lines: the outer walks -/
theorem idx_lo {m p q : Nat} (hm : m < 7) (h : m < p ∨ (p = m ∧ m < q)) : bN m / 2 + 1 ≤ (p * (2 * m + 1) + q) * (2 * m + 1) := by
  have : m = 0 ∨ m = 1 ∨ m = 2 ∨ m = 3 ∨ m = 4 ∨ m = 5 ∨ m = 6 := by omega
  unfold bN
  rcases this with rfl | rfl | rfl | rfl | rfl | rfl | rfl <;> simp only [Nat.reduceMul, Nat.reduceAdd, Nat.reduceDiv] at * <;> omega
theorem idx_mid {m : Nat} (hm : m < 7) : (m * (2 * m + 1) + m) * (2 * m + 1) + (m + 1) = bN m / 2 + 1 := by
  have := (bx_mid (w := m) (a := m) (b := m) (c := m) hm (by omega) (by omega) (by omega)).mpr ⟨rfl, rfl, rfl⟩
  omega
def HS2 (f : (Nat → Nat → Int32)) (l : (Nat → Nat → Int64)) (s : S6) (P : List Pl) (m y p q : Nat) (f1 : (Nat → Nat → Int32)) (l1 : (Nat → Nat → Int64)) : Prop := (p = m ∧ q = m ∧ HSt f l s P m y f1 l1 (bN m / 2 + 1)) ∨ ((m < p ∨ (p = m ∧ m < q)) ∧ HSt f l s P m y f1 l1 ((p * (2 * m + 1) + q) * (2 * m + 1)))
theorem HS2.e0 {f : (Nat → Nat → Int32)} {l : (Nat → Nat → Int64)} {s : S6} {P : List Pl} {m y p q : Nat} {f1 : (Nat → Nat → Int32)} {l1 : (Nat → Nat → Int64)} (h : HS2 f l s P m y p q f1 l1) (f0 : f y 0 = nI m) : f1 y 0 = nI m := by
  rcases h with ⟨_, _, L, ff, f3, _⟩ | ⟨_, L, ff, f3, _⟩ <;> exact (f3 0 (by decide)).trans f0
theorem hg_2 {h : MH} {f : (Nat → Nat → Int32)} {l : (Nat → Nat → Int64)} {x a b t y r m p : Nat} {P : List Pl} {s : S6} {Rt : Value → MH → Prop} (E : HEnv h f l s P x a b t y r m) (hp : p < 2 * m + 1)
    (nx : ∀ f2 l2 cc' ss', cc' ≤ 1 → ss' ≤ 6 → HSt f l s P m y f2 l2 (((p + 1) * (2 * m + 1)) * (2 * m + 1)) → WM k_Lines_gather p_Lines_gather_1 [.ref y, .ref x, .ref 45, .ref r, .int (zI (((p + 1 : Nat) : Int) - m)), Jv, Jv] [] (sil h f2 l2) cc' ss' Rt) :
    ∀ d q (f1 : (Nat → Nat → Int32)) (l1 : (Nat → Nat → Int64)) cc ss, 2 * m + 1 - q = d → q ≤ 2 * m + 1 → cc ≤ 1 → ss ≤ 6 → HS2 f l s P m y p q f1 l1 → WM k_Lines_gather p_Lines_gather_2 [.ref y, .ref x, .ref 45, .ref r, .int (zI ((p : Int) - m)), .int (zI ((q : Int) - m)), Jv] [] (sil h f1 l1) cc ss Rt := by
  obtain ⟨H, hx, hy, hr, mk, ma, ok, ht, hc, oks, hm, lk, kr, fr, dis, f0⟩ := id E
  intro d
  induction d with
  | zero =>
    intro q f1 l1 cc ss hd hq h1 h2 st
    have eq : q = 2 * m + 1 := by omega
    refine v_Lines_gather_2 _ _ _ _ _ _ _ _ _ _ ⟨(lk.s H).1.1, ?_⟩
    rw [mi_sil, st.e0 f0, nI_toI (by omega), zI_toI (by omega) (by omega)]
    refine ⟨fun _ => ?_, fun w => absurd (by omega) w⟩
    rw [zI_p1, show ((p : Int) - m + 1) = ((p + 1 : Nat) : Int) - m by omega]
    refine nx f1 l1 _ _ h1 h2 ?_
    rcases st with ⟨e1, e2, _⟩ | ⟨_, st⟩
    · omega
    · rw [show (p + 1) * (2 * m + 1) = p * (2 * m + 1) + q by rw [eq, Nat.add_mul, Nat.one_mul]]
      exact st
  | succ d ih =>
    intro q f1 l1 cc ss hd hq h1 h2 st
    have ql : q < 2 * m + 1 := by omega
    have ge : m < p ∨ (p = m ∧ m ≤ q) := by
      rcases st with ⟨e1, e2, _⟩ | ⟨w, _⟩ <;> omega
    have three := hg_3 (Rt := Rt) E hp ql (fun f2 l2 cc' ss' g1 g2 st2 => ih (q + 1) f2 l2 cc' ss' (by omega) (by omega) g1 g2 (Or.inr ⟨by omega, st2⟩))
    refine v_Lines_gather_2 _ _ _ _ _ _ _ _ _ _ ⟨(lk.s H).1.1, ?_⟩
    rw [mi_sil, st.e0 f0, nI_toI (by omega), zI_toI (by omega) (by omega), zI_z (by omega) (by omega), zI_z (by omega) (by omega), neg_nI]
    have low : ¬ (p = m ∧ q = m) → WM k_Lines_gather p_Lines_gather_3 [.ref y, .ref x, .ref 45, .ref r, .int (zI ((p : Int) - m)), .int (zI ((q : Int) - m)), .int (zI (((0 : Nat) : Int) - m))] [] (sil h f1 l1) cc ss Rt := fun n => by
      rcases st with ⟨e1, e2, _⟩ | ⟨w, st⟩
      · exact absurd ⟨e1, e2⟩ n
      · exact three _ 0 f1 l1 cc ss rfl (Nat.zero_le _) h1 h2 (idx_lo hm w) st
    refine ⟨fun w => absurd w (by omega), fun _ => ⟨fun c1 => ⟨fun c2 => ?_, fun c2 => low (fun w => c2 (by omega))⟩, fun c1 => low (fun w => c1 (by omega))⟩⟩
    have ep : p = m := by omega
    have eq : q = m := by omega
    rcases st with ⟨_, _, st⟩ | ⟨w, _⟩
    · have im := idx_mid hm
      have := three _ (m + 1) f1 l1 cc ss rfl (by omega) h1 h2 (by rw [ep, eq]; omega) (by rw [ep, eq, im]; exact st)
      rw [show (((m + 1 : Nat) : Int) - m) = 1 by omega] at this
      exact this
    · omega
