/-! the class gathers lines: the inner walk -/
def HEnv (h : MH) (f : (Nat → Nat → Int32)) (l : (Nat → Nat → Int64)) (s : S6) (P : List Pl) (x a b t y r m : Nat) : Prop := SS h ∧ 99 ≤ x ∧ 99 ≤ y ∧ 99 ≤ r ∧ MdK h x a b ∧ MdA (sil h f l) x t P ∧ okP t P ∧ t ≤ 30 ∧ CosAt f ∧ okC s ∧ m < 7 ∧ LnK h y m ∧ kd h r = 3 ∧ FoAt l r (db (rcS s)) ∧ (∀ j, j < 7 → x + j ≠ y ∧ x + j ≠ y + 2) ∧ f y 0 = nI m
theorem hg_3 {h : MH} {f : (Nat → Nat → Int32)} {l : (Nat → Nat → Int64)} {x a b t y r m p q : Nat} {P : List Pl} {s : S6} {Rt : Value → MH → Prop} (E : HEnv h f l s P x a b t y r m) (hp : p < 2 * m + 1) (hq : q < 2 * m + 1)
    (nx : ∀ f2 l2 cc' ss', cc' ≤ 1 → ss' ≤ 6 → HSt f l s P m y f2 l2 ((p * (2 * m + 1) + q + 1) * (2 * m + 1)) → WM k_Lines_gather p_Lines_gather_2 [.ref y, .ref x, .ref 45, .ref r, .int (zI ((p : Int) - m)), .int (zI (((q + 1 : Nat) : Int) - m)), Jv] [] (sil h f2 l2) cc' ss' Rt) :
    ∀ d c (f1 : (Nat → Nat → Int32)) (l1 : (Nat → Nat → Int64)) cc ss, 2 * m + 1 - c = d → c ≤ 2 * m + 1 → cc ≤ 1 → ss ≤ 6 → bN m / 2 + 1 ≤ (p * (2 * m + 1) + q) * (2 * m + 1) + c → HSt f l s P m y f1 l1 ((p * (2 * m + 1) + q) * (2 * m + 1) + c) → WM k_Lines_gather p_Lines_gather_3 [.ref y, .ref x, .ref 45, .ref r, .int (zI ((p : Int) - m)), .int (zI ((q : Int) - m)), .int (zI ((c : Int) - m))] [] (sil h f1 l1) cc ss Rt := by
  obtain ⟨H, hx, hy, hr, mk, ma, ok, ht, hc, oks, hm, lk, kr, fr, dis, f0⟩ := E
  intro d
  induction d with
  | zero =>
    intro c f1 l1 cc ss hd hc' h1 h2 lo st
    have ec : c = 2 * m + 1 := by omega
    have e0 : f1 y 0 = nI m := by
      obtain ⟨L, ff, f3, _⟩ := st
      exact (f3 0 (by decide)).trans f0
    refine v_Lines_gather_3 _ _ _ _ _ _ _ _ _ _ _ ⟨(lk.s H).1.1, ?_⟩
    rw [mi_sil, e0, nI_toI (by omega), zI_toI (by omega) (by omega)]
    refine ⟨fun _ => ?_, fun w => absurd (by omega) w⟩
    rw [zI_p1, show ((q : Int) - m + 1) = ((q + 1 : Nat) : Int) - m by omega]
    refine nx f1 l1 _ _ h1 h2 ?_
    rw [show (p * (2 * m + 1) + q + 1) * (2 * m + 1) = (p * (2 * m + 1) + q) * (2 * m + 1) + c by rw [ec, Nat.add_mul _ 1, Nat.one_mul]]
    exact st
  | succ d ih =>
    intro c f1 l1 cc ss hd hc' h1 h2 lo st
    have cl : c < 2 * m + 1 := by omega
    have eb := bx_at hm hp hq cl
    have nl : (p * (2 * m + 1) + q) * (2 * m + 1) + c < bN m := by
      unfold bN
      have h1 : p * (2 * m + 1) + q + 1 ≤ (2 * m + 1) * (2 * m + 1) := by
        have : (p + 1) * (2 * m + 1) ≤ (2 * m + 1) * (2 * m + 1) := Nat.mul_le_mul_right _ hp
        rw [Nat.add_mul, Nat.one_mul] at this
        omega
      have h2 := Nat.mul_le_mul_right (2 * m + 1) h1
      rw [Nat.add_mul _ 1, Nat.one_mul] at h2
      omega
    have vm : (bx m ((p * (2 * m + 1) + q) * (2 * m + 1) + c)).2.2 ≤ m := by rw [eb]; show (c : Int) - m ≤ m; omega
    have := hg_step (Rt := Rt) (cc := cc) (ss := ss) H hx hy hr mk ma ok ht hc oks hm lk kr fr dis f0 lo nl vm h1 h2 st
    rw [eb] at this
    refine this (fun f2 l2 cc' ss' g1 g2 st2 => ?_)
    show WM _ _ [.ref y, .ref x, .ref 45, .ref r, .int (zI ((p : Int) - m)), .int (zI ((q : Int) - m)), .int (zI ((c : Int) - m) + 1)] _ _ _ _ _
    rw [zI_p1, show ((c : Int) - m + 1) = ((c + 1 : Nat) : Int) - m by omega]
    exact ih (c + 1) f2 l2 cc' ss' (by omega) (by omega) g1 g2 (by omega) st2
