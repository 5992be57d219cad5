/-! the class gathers lines: the outermost walk -/
theorem hg_1 {h : MH} {f : (Nat → Nat → Int32)} {l : (Nat → Nat → Int64)} {x a b t y r m : Nat} {P : List Pl} {s : S6} {Rt : Value → MH → Prop} (E : HEnv h f l s P x a b t y r m) (nx : ∀ f2 l2, HSt f l s P m y f2 l2 (bN m) → Rt .null (sil h f2 l2)) :
    ∀ d p (f1 : (Nat → Nat → Int32)) (l1 : (Nat → Nat → Int64)) cc ss, 2 * m + 1 - p = d → p ≤ 2 * m + 1 → m ≤ p → cc ≤ 1 → ss ≤ 6 → ((p = m ∧ HSt f l s P m y f1 l1 (bN m / 2 + 1)) ∨ (m < p ∧ HSt f l s P m y f1 l1 ((p * (2 * m + 1)) * (2 * m + 1)))) → WM k_Lines_gather p_Lines_gather_1 [.ref y, .ref x, .ref 45, .ref r, .int (zI ((p : Int) - m)), Jv, Jv] [] (sil h f1 l1) cc ss Rt := by
  obtain ⟨H, hx, hy, hr, mk, ma, ok, ht, hc, oks, hm, lk, kr, fr, dis, f0⟩ := id E
  intro d
  induction d with
  | zero =>
    intro p f1 l1 cc ss hd hp mp h1 h2 st
    have ep : p = 2 * m + 1 := by omega
    rcases st with ⟨e, _⟩ | ⟨_, st⟩
    · omega
    have e0 : f1 y 0 = nI m := by
      obtain ⟨L, ff, f3, _⟩ := st
      exact (f3 0 (by decide)).trans f0
    refine v_Lines_gather_1 _ _ _ _ _ _ _ _ _ ⟨(lk.s H).1.1, ?_⟩
    rw [mi_sil, e0, nI_toI (by omega), zI_toI (by omega) (by omega)]
    exact ⟨fun _ => gd_t (by omega) (gd_t (by omega) (nx f1 l1 (by rw [ep] at st; exact st))), fun w => absurd (by omega) w⟩
  | succ d ih =>
    intro p f1 l1 cc ss hd hp mp h1 h2 st
    have e0 : f1 y 0 = nI m := by
      rcases st with ⟨_, L, ff, f3, _⟩ | ⟨_, L, ff, f3, _⟩ <;> exact (f3 0 (by decide)).trans f0
    have two := hg_2 (Rt := Rt) (p := p) E (by omega) (fun f2 l2 cc' ss' g1 g2 st2 => ih (p + 1) f2 l2 cc' ss' (by omega) (by omega) (by omega) g1 g2 (Or.inr ⟨by omega, st2⟩))
    refine v_Lines_gather_1 _ _ _ _ _ _ _ _ _ ⟨(lk.s H).1.1, ?_⟩
    rw [mi_sil, e0, nI_toI (by omega), zI_toI (by omega) (by omega), zI_z (by omega) (by omega), neg_nI]
    refine ⟨fun w => absurd w (by omega), fun _ => ⟨fun c => ?_, fun c => ?_⟩⟩
    · rcases st with ⟨e, st⟩ | ⟨w, _⟩
      · have := two _ m f1 l1 cc ss rfl (by omega) h1 h2 (Or.inl ⟨e, rfl, st⟩)
        rw [show ((m : Int) - m) = 0 by omega] at this
        exact this
      · omega
    · rcases st with ⟨e, _⟩ | ⟨w, st⟩
      · omega
      · exact two _ 0 f1 l1 cc ss rfl (Nat.zero_le _) h1 h2 (Or.inr ⟨Or.inl w, st⟩)
