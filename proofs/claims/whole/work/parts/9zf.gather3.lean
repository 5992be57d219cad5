/-! the reference gathers the lines: the walks -/
theorem zI_z {x : Int} (h1 : -1000 ≤ x) (h2 : x ≤ 1000) : zI x = 0 ↔ x = 0 := by
  refine ⟨fun e => ?_, fun e => by rw [e]; rfl⟩
  have := congrArg Int32.toInt e
  rw [zI_toI (by omega) (by omega)] at this
  exact this
theorem zI_p1 {x : Int} : zI x + 1 = zI (x + 1) := by rw [show (1 : Int32) = zI 1 from rfl, zI_add]
theorem gl_6 {h : MH} {f : (Nat → Nat → Int32)} {l : (Nat → Nat → Int64)} {ng nc m w a b : Nat} {MS : List Mdl} {s : S6} {Rt : Value → MH → Prop} (hm : RMdl f MS) (ok : okMS ng nc MS) (oks : okC s) (hi : m < MS.length) (hw : w < 7) (ha : a < 2 * w + 1) (hb : b < 2 * w + 1)
    (nx : ∀ f2 l2, GSt f l s (MS.getD m zM).2.2.2 w f2 l2 ((a * (2 * w + 1) + b + 1) * (2 * w + 1)) → WM k_Ref_gatherLines p_Ref_gatherLines_5 (gLn m w (rcS s) (.int (zI ((a : Int) - w))) (.int (zI (((b + 1 : Nat) : Int) - w))) Jv) [] (sil h f2 l2) 0 0 Rt) :
    ∀ d c (f1 : (Nat → Nat → Int32)) (l1 : (Nat → Nat → Int64)), 2 * w + 1 - c = d → c ≤ 2 * w + 1 → GSt f l s (MS.getD m zM).2.2.2 w f1 l1 ((a * (2 * w + 1) + b) * (2 * w + 1) + c) → WM k_Ref_gatherLines p_Ref_gatherLines_6 (gLn m w (rcS s) (.int (zI ((a : Int) - w))) (.int (zI ((b : Int) - w))) (.int (zI ((c : Int) - w)))) [] (sil h f1 l1) 0 0 Rt := by
  intro d
  induction d with
  | zero =>
    intro c f1 l1 hd hc st
    have ec : c = 2 * w + 1 := by omega
    refine v_Ref_gatherLines_6 _ _ _ _ _ _ _ _ _ _ _ _ _ _ ⟨fun _ => ?_, fun q => absurd (by rw [nI_toI (by omega), zI_toI (by omega) (by omega)]; omega) q⟩
    rw [zI_p1, show ((b : Int) - w + 1) = ((b + 1 : Nat) : Int) - w by omega]
    refine nx f1 l1 ?_
    rw [show (a * (2 * w + 1) + b + 1) * (2 * w + 1) = (a * (2 * w + 1) + b) * (2 * w + 1) + c by rw [ec, Nat.add_mul _ 1, Nat.one_mul]]
    exact st
  | succ d ih =>
    intro c f1 l1 hd hc st
    have cl : c < 2 * w + 1 := by omega
    have eb := bx_at hw ha hb cl
    have em := bx_mid hw ha hb cl
    have el := bx_lt hw ha hb cl
    have nl : (a * (2 * w + 1) + b) * (2 * w + 1) + c < bN w := by
      unfold bN
      have h1 : a * (2 * w + 1) + b + 1 ≤ (2 * w + 1) * (2 * w + 1) := by
        have : (a + 1) * (2 * w + 1) ≤ (2 * w + 1) * (2 * w + 1) := Nat.mul_le_mul_right _ ha
        rw [Nat.add_mul, Nat.one_mul] at this
        omega
      have h2 := Nat.mul_le_mul_right (2 * w + 1) h1
      rw [Nat.add_mul _ 1, Nat.one_mul] at h2
      omega
    have fin : ∀ f2 l2, GSt f l s (MS.getD m zM).2.2.2 w f2 l2 ((a * (2 * w + 1) + b) * (2 * w + 1) + c + 1) → WM k_Ref_gatherLines p_Ref_gatherLines_6 (gLn m w (rcS s) (.int (zI ((a : Int) - w))) (.int (zI ((b : Int) - w))) (.int (zI ((c : Int) - w) + 1))) [] (sil h f2 l2) 0 0 Rt := fun f2 l2 st2 => by
      rw [zI_p1, show ((c : Int) - w + 1) = ((c + 1 : Nat) : Int) - w by omega]
      exact ih (c + 1) f2 l2 (by omega) (by omega) st2
    have seven : ¬ (a = w ∧ b = w ∧ c = w) → WM k_Ref_gatherLines p_Ref_gatherLines_7 (gLn m w (rcS s) (.int (zI ((a : Int) - w))) (.int (zI ((b : Int) - w))) (.int (zI ((c : Int) - w)))) [] (sil h f1 l1) 0 0 Rt := fun q => by
      have := gl_step (h := h) (Rt := Rt) hm ok oks hi hw nl el (fun e => q (em.mp e)) st
      rw [eb] at this
      exact this fin
    refine v_Ref_gatherLines_6 _ _ _ _ _ _ _ _ _ _ _ _ _ _ ⟨fun q => absurd q (by rw [nI_toI (by omega), zI_toI (by omega) (by omega)]; omega), fun _ => ?_⟩
    rw [zI_z (by omega) (by omega), zI_z (by omega) (by omega), zI_z (by omega) (by omega)]
    refine ⟨fun c1 => ⟨fun c2 => ⟨fun c3 => fin f1 l1 ?_, fun c3 => seven (fun q => c3 (by omega))⟩, fun c2 => seven (fun q => c2 (by omega))⟩, fun c1 => seven (fun q => c1 (by omega))⟩
    obtain ⟨L, ff, f5, fl, ll, le, e50, rl⟩ := st
    have mid : (a * (2 * w + 1) + b) * (2 * w + 1) + c = bN w / 2 := em.mpr ⟨by omega, by omega, by omega⟩
    refine ⟨L, ff, f5, fl, ll.skip (fun q => q.2.1 mid), by omega, e50, fun k hk => ?_⟩
    obtain ⟨r1, r2, r3⟩ := rl k hk
    exact ⟨r1, by rw [lnV_no (fun q => q.2.1.1 mid)]; exact r2, fun y hy => by rw [lnV_no (fun q => q.2.1.1 mid)]; exact r3 y hy⟩
theorem neg_nI {w : Nat} : -(nI w) = zI (((0 : Nat) : Int) - w) := by
  rw [nI_zI]
  show -(zI w) = _
  rw [zI_neg]
  congr 1
  omega
theorem gl_5 {h : MH} {f : (Nat → Nat → Int32)} {l : (Nat → Nat → Int64)} {ng nc m w a : Nat} {MS : List Mdl} {s : S6} {Rt : Value → MH → Prop} (hm : RMdl f MS) (ok : okMS ng nc MS) (oks : okC s) (hi : m < MS.length) (hw : w < 7) (ha : a < 2 * w + 1)
    (nx : ∀ f2 l2, GSt f l s (MS.getD m zM).2.2.2 w f2 l2 (((a + 1) * (2 * w + 1)) * (2 * w + 1)) → WM k_Ref_gatherLines p_Ref_gatherLines_4 (gLn m w (rcS s) (.int (zI (((a + 1 : Nat) : Int) - w))) Jv Jv) [] (sil h f2 l2) 0 0 Rt) :
    ∀ d b (f1 : (Nat → Nat → Int32)) (l1 : (Nat → Nat → Int64)), 2 * w + 1 - b = d → b ≤ 2 * w + 1 → GSt f l s (MS.getD m zM).2.2.2 w f1 l1 ((a * (2 * w + 1) + b) * (2 * w + 1)) → WM k_Ref_gatherLines p_Ref_gatherLines_5 (gLn m w (rcS s) (.int (zI ((a : Int) - w))) (.int (zI ((b : Int) - w))) Jv) [] (sil h f1 l1) 0 0 Rt := by
  intro d
  induction d with
  | zero =>
    intro b f1 l1 hd hb st
    have eb : b = 2 * w + 1 := by omega
    refine v_Ref_gatherLines_5 _ _ _ _ _ _ _ _ _ _ _ _ _ ⟨fun _ => ?_, fun q => absurd (by rw [nI_toI (by omega), zI_toI (by omega) (by omega)]; omega) q⟩
    rw [zI_p1, show ((a : Int) - w + 1) = ((a + 1 : Nat) : Int) - w by omega]
    refine nx f1 l1 ?_
    rw [show (a + 1) * (2 * w + 1) = a * (2 * w + 1) + b by rw [eb, Nat.add_mul, Nat.one_mul]]
    exact st
  | succ d ih =>
    intro b f1 l1 hd hb st
    refine v_Ref_gatherLines_5 _ _ _ _ _ _ _ _ _ _ _ _ _ ⟨fun q => absurd q (by rw [nI_toI (by omega), zI_toI (by omega) (by omega)]; omega), fun _ => ?_⟩
    rw [neg_nI]
    exact gl_6 hm ok oks hi hw ha (by omega) (fun f2 l2 st2 => ih (b + 1) f2 l2 (by omega) (by omega) st2) _ 0 f1 l1 rfl (Nat.zero_le _) st
theorem gl_4 {h : MH} {f : (Nat → Nat → Int32)} {l : (Nat → Nat → Int64)} {ng nc m w : Nat} {MS : List Mdl} {s : S6} {Rt : Value → MH → Prop} (hm : RMdl f MS) (ok : okMS ng nc MS) (oks : okC s) (hi : m < MS.length) (hw : w < 7)
    (nx : ∀ f2 l2, GSt f l s (MS.getD m zM).2.2.2 w f2 l2 (bN w) → Rt .null (sil h f2 l2)) :
    ∀ d a (f1 : (Nat → Nat → Int32)) (l1 : (Nat → Nat → Int64)), 2 * w + 1 - a = d → a ≤ 2 * w + 1 → GSt f l s (MS.getD m zM).2.2.2 w f1 l1 ((a * (2 * w + 1)) * (2 * w + 1)) → WM k_Ref_gatherLines p_Ref_gatherLines_4 (gLn m w (rcS s) (.int (zI ((a : Int) - w))) Jv Jv) [] (sil h f1 l1) 0 0 Rt := by
  intro d
  induction d with
  | zero =>
    intro a f1 l1 hd ha st
    have ea : a = 2 * w + 1 := by omega
    refine v_Ref_gatherLines_4 _ _ _ _ _ _ _ _ _ _ _ _ ⟨fun _ => nx f1 l1 (by rw [ea] at st; exact st), fun q => absurd (by rw [nI_toI (by omega), zI_toI (by omega) (by omega)]; omega) q⟩
  | succ d ih =>
    intro a f1 l1 hd ha st
    refine v_Ref_gatherLines_4 _ _ _ _ _ _ _ _ _ _ _ _ ⟨fun q => absurd q (by rw [nI_toI (by omega), zI_toI (by omega) (by omega)]; omega), fun _ => ?_⟩
    rw [neg_nI]
    exact gl_5 hm ok oks hi hw (by omega) (fun f2 l2 st2 => ih (a + 1) f2 l2 (by omega) (by omega) st2) _ 0 f1 l1 rfl (Nat.zero_le _) st
