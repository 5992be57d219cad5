/-! the class's reciprocal six -/
theorem sp_reciprocal {h : MH} {b : Nat} {s : S6} (H : SS h) (oks : okC s) (hb : b < hn h) (kb : kd h b = 3) (ft : FoAt (ml h) b (db s)) : SpR k_Lines_reciprocal [.ref b] h (fun r g => r = hn h ∧ Kp [] h g ∧ hn g = hn h + 1 ∧ kd g (hn h) = 3 ∧ FoAt (ml g) (hn h) (db (rcS s))) := by
  have h99 := H.1
  have f0 : ml h b 0 = zL (nth6 s 0) := ft.1
  have f1 : ml h b 1 = zL (nth6 s 1) := ft.2.1
  have f2 : ml h b 2 = zL (nth6 s 2) := ft.2.2.1
  have f3 : ml h b 3 = zL (2 * nth6 s 3) := ft.2.2.2.1
  have f4 : ml h b 4 = zL (2 * nth6 s 4) := ft.2.2.2.2.1
  have f5 : ml h b 5 = zL (2 * nth6 s 5) := ft.2.2.2.2.2
  have hv : ∀ q, q < 6 → zL (2 * nth6 s q) / (2 : Int64) = zL (nth6 s q) := fun q hq => by
    have a := oks.b4 q hq
    have l := a.lo; have u := a.hi
    exact zL_half (by omega) (by omega)
  refine v_Lines_reciprocal _ _ _ ⟨kb, ?_⟩
  rintro _ rfl
  refine ⟨kd_new, SpV.mono (fo_init (by omega) kd_new) ?_⟩
  rintro _ ⟨l1, rfl, fr1⟩
  have eb : ∀ j, l1 b j = ml h b j := fun j => by
    rw [fr1 b (fun q => by have := List.mem_singleton.mp q; omega)]
    show (if b = hn h then 0 else ml h b j) = ml h b j
    rw [if_neg (by omega)]
  obtain ⟨⟨q0, q1, q2⟩, q3, q4, q5⟩ := rc_eq s
  rw [sl_ml, eb, eb, eb, f0, f1, f2, f3, f4, f5, hv 3 (by decide), hv 4 (by decide), hv 5 (by decide), j2]
  simp only [zL_mul, zL_sub]
  rw [q0, q1, q2, q3, q4, q5]
  refine ⟨kd_oldS (by omega) kb, kd_new (n := 0), SpV.mono (fo_set (h := nw h 3 0) (l := l1) kd_new _ _ _ _ _ _) ?_⟩
  rintro _ ⟨l2, rfl, fr2, ft2⟩
  have K : Kp [] h (sl (nw h 3 0) l2) := by
    have a : Kp [] h (sl (nw h 3 0) l1) := ((Kp.refl H).nw).sl fr1 (Or.inr (Nat.le_refl _))
    exact Kp.sl (g := sl (nw h 3 0) l1) (l := l2) a fr2 (Or.inr (Nat.le_refl _))
  refine v_Lines_reciprocal_1 _ _ _ _ _ (gd_i rfl (gd_i rfl ⟨_, rfl, rfl, K, rfl, kd_new (n := 0), ?_⟩))
  have ed : db (rcS s) = (nth6 (rcS s) 0, nth6 (rcS s) 1, nth6 (rcS s) 2, 2 * nth6 (rcS s) 3, 2 * nth6 (rcS s) 4, 2 * nth6 (rcS s) 5) := by
    obtain ⟨a, b, c, d, e, f⟩ := s
    rfl
  rw [ed]
  exact ft2
