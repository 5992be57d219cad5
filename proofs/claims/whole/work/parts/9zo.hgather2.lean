/-! the class gathers lines: the step -/
theorem hg_step {h : MH} {f f1 : (Nat → Nat → Int32)} {l l1 : (Nat → Nat → Int64)} {x a b t y r m n cc ss : Nat} {P : List Pl} {s : S6} {Rt : Value → MH → Prop} (H : SS h) (hx : 99 ≤ x) (hy : 99 ≤ y) (hr : 99 ≤ r) (mk : MdK h x a b) (ma : MdA (sil h f l) x t P) (ok : okP t P) (ht : t ≤ 30) (hc : CosAt f) (oks : okC s) (hm : m < 7) (lk : LnK h y m) (kr : kd h r = 3) (fr : FoAt l r (db (rcS s))) (dis : ∀ j, j < 7 → x + j ≠ y ∧ x + j ≠ y + 2) (f0 : f y 0 = nI m) (n1 : bN m / 2 + 1 ≤ n) (n2 : n < bN m) (vm : (bx m n).2.2 ≤ m) (hcc : cc ≤ 1) (hss : ss ≤ 6) (st : HSt f l s P m y f1 l1 n)
    (nx : ∀ f2 l2 cc' ss', cc' ≤ 1 → ss' ≤ 6 → HSt f l s P m y f2 l2 (n + 1) → WM k_Lines_gather p_Lines_gather_3 [.ref y, .ref x, .ref 45, .ref r, .int (zI (bx m n).1), .int (zI (bx m n).2.1), .int (zI (bx m n).2.2 + 1)] [] (sil h f2 l2) cc' ss' Rt) :
    WM k_Lines_gather p_Lines_gather_3 [.ref y, .ref x, .ref 45, .ref r, .int (zI (bx m n).1), .int (zI (bx m n).2.1), .int (zI (bx m n).2.2)] [] (sil h f1 l1) cc ss Rt := by
  obtain ⟨L, ff, f3, fl, ll, le, rl⟩ := st
  have vb := bx_b hm n2
  have vb6 : wB (bx m n) 60 := by
    obtain ⟨⟨a, b⟩, ⟨c, d⟩, e, g⟩ := vb
    exact ⟨⟨by omega, by omega⟩, ⟨by omega, by omega⟩, by omega, by omega⟩
  obtain ⟨⟨x1, x2⟩, ⟨y1, y2⟩, w1, w2⟩ := vb
  have mem3 : ∀ z, z ≠ y → z ≠ y + 2 → z ≠ 49 → z ∉ [y, y + 2, 49] := fun z h1 h2 h3 q => by
    simp only [List.mem_cons, List.not_mem_nil, or_false] at q
    omega
  have ma1 : MdA (sil h f1 l1) x t P := ma.s H (fun j hj => ff _ (mem3 _ (dis j hj).1 (dis j hj).2 (by omega)))
  have hc1 : CosAt f1 := fun j hj => by rw [ff 3 (mem3 3 (by omega) (by omega) (by decide))]; exact hc j hj
  have e0 : f1 y 0 = nI m := (f3 0 (by decide)).trans f0
  have ky : kd h (y + 1) = 21 := lk.2.1
  have ry : r ≠ y + 1 := fun e => by rw [e, ky] at kr; omega
  refine v_Lines_gather_3 _ _ _ _ _ _ _ _ _ _ _ ⟨(lk.s H).1.1, ?_⟩
  rw [mi_sil, e0, nI_toI (by omega), zI_toI (by omega) (by omega)]
  refine ⟨fun q => absurd q (by omega), fun _ => ⟨K45, gd_t (by omega) (gd_t (by omega) (SpV.mono (sp_Wave_sum H hx mk ma1 ok ht hc1 vb6) ?_))⟩⟩
  rintro _ ⟨f2, l2, rfl, fr2, frl2, p1, p2, p3⟩
  have rl2 : LnR f2 l2 y L (V2 s P m n) := rl.fr (fr2 y (by simp; omega)) (fr2 (y + 2) (by simp; omega)) (frl2 (y + 1) (by simp; omega))
  have ff2 : Fr [y, y + 2, 49] f f2 := ff.trans (fr2.mono (by simp))
  have fl2 : Fr [y + 1, 46, 47, 48] l l2 := fl.trans (frl2.mono (by simp))
  have f32 : ∀ j, j ≠ 3 → f2 y j = f y j := fun j hj => by rw [fr2 y (by simp; omega)]; exact f3 j hj
  refine ⟨K45, gd_t (by omega) (gd_t (by omega) (SpI.mono (sp_isZero ok p3) ?_))⟩
  rintro _ g ⟨eg, ⟨rfl, z⟩ | ⟨rfl, z⟩⟩ <;> subst g
  · refine ⟨fun q => absurd q (by decide), fun _ => nx f2 l2 _ _ (by omega) (by omega) ⟨L, ff2, f32, fl2, ll.skip (fun c => c.2.2 z), by omega, rl2.ext (fun q i => (V2_no (fun c => c.2.1.2 z)).symm)⟩⟩
  · have lc : lnC P m n := ⟨by omega, z⟩
    have frr : FoAt l2 r (db (rcS s)) := fr.fr (fl2 r (by simp; omega))
    have qa := lnQ_ab oks hm n2
    have ql := qa.lo; have qh := qa.hi
    have lb : ∀ x ∈ L, -1000000000000 ≤ x ∧ x ≤ 1000000000000 := fun x hx => by
      obtain ⟨i, _, hi', _, e⟩ := (ll.2 x).mp hx
      have a := lnQ_ab oks hm (show i < bN m by omega)
      have al := a.lo; have ah := a.hi
      rw [e] at al ah
      omega
    have krs : kd (sil h f2 l2) r = 3 := by rw [kd_sil H]; exact kr
    rw [i2l_zI (by omega) (by omega), i2l_zI (by omega) (by omega), i2l_zI (by omega) (by omega)]
    refine ⟨fun _ => ⟨krs, gd_t (by omega) (gd_t (by omega) (SpL.mono (fo_square krs frr _ _ _) ?_))⟩, fun q => absurd rfl q⟩
    rintro _ g ⟨eg, rfl⟩
    subst g
    rw [R45_2]
    have odd := bN_odd m
    refine ⟨K45, (lk.s H).1.1, gd_t (by omega) (gd_t (by omega) (SpV.mono (sp_addPair (q := lnQ s m n) (pw := pwA P (bx m n)) H hy hm lk ll.1 (by omega) rl2 (fun x => rfl) lb (by omega) (fun nq j hj => ?_) p3) ?_))⟩
    · unfold V2
      rw [if_neg (by omega), lnV_new ll nq hj]; rfl
    rintro _ ⟨f4, l4, L4, rfl, ff4, f34, fl4, so4, mem4, le4, rl4⟩
    exact nx f4 l4 _ _ (by omega) (by omega) ⟨L4, ff2.trans (ff4.mono (by simp)), fun j hj => (f34 j hj).trans (f32 j hj), fl2.trans (fl4.mono (by simp)), ll.put n1 lc so4 mem4, by omega, rl4.ext (fun q i => V2_ad n1 lc)⟩
