/-! the reference gathers the lines -/
abbrev gLn (m w : Nat) (t : S6) (x y z : Value) : List Value := [.ref 54, .int (nI m), .int (nI w), Jv, .long (zL (nth6 t 0)), Jv, .long (zL (nth6 t 1)), Jv, .long (zL (nth6 t 2)), Jv, .long (zL (nth6 t 3)), Jv, .long (zL (nth6 t 4)), Jv, .long (zL (nth6 t 5)), Jv, x, y, z, Jv, Jv]
def GSt (f : (Nat → Nat → Int32)) (l : (Nat → Nat → Int64)) (s : S6) (P : List Pl) (w : Nat) (f1 : (Nat → Nat → Int32)) (l1 : (Nat → Nat → Int64)) (n : Nat) : Prop := ∃ L, Fr [54, 90] f f1 ∧ (∀ j, j ≠ 50 → f1 54 j = f 54 j) ∧ Fr [88, 89, 91] l l1 ∧ LinL s P w 0 n L ∧ L.length ≤ n ∧ f1 54 50 = nI L.length ∧ RLn f1 l1 L (lnV s P w 0 n)
theorem q_eq {s : S6} {x y z : Int} : zL (nth6 s 0) * zL x * zL x + zL (nth6 s 1) * zL y * zL y + zL (nth6 s 2) * zL z * zL z + (2 : Int64) * (zL (nth6 s 3) * zL y * zL z + zL (nth6 s 4) * zL x * zL z + zL (nth6 s 5) * zL x * zL y) = zL (dotS s x y z x y z) := by
  obtain ⟨a, b, c, d, e, f⟩ := s
  rw [show (2 : Int64) = zL 2 from rfl]
  simp only [zL_mul, zL_add]
  congr 1
  unfold dotS nth6
  simp only [Nat.reduceEqDiff, if_true, if_false]
  grind
theorem pw_ab {t : Nat} {P : List Pl} {v : V3} (ok : okP t P) (j : Nat) : Ab (pwA P v j) 500000000000 := by
  have wb : ∀ a i, i < 4 → a ≤ 18 → Ab (wvA P v a i) (400 * 300) := fun a i hi ha => by
    have : ∀ n, n ≤ P.length → Ab (sZ (wvF P v a i) n) (400 * n) := by
      intro n
      induction n with
      | zero => intro _; exact Ab.of (show -((400 * 0 : Nat) : Int) ≤ 0 by omega) (show (0 : Int) ≤ ((400 * 0 : Nat) : Int) by omega)
      | succ n ih =>
        intro hn
        have o := ok.2.1 _ (pD_mem (show n < P.length by omega))
        have c := cs_ab (4 * (((tn (P.getD n zp).1 v).toNat + a) % 24) + i) (by omega)
        have p : Ab (wvF P v a i n) (100 * 4) := (Ab.of (by omega) (by omega)).mul (Ab.of (by omega) (by omega))
        exact ((ih (by omega)).add p).wk (by omega)
    exact (this P.length (Nat.le_refl _)).wk (by have := ok.1; omega)
  have two : Ab (2 : Int) 2 := Ab.of (by decide) (by decide)
  have three : Ab (3 : Int) 3 := Ab.of (by decide) (by decide)
  have four : Ab (4 : Int) 4 := Ab.of (by decide) (by decide)
  have six : Ab (6 : Int) 6 := Ab.of (by decide) (by decide)
  have one : ∀ n : Nat → Int, Ab (n 0) (400 * 300) → Ab (n 1) (400 * 300) → Ab (n 2) (400 * 300) → Ab (n 3) (400 * 300) → Ab (pw1 n j) 250000000000 := fun n h0 h1 h2 h3 => by
    unfold pw1
    by_cases c0 : j = 0
    · rw [if_pos c0]; exact ((((h0.mul h0).add ((two.mul h1).mul h1)).add ((three.mul h2).mul h2)).add ((six.mul h3).mul h3)).wk (by decide)
    · rw [if_neg c0]
      by_cases c1 : j = 1
      · rw [if_pos c1]; exact (((two.mul h0).mul h1).add ((six.mul h2).mul h3)).wk (by decide)
      · rw [if_neg c1]
        by_cases c2 : j = 2
        · rw [if_pos c2]; exact (((two.mul h0).mul h2).add ((four.mul h1).mul h3)).wk (by decide)
        · rw [if_neg c2]; exact (((two.mul h0).mul h3).add ((two.mul h1).mul h2)).wk (by decide)
  exact ((one _ (wb 0 0 (by decide) (by decide)) (wb 0 1 (by decide) (by decide)) (wb 0 2 (by decide) (by decide)) (wb 0 3 (by decide) (by decide))).add (one _ (wb 18 0 (by decide) (by decide)) (wb 18 1 (by decide) (by decide)) (wb 18 2 (by decide) (by decide)) (wb 18 3 (by decide) (by decide)))).wk (by decide)
theorem gl_step {h : MH} {f f1 : (Nat → Nat → Int32)} {l l1 : (Nat → Nat → Int64)} {ng nc m w n : Nat} {MS : List Mdl} {s : S6} {Rt : Value → MH → Prop} (hm : RMdl f MS) (ok : okMS ng nc MS) (oks : okC s) (hi : m < MS.length) (hw : w < 7) (hn : n < bN w) (h22 : n < 2197) (nc' : n ≠ bN w / 2) (st : GSt f l s (MS.getD m zM).2.2.2 w f1 l1 n)
    (nx : ∀ f2 l2, GSt f l s (MS.getD m zM).2.2.2 w f2 l2 (n + 1) → WM k_Ref_gatherLines p_Ref_gatherLines_6 (gLn m w (rcS s) (.int (zI (bx w n).1)) (.int (zI (bx w n).2.1)) (.int (zI (bx w n).2.2 + 1))) [] (sil h f2 l2) 0 0 Rt) :
    WM k_Ref_gatherLines p_Ref_gatherLines_7 (gLn m w (rcS s) (.int (zI (bx w n).1)) (.int (zI (bx w n).2.1)) (.int (zI (bx w n).2.2))) [] (sil h f1 l1) 0 0 Rt := by
  obtain ⟨L, ff, f5, fl, ll, le, e50, rl⟩ := st
  have vb := bx_b hw hn
  have vb6 : wB (bx w n) 60 := by
    obtain ⟨⟨a, b⟩, ⟨c, d⟩, e, g⟩ := vb
    exact ⟨⟨by omega, by omega⟩, ⟨by omega, by omega⟩, by omega, by omega⟩
  have hm1 : RMdl f1 MS := hm.fr (f5 45 (by decide)) (fun a ha => ff a (by revert a; decide))
  have o4 := (ok m hi).2.2.2
  have pb := fun j => pw_ab (v := bx w n) o4 j
  refine v_Ref_gatherLines_7 _ _ _ _ _ _ _ _ _ _ _ _ _ _ ⟨K54, SpV.mono (sp_Ref_waveOf hm1 ok hi vb6) ?_⟩
  rintro _ ⟨l2, rfl, fr2, wa⟩
  have pz : ∀ z, z < 4 → l2 88 (8 + z) = zL (pwA (MS.getD m zM).2.2.2 (bx w n) z) := fun z hz => by
    rw [wa (8 + z) (by omega)]
    unfold wv12
    rw [if_neg (by omega), if_neg (by omega), show 8 + z - 8 = z by omega]
  have p0 := pz 0 (by decide); have p1 := pz 1 (by decide); have p2 := pz 2 (by decide); have p3 := pz 3 (by decide)
  have z0 : (0 : Int64) = zL 0 := rfl
  have cz : ∀ z, (lg_cmp (zL (pwA (MS.getD m zM).2.2.2 (bx w n) z)) (zL 0) = 0) = (pwA (MS.getD m zM).2.2.2 (bx w n) z = 0) := fun z => by
    have := (pb z).lo; have := (pb z).hi
    exact lz_eq (by omega) (by omega) (by omega) (by omega)
  have b8 : ix (8 : Int32) = 8 := rfl
  have b9 : ix (9 : Int32) = 9 := rfl
  have b10 : ix (10 : Int32) = 10 := rfl
  have b11 : ix (11 : Int32) = 11 := rfl
  rw [R54_46, b8, b9, b10, b11, ml_sil, p0, p1, p2, p3, z0, cz, cz, cz, cz]
  have rl2 : RLn f1 l2 L (lnV s (MS.getD m zM).2.2.2 w 0 n) := fun k hk => by rw [fr2 89 (by decide), fr2 91 (by decide)]; exact rl k hk
  have fl2 : Fr [88, 89, 91] l l2 := fl.trans (fr2.mono (by decide))
  have skip : pwA (MS.getD m zM).2.2.2 (bx w n) 0 = 0 → WM k_Ref_gatherLines p_Ref_gatherLines_6 (gLn m w (rcS s) (.int (zI (bx w n).1)) (.int (zI (bx w n).2.1)) (.int (zI (bx w n).2.2 + 1))) [] (sil h f1 l2) 0 0 Rt := fun z => by
    refine nx f1 l2 ⟨L, ff, f5, fl2, ll.skip (fun c => c.2.2 z), by omega, e50, fun k hk => ?_⟩
    rw [lnV_no (fun c => c.2.1.2 z)]
    obtain ⟨a, b, c⟩ := rl2 k hk
    exact ⟨a, b, fun y hy => by rw [lnV_no (fun c => c.2.1.2 z)]; exact c y hy⟩
  have add : pwA (MS.getD m zM).2.2.2 (bx w n) 0 ≠ 0 → WM k_Ref_gatherLines p_Ref_gatherLines_8 (gLn m w (rcS s) (.int (zI (bx w n).1)) (.int (zI (bx w n).2.1)) (.int (zI (bx w n).2.2))) [] (sil h f1 l2) 0 0 Rt := fun z => by
    have lc : lnC (MS.getD m zM).2.2.2 w n := ⟨nc', z⟩
    have qa := lnQ_ab oks hw hn
    have ql := qa.lo; have qh := qa.hi
    have lb : ∀ x ∈ L, -1000000000000 ≤ x ∧ x ≤ 1000000000000 := fun x hx => by
      obtain ⟨i, _, hi', _, e⟩ := (ll.2 x).mp hx
      have a := lnQ_ab oks hw (show i < bN w by omega)
      have al := a.lo; have ah := a.hi
      rw [e] at al ah
      omega
    obtain ⟨⟨x1, x2⟩, ⟨y1, y2⟩, w1, w2⟩ := vb
    refine v_Ref_gatherLines_8 _ _ _ _ _ _ _ _ _ _ _ _ _ _ ⟨K54, ?_⟩
    rw [i2l_zI (by omega) (by omega), i2l_zI (by omega) (by omega), i2l_zI (by omega) (by omega), q_eq]
    refine SpV.mono (sp_Ref_addLine (q := lnQ s w n) (pw := pwA (MS.getD m zM).2.2.2 (bx w n)) ll.1 (by omega) e50 rl2 lb (by omega) (fun nq j hj => lnV_new ll nq hj) pz) ?_
    rintro _ ⟨f3, l3, L3, rfl, ff3, f53, fl3, so3, mem3, le3, e503, rl3⟩
    refine nx f3 l3 ⟨L3, ff.trans ff3, fun j hj => (f53 j hj).trans (f5 j hj), fl2.trans (fl3.mono (by decide)), ll.put (Nat.zero_le _) lc so3 mem3, by omega, e503, fun k hk => ?_⟩
    obtain ⟨a, b, c⟩ := rl3 k hk
    rw [lnV_ad (Nat.zero_le _) lc (by decide)] at b
    exact ⟨a, b, fun y hy => by rw [← lnV_ad (Nat.zero_le _) lc (by omega)]; exact c y hy⟩
  have i8 : InB (8 : Int32) 12 := InB_nI (a := 8) (by decide) (by decide)
  have i9 : InB (9 : Int32) 12 := InB_nI (a := 9) (by decide) (by decide)
  have i10 : InB (10 : Int32) 12 := InB_nI (a := 10) (by decide) (by decide)
  have i11 : InB (11 : Int32) 12 := InB_nI (a := 11) (by decide) (by decide)
  rw [L88]
  exact ⟨K54, K88, i8, fun c => ⟨i9, fun c1 => ⟨i10, fun c2 => ⟨i11, fun _ => skip c, fun c3 => absurd (pw_zero c 3) c3⟩, fun c2 => absurd (pw_zero c 2) c2⟩, fun c1 => absurd (pw_zero c 1) c1⟩, fun c => add c⟩
