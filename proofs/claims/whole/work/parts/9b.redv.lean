/-! the reference's reduction with values; what a reduction keeps -/
def db : S6 → S6 := fun (a, b, c, d, e, f) => (a, b, c, 2 * d, 2 * e, 2 * f)
def hf : S6 → S6 := fun (a, b, c, x, y, z) => (a, b, c, x / 2, y / 2, z / 2)
def Ev : S6 → Prop := fun (_, _, _, x, y, z) => x % 2 = 0 ∧ y % 2 = 0 ∧ z % 2 = 0
def pDs : S6 → Int := fun (a, b, c, x, y, z) => pD a b c x y z
theorem Ev_db (s : S6) : Ev (db s) := by
  obtain ⟨a, b, c, d, e, f⟩ := s
  exact ⟨by omega, by omega, by omega⟩
theorem sz_ev {v : Int} (h : v % 2 = 0) : sz v % 2 = 0 ∧ (-sz v) % 2 = 0 := by
  have := sz_c v
  omega
theorem s1R_k {t u : S6} (h : s1R t u) : (Ev t → Ev u) ∧ pDs u = pDs t := by
  rcases h with ⟨_, e⟩ | ⟨_, e⟩ <;> subst e
  · obtain ⟨a, b, c, x, y, z⟩ := t
    exact ⟨fun q => ⟨q.2.1, q.1, q.2.2⟩, by show pD b a c y x z = pD a b c x y z; unfold pD; grind⟩
  · exact ⟨id, rfl⟩
theorem sgR_k {t u : S6} (h : sgR t u) : (Ev t → Ev u) ∧ pDs u = pDs t := by
  rcases h with ⟨g, e⟩ | ⟨g, e⟩ <;> subst e <;> obtain ⟨a, b, c, x, y, z⟩ := t
  · refine ⟨fun q => ⟨(sz_ev q.1).1, (sz_ev q.2.1).1, (sz_ev q.2.2).1⟩, ?_⟩
    show pD a b c (sz x) (sz y) (sz z) = pD a b c x y z
    unfold pD
    rw [sz_sq, sz_sq, sz_sq, posi_p g]
  · refine ⟨fun q => ⟨(sz_ev q.1).2, (sz_ev q.2.1).2, (sz_ev q.2.2).2⟩, ?_⟩
    show pD a b c (-sz x) (-sz y) (-sz z) = pD a b c x y z
    unfold pD
    rw [nsz_sq, nsz_sq, nsz_sq, posi_n g]
theorem lsR_k {t u : S6} {m : Prop} (h : lsR t u m) : (Ev t → Ev u) ∧ pDs u = pDs t := by
  obtain ⟨a, b, c, x, y, z⟩ := t
  rcases h with ⟨_, e, _⟩ | ⟨_, _, e, _⟩ | ⟨_, _, _, e, _⟩ | ⟨_, _, _, _, e, _⟩ | ⟨_, _, _, _, e, _⟩ <;> subst e
  · have s := sg_c x
    have hs := sg_sq x
    refine ⟨fun ⟨q1, q2, q3⟩ => ?_, ?_⟩
    · show (x - 2 * sg x * b) % 2 = 0 ∧ (y - sg x * z) % 2 = 0 ∧ z % 2 = 0
      rcases s with ⟨_, e⟩ | ⟨_, e⟩ <;> rw [e] <;> omega
    · show pD a b (b + c - sg x * x) (x - 2 * sg x * b) (y - sg x * z) z = pD a b c x y z
      unfold pD
      rcases s with ⟨_, e⟩ | ⟨_, e⟩ <;> rw [e] <;> grind
  · have s := sg_c y
    refine ⟨fun ⟨q1, q2, q3⟩ => ?_, ?_⟩
    · show (x - sg y * z) % 2 = 0 ∧ (y - 2 * sg y * a) % 2 = 0 ∧ z % 2 = 0
      rcases s with ⟨_, e⟩ | ⟨_, e⟩ <;> rw [e] <;> omega
    · show pD a b (a + c - sg y * y) (x - sg y * z) (y - 2 * sg y * a) z = pD a b c x y z
      unfold pD
      rcases s with ⟨_, e⟩ | ⟨_, e⟩ <;> rw [e] <;> grind
  · have s := sg_c z
    refine ⟨fun ⟨q1, q2, q3⟩ => ?_, ?_⟩
    · show (x - sg z * y) % 2 = 0 ∧ y % 2 = 0 ∧ (z - 2 * sg z * a) % 2 = 0
      rcases s with ⟨_, e⟩ | ⟨_, e⟩ <;> rw [e] <;> omega
    · show pD a (a + b - sg z * z) c (x - sg z * y) y (z - 2 * sg z * a) = pD a b c x y z
      unfold pD
      rcases s with ⟨_, e⟩ | ⟨_, e⟩ <;> rw [e] <;> grind
  · refine ⟨fun ⟨q1, q2, q3⟩ => ?_, ?_⟩
    · show (2 * b + x + z) % 2 = 0 ∧ (2 * a + y + z) % 2 = 0 ∧ z % 2 = 0
      omega
    · show pD a b (c + (x + y + z + a + b)) (2 * b + x + z) (2 * a + y + z) z = pD a b c x y z
      unfold pD; grind
  · exact ⟨id, rfl⟩
theorem stR_k {t u : S6} {m : Prop} (h : stR t u m) : (Ev t → Ev u) ∧ pDs u = pDs t := by
  obtain ⟨v, hv, h⟩ := h
  have a := s1R_k hv
  rcases h with ⟨_, e, _⟩ | ⟨_, w, hw, h⟩
  · subst e
    obtain ⟨p, q, r, x, y, z⟩ := v
    exact ⟨fun w => by have := a.1 w; exact ⟨this.1, this.2.2, this.2.1⟩, by rw [← a.2]; show pD p r q x z y = pD p q r x y z; unfold pD; grind⟩
  · have b := sgR_k hw
    have c := lsR_k h
    exact ⟨fun q => c.1 (b.1 (a.1 q)), c.2.trans (b.2.trans a.2)⟩
theorem Red.k : ∀ {n : Nat} {t u : S6}, Red n t u → OKs t → OKs u ∧ tT u ≤ tT t ∧ (Ev t → Ev u) ∧ pDs u = pDs t
  | 0, t, u, h, ho => by
    have a := stR_ok (show stR t u False from h) ho
    have b := stR_k (show stR t u False from h)
    exact ⟨a.1, a.2.1, b.1, b.2⟩
  | n + 1, t, u, ⟨v, h, r⟩, ho => by
    have a := stR_ok h ho
    have b := stR_k h
    have c := Red.k r a.1
    exact ⟨c.1, Int.le_trans c.2.1 a.2.1, fun q => c.2.2.1 (b.1 q), c.2.2.2.trans b.2⟩
theorem Red.fn : ∀ {n n' : Nat} {t u u' : S6}, Red n t u → Red n' t u' → n = n' ∧ u = u'
  | 0, 0, t, u, u', h, h' => ⟨rfl, (stR_fn (show stR t u False from h) (show stR t u' False from h')).1⟩
  | 0, n' + 1, t, u, u', h, ⟨v, h', r⟩ => absurd trivial (stR_fn h' (show stR t u False from h)).2.mp
  | n + 1, 0, t, u, u', ⟨v, h, r⟩, h' => absurd trivial (stR_fn h (show stR t u' False from h')).2.mp
  | n + 1, n' + 1, t, u, u', ⟨v, h, r⟩, ⟨v', h', r'⟩ => by
    have e := (stR_fn h h').1
    subst e
    have := Red.fn r r'
    exact ⟨by omega, this.2⟩
theorem zL_half {k : Int} (h1 : -1000000000000 ≤ k) (h2 : k ≤ 1000000000000) : zL (2 * k) / (2 : Int64) = zL k := by
  apply hb_leq
  rw [Int64.toInt_div, zL_toI (by omega) (by omega), zL_toI (by omega) (by omega)]
  rw [show (2 : Int64).toInt = 2 from rfl, Int.mul_tdiv_cancel_left k (by decide)]
  exact Int.bmod_eq_of_le (by omega) (by omega)
theorem sp_Ref_reduce {h : MH} {f : (Nat → Nat → Int32)} {l : (Nat → Nat → Int64)} {s : S6} (ho : OKs (db s)) (hT : tT (db s) ≤ 10000000) (hs : Six l s) : SpV k_Ref_reduce [.ref 54] (sil h f l) (fun q => ∃ l' n u, q = sil h f l' ∧ Fr [79] l l' ∧ Red n (db s) u ∧ Six l' (hf u)) := by
  obtain ⟨a, b, c, d, e, g⟩ := s
  obtain ⟨s0, s1, s2, s3, s4, s5⟩ := hs
  have m79 : (79 : Nat) ∈ [79] := List.mem_cons_self
  have bb : ∀ k : Nat, k < 6 → InB (nI k) 6 := fun k hk => InB_nI hk (by omega)
  have hv : ∀ v : Int, v % 2 = 0 → -100000000 ≤ v → v ≤ 100000000 → zL v / (2 : Int64) = zL (v / 2) := fun v h1 h2 h3 => by
    have := zL_half (k := v / 2) (by omega) (by omega)
    rw [show 2 * (v / 2) = v by omega] at this
    exact this
  let P : MH → Prop := fun q => ∃ l' n u, q = sil h f l' ∧ Fr [79] l l' ∧ Red n (db (a, b, c, d, e, g)) u ∧ Six l' (hf u)
  have e3 : ∀ l1 (t : S6) n, Fr [79] l l1 → Six l1 t → BB t → Ev t → Red n (db (a, b, c, d, e, g)) t → WM k_Ref_reduce p_Ref_reduce_3 [.ref 54, Jv, .int (3 : Int32)] [] (sil h f l1) 0 0 (fun _ q => P q) := by
    rintro l1 ⟨p, q, r, x, y, z⟩ n hl ⟨t0, t1, t2, t3, t4, t5⟩ ⟨⟨a1, a2⟩, ⟨b1, b2⟩, ⟨d1, d2⟩, ⟨x1, x2⟩, ⟨y1, y2⟩, ⟨z1, z2⟩⟩ ⟨ex, ey, ez⟩ rd
    have go : ∀ (i : Nat) (l2 : (Nat → Nat → Int64)) (v : Int64), i < 6 → (∀ l3, l3 = up2 l2 79 i v → WM k_Ref_reduce p_Ref_reduce_3 [.ref 54, Jv, .int (nI (i + 1))] [] (sil h f l3) 0 0 (fun _ q => P q)) → l2 79 i / (2 : Int64) = v → WM k_Ref_reduce p_Ref_reduce_3 [.ref 54, Jv, .int (nI i)] [] (sil h f l2) 0 0 (fun _ q => P q) := by
      intro i l2 v hi nx ev
      refine v_Ref_reduce_3 _ _ _ _ ⟨fun _ => ⟨K54, ?_⟩, fun q => absurd (by rw [nI_toI (by omega), show (6 : Int32).toInt = 6 from rfl]; omega) q⟩
      rw [R54_33, ix_nI (by omega), nI_1]
      refine ⟨K79, bb i hi, ?_⟩
      rintro _ rfl
      rw [ml_sil, ev, wl_sil]
      exact nx _ rfl
    refine go 3 l1 (zL (x / 2)) (by decide) ?_ (by rw [t3]; exact hv x ex x1 x2)
    rintro _ rfl
    refine go 4 _ (zL (y / 2)) (by decide) ?_ (by rw [up2_ni (by decide), t4]; exact hv y ey y1 y2)
    rintro _ rfl
    refine go 5 _ (zL (z / 2)) (by decide) ?_ (by rw [up2_ni (by decide), up2_ni (by decide), t5]; exact hv z ez z1 z2)
    rintro _ rfl
    refine v_Ref_reduce_3 _ _ _ _ ⟨fun w => absurd w (by decide), fun _ => ⟨_, n, _, rfl, ((hl.up m79).up m79).up m79, rd, ?_⟩⟩
    refine ⟨?_, ?_, ?_, ?_, ?_, ?_⟩ <;> simp (disch := decide) only [up2_ni, up2_s] <;> assumption
  have e2 : ∀ p : S6 × (Nat → Nat → Int64), (OKs p.1 ∧ tT p.1 ≤ 10000000 ∧ Six p.2 p.1 ∧ Fr [79] l p.2 ∧ Ev p.1 ∧ (∀ n u, Red n p.1 u → ∃ n', Red n' (db (a, b, c, d, e, g)) u)) → WM k_Ref_reduce p_Ref_reduce_2 [.ref 54, .int (1 : Int32), Jv] [] (sil h f p.2) 0 0 (fun _ q => P q) := by
    refine dn_ind (fun p : S6 × (Nat → Nat → Int64) => mu p.1) _ _ ?_
    rintro ⟨t, l1⟩ ⟨q1, q2, q3, q4, q5, q6⟩ ih
    refine v_Ref_reduce_2 _ _ _ _ ⟨fun w => absurd w (by decide), fun _ => ⟨K54, SpI.mono (sp_Ref_step (OK_BB q1 q2) q3) ?_⟩⟩
    rintro r _ ⟨u, l2, rfl, f2, s2', (⟨rfl, hu⟩ | ⟨rfl, hu⟩)⟩
    · have ok := stR_ok hu q1
      exact ih (u, l2) ⟨ok.1, Int.le_trans ok.2.1 q2, s2', q4.trans f2, (stR_k hu).1 q5, fun n v rd => q6 (n + 1) v ⟨u, hu, rd⟩⟩ (Less_mu (ok.2.2 trivial) ok.1 q1 q2)
    · have ok := stR_ok hu q1
      obtain ⟨n', rd'⟩ := q6 0 u hu
      exact v_Ref_reduce_2 _ _ _ _ ⟨fun _ => e3 _ u n' (q4.trans f2) s2' (OK_BB ok.1 (Int.le_trans ok.2.1 q2)) ((stR_k hu).1 q5) rd', fun w => absurd rfl w⟩
  refine v_Ref_reduce _ _ _ ?_
  refine v_Ref_reduce_1 _ _ _ _ ?_
  simp (disch := omega) only [(show (1 : Int32) = nI 1 from rfl), (show (3 : Int32) = nI 3 from rfl), (show (6 : Int32) = nI 6 from rfl), nI_add, nI_mul, nI_1, ix_nI, nI_toI, div_nI, irm_nI, InB_t, zI_add, zI_sub, zI_mul, zI_neg, nI_addZ, zI_addN, nI_mulZ, zI_mulN, nI_subZ, zI_subN, zI_toI, Int.cast_ofNat_Int, mi_sil, ml_sil, hn_sil, wi_sil, wl_sil, up2_ne, up2_s, true_and, and_true, forall_eq, true_implies, implies_true, forall_const, ne_eq, Int.reduceLT, Int.reduceLE, Int.reduceEq, Int.reduceAdd, Int.reduceSub, Int.reduceMul, Int.reduceNeg, Nat.reduceAdd, Nat.reduceMul, Nat.reduceSub, Nat.reduceDiv, Nat.reduceMod, Nat.add_zero, Nat.zero_add, Nat.mul_zero, not_true_eq_false, not_false_eq_true, false_implies, Nat.reduceEqDiff, nI_subN, Int.natCast_add, Int.natCast_mul, K54, R54_33, K79, L79, s3]
  refine v_Ref_reduce_1 _ _ _ _ ?_
  simp (disch := omega) only [(show (1 : Int32) = nI 1 from rfl), (show (3 : Int32) = nI 3 from rfl), (show (6 : Int32) = nI 6 from rfl), nI_add, nI_mul, nI_1, ix_nI, nI_toI, div_nI, irm_nI, InB_t, zI_add, zI_sub, zI_mul, zI_neg, nI_addZ, zI_addN, nI_mulZ, zI_mulN, nI_subZ, zI_subN, zI_toI, Int.cast_ofNat_Int, mi_sil, ml_sil, hn_sil, wi_sil, wl_sil, up2_ne, up2_s, true_and, and_true, forall_eq, true_implies, implies_true, forall_const, ne_eq, Int.reduceLT, Int.reduceLE, Int.reduceEq, Int.reduceAdd, Int.reduceSub, Int.reduceMul, Int.reduceNeg, Nat.reduceAdd, Nat.reduceMul, Nat.reduceSub, Nat.reduceDiv, Nat.reduceMod, Nat.add_zero, Nat.zero_add, Nat.mul_zero, not_true_eq_false, not_false_eq_true, false_implies, Nat.reduceEqDiff, nI_subN, Int.natCast_add, Int.natCast_mul, K54, R54_33, K79, L79, s4, up2_ni]
  refine v_Ref_reduce_1 _ _ _ _ ?_
  simp (disch := omega) only [(show (1 : Int32) = nI 1 from rfl), (show (3 : Int32) = nI 3 from rfl), (show (6 : Int32) = nI 6 from rfl), nI_add, nI_mul, nI_1, ix_nI, nI_toI, div_nI, irm_nI, InB_t, zI_add, zI_sub, zI_mul, zI_neg, nI_addZ, zI_addN, nI_mulZ, zI_mulN, nI_subZ, zI_subN, zI_toI, Int.cast_ofNat_Int, mi_sil, ml_sil, hn_sil, wi_sil, wl_sil, up2_ne, up2_s, true_and, and_true, forall_eq, true_implies, implies_true, forall_const, ne_eq, Int.reduceLT, Int.reduceLE, Int.reduceEq, Int.reduceAdd, Int.reduceSub, Int.reduceMul, Int.reduceNeg, Nat.reduceAdd, Nat.reduceMul, Nat.reduceSub, Nat.reduceDiv, Nat.reduceMod, Nat.add_zero, Nat.zero_add, Nat.mul_zero, not_true_eq_false, not_false_eq_true, false_implies, Nat.reduceEqDiff, nI_subN, Int.natCast_add, Int.natCast_mul, K54, R54_33, K79, L79, s5, up2_ni]
  refine v_Ref_reduce_1 _ _ _ _ ?_
  simp (disch := omega) only [(show (1 : Int32) = nI 1 from rfl), (show (3 : Int32) = nI 3 from rfl), (show (6 : Int32) = nI 6 from rfl), nI_add, nI_mul, nI_1, ix_nI, nI_toI, div_nI, irm_nI, InB_t, zI_add, zI_sub, zI_mul, zI_neg, nI_addZ, zI_addN, nI_mulZ, zI_mulN, nI_subZ, zI_subN, zI_toI, Int.cast_ofNat_Int, mi_sil, ml_sil, hn_sil, wi_sil, wl_sil, up2_ne, up2_s, true_and, and_true, forall_eq, true_implies, implies_true, forall_const, ne_eq, Int.reduceLT, Int.reduceLE, Int.reduceEq, Int.reduceAdd, Int.reduceSub, Int.reduceMul, Int.reduceNeg, Nat.reduceAdd, Nat.reduceMul, Nat.reduceSub, Nat.reduceDiv, Nat.reduceMod, Nat.add_zero, Nat.zero_add, Nat.mul_zero, not_true_eq_false, not_false_eq_true, false_implies, Nat.reduceEqDiff, nI_subN, Int.natCast_add, Int.natCast_mul, K54, R54_33, K79, L79, s5, up2_ni]
  refine e2 ((a, b, c, 2 * d, 2 * e, 2 * g), up2 (up2 (up2 l 79 3 (2 * zL d)) 79 4 (2 * zL e)) 79 5 (2 * zL g)) ⟨ho, hT, ?_, ((Fr.refl.up m79).up m79).up m79, Ev_db (a, b, c, d, e, g), fun n u rd => ⟨n, rd⟩⟩
  refine ⟨?_, ?_, ?_, ?_, ?_, ?_⟩ <;> simp (disch := decide) only [up2_ni, up2_s, j2, zL_mul] <;> assumption
theorem stR_ex (t : S6) : ∃ u, stR t u True ∨ stR t u False := by
  have h1 : ∃ v, s1R t v := by
    by_cases q : c1 t
    · exact ⟨_, Or.inl ⟨q, rfl⟩⟩
    · exact ⟨_, Or.inr ⟨q, rfl⟩⟩
  obtain ⟨v, hv⟩ := h1
  by_cases q : c2 v
  · exact ⟨_, Or.inl ⟨v, hv, Or.inl ⟨q, rfl, trivial⟩⟩⟩
  have h2 : ∃ w, sgR v w := by
    by_cases q : cg v
    · exact ⟨_, Or.inl ⟨q, rfl⟩⟩
    · exact ⟨_, Or.inr ⟨q, rfl⟩⟩
  obtain ⟨w, hw⟩ := h2
  have mk : ∀ {u : S6} {m : Prop}, lsR w u m → stR t u m := fun z => ⟨v, hv, Or.inr ⟨q, w, hw, z⟩⟩
  by_cases x1 : cx w
  · exact ⟨_, Or.inl (mk (lsX x1))⟩
  by_cases x2 : cy w
  · exact ⟨_, Or.inl (mk (lsY x1 x2))⟩
  by_cases x3 : cz w
  · exact ⟨_, Or.inl (mk (lsZ x1 x2 x3))⟩
  by_cases x4 : cs w
  · exact ⟨_, Or.inl (mk (lsS x1 x2 x3 x4))⟩
  · exact ⟨_, Or.inr (mk (lsN x1 x2 x3 x4))⟩
theorem red_ex : ∀ t : S6, (OKs t ∧ tT t ≤ 10000000) → ∃ n u, Red n t u := by
  refine dn_ind (fun t : S6 => mu t) _ _ ?_
  rintro t ⟨ho, hT⟩ ih
  obtain ⟨u, h | h⟩ := stR_ex t
  · have ok := stR_ok h ho
    obtain ⟨n, v, r⟩ := ih u ⟨ok.1, Int.le_trans ok.2.1 hT⟩ (Less_mu (ok.2.2 trivial) ok.1 ho hT)
    exact ⟨n + 1, v, u, h, r⟩
  · exact ⟨0, u, h⟩
