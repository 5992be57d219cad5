/-! multiples and multiple of the class -/
def LatAt (f : (Nat → Nat → Int32)) : Prop := ∀ j, j < 13 → f 4 j = nI (lat.getD j 0)
theorem lat_b : ∀ n, n < 13 → lat.getD n 0 ≤ 455 := by decide
def CmQ (h : MH) (O : Nat → Nat) (t x : Nat) (S : S6) (n : Nat) (r : Int32) (k : MH) (O' : Nat → Nat) (M : List S6) : Prop := MulL S n M ∧ M.length ≤ 455 ∧ r = nI M.length ∧ Kp [x + 3, x + 4, x + 5] h k ∧ (∀ a, a < hn h → O' a = O a) ∧ CelB k O' t x S ∧ CelC k O' t x S ∧ mr k (x + 4) n ≠ 0
def CmP (h : MH) (O : Nat → Nat) (t x : Nat) (S : S6) (n : Nat) (r : Int32) (k : MH) : Prop := ∃ O' M, CmQ h O t x S n r k O' M
theorem div_ex {n m : Nat} (h : n % m = 0) : m * (n / m) = n := Nat.mul_div_cancel' (Nat.dvd_of_mod_eq_zero h)
theorem div_no {n m : Nat} (h : ¬ n % m = 0) : ∀ u, m * u ≠ n := fun u e => h (by rw [← e]; exact Nat.mul_mod_right m u)
theorem sp_countMultiples (RR : RND) {h : MH} {O : Nat → Nat} {t x n : Nat} {S : S6} (H : SS h) (la : LatAt (mi h)) (oks : okC S) (b : CelB h O t x S) (c : CelC h O t x S) (n1 : 1 ≤ n) (n12 : n ≤ 12) : SpI k_Cell_countMultiples [.ref x, .int (nI n)] h (fun r k => CmP h O t x S n r k) := by
  have t1 : (1 : Int32).toInt = 1 := rfl
  have t12 : (12 : Int32).toInt = 12 := rfl
  have t6 : (6 : Int32) = nI 6 := rfl
  have lb := lat_b n (by omega)
  have l4 : ln h 4 = 13 := H.2.2.1 (4, 13) (by decide)
  have b0 := b
  obtain ⟨⟨x99, xl, ox⟩, ⟨e1, e2, e3, e4, e5, e6⟩, ⟨d1, d2, d3, d4, d5, d6, d7⟩, ft, ku, u, rdu, fu, sym⟩ := b
  refine v_Cell_countMultiples _ _ _ _ ?_
  rw [nI_toI (by omega), t1, t12, e5, e6, ix_nI (by omega), d5, d7]
  refine ⟨fun q => absurd q (by omega), fun _ => ⟨fun q => absurd q (by omega), fun _ => ⟨e1, d4, InB_nI (by omega) (by omega), fun q0 => ?_, fun q1 => ?_⟩⟩⟩
  rotate_left
  · rcases c n (by omega) with q | ⟨M, m1, m2, m3, m4, m5⟩
    · exact absurd q q1
    · exact ⟨d6, InB_nI (by omega) (by omega), _, rfl, O, M, m5, by omega, m3, Kp.refl H, fun _ _ => rfl, b0, c, q1⟩
  rw [l4, la n (by omega), t6, nI_mul, nI_toI (by omega), ix_nI (by omega)]
  refine ⟨H.k4, InB_nI (by omega) (by omega), by omega, gd_t (by omega) ?_⟩
  rintro _ rfl
  have c1 : Kp [] h (nw h 21 (6 * lat.getD n 0)) := (Kp.refl H).nw
  have S1 := c1.1
  have kR : kd (nw h 21 (6 * lat.getD n 0)) (hn h) = 21 := kd_new
  have lR : ln (nw h 21 (6 * lat.getD n 0)) (hn h) = 6 * lat.getD n 0 := ln_new
  have hnR : hn (nw h 21 (6 * lat.getD n 0)) = hn h + 1 := hn_nw
  generalize nw h 21 (6 * lat.getD n 0) = h1 at *
  have b1 := b0.kp (O' := O) c1 (fun a ha => absurd ha List.not_mem_nil) (fun _ _ => rfl)
  have r1 : mr h1 x = mr h x := c1.r (by omega) List.not_mem_nil
  have md : MdAt h1 x (hn h) (lat.getD n 0) := ⟨b1.2.1.1, b1.2.1.2.2.2.1, b1.2.2.1.2.2.1, kR, lR, lb, by omega⟩
  have to : ToAt h1 x := ⟨b1.2.1.2.1, b1.2.2.1.1⟩
  let Rt : Value → MH → Prop := fun v k => ∃ r, v = .int r ∧ CmP h O t x S n r k
  have N13 : x + 1 ∉ [x + 3, hn h] := fun q => by
    simp only [List.mem_cons, List.not_mem_nil, or_false] at q
    omega
  have fin : ∀ (l1 : (Nat → Nat → Int64)) (M : List S6), Fr [x + 3, hn h] (ml h1) l1 → MulL S n M → M.length ≤ lat.getD n 0 → MulAt l1 (hn h) M → CmP h O t x S n (nI M.length) (wi (wr (sl h1 l1) (x + 4) n (hn h)) (x + 5) n (nI M.length)) := by
    intro l1 M fr mL len ma
    have g1 : mr (wi (wr (sl h1 l1) (x + 4) n (hn h)) (x + 5) n (nI M.length)) (x + 4) n = hn h := by rw [mr_wi, mr_wr, up2_s]
    have K3 : Kp [x + 3, x + 4, x + 5] h (wi (wr (sl h1 l1) (x + 4) n (hn h)) (x + 5) n (nI M.length)) := by
      have a : Kp [x + 3, x + 4, x + 5] h (sl h1 l1) := ⟨S1, by show hn h ≤ hn h1; omega, fun y hy => by
        have q := c1.2.2 y hy
        have q2 := q.2.2 List.not_mem_nil
        refine ⟨q.1, q.2.1, fun nA => ⟨q2.1, (fr y (fun w => ?_)).trans q2.2.1, q2.2.2⟩⟩
        simp only [List.mem_cons, List.not_mem_nil, or_false] at w nA
        omega⟩
      exact (a.wr (Or.inl (by simp)) (Or.inl (by omega))).wi (Or.inl (by simp))
    have hnk : hn (wi (wr (sl h1 l1) (x + 4) n (hn h)) (x + 5) n (nI M.length)) = hn h + 1 := by rw [hn_wi, hn_wr]; exact hnR
    refine ⟨fun a => if a = hn h then t else O a, M, mL, by omega, rfl, K3, fun a ha => if_neg (by omega), ?_, fun q hq => ?_, by rw [g1]; omega⟩
    · have n0 : x ∉ [x + 3, x + 4, x + 5] := fun q => by
        simp only [List.mem_cons, List.not_mem_nil, or_false] at q
        omega
      have n1' : x + 1 ∉ [x + 3, x + 4, x + 5] := fun q => by
        simp only [List.mem_cons, List.not_mem_nil, or_false] at q
        omega
      have n2 : x + 2 ∉ [x + 3, x + 4, x + 5] := fun q => by
        simp only [List.mem_cons, List.not_mem_nil, or_false] at q
        omega
      have r0 := K3.r (x := x) (by omega) n0
      refine ⟨⟨x99, by omega, fun j hj => (if_neg (by omega)).trans (ox j hj)⟩, ⟨by rw [K3.k (by omega)]; exact e1, by rw [r0]; exact e2, by rw [r0]; exact e3, by rw [r0]; exact e4, by rw [r0]; exact e5, by rw [r0]; exact e6⟩, ⟨by rw [K3.k (by omega)]; exact d1, by rw [K3.k (by omega)]; exact d2, by rw [K3.k (by omega)]; exact d3, by rw [K3.k (by omega)]; exact d4, by rw [K3.n (by omega)]; exact d5, by rw [K3.k (by omega)]; exact d6, by rw [K3.n (by omega)]; exact d7⟩, ft.fr (K3.l (by omega) n1'), ku, u, rdu, fu.fr (K3.l (by omega) n2), by rw [K3.i (by omega) n0]; exact sym⟩
    · by_cases eq : q = n
      · subst eq
        rw [g1]
        refine Or.inr ⟨M, ⟨by omega, by omega, if_pos rfl, ?_, ?_⟩, len, ?_, ?_, mL⟩
        · rw [kd_wi, kd_wr]; exact kR
        · rw [ln_wi, ln_wr]; exact lR
        · rw [mi_wi, up2_s]
        · rw [ml_wi, ml_wr]; exact ma
      · have g2 : mr (wi (wr (sl h1 l1) (x + 4) n (hn h)) (x + 5) n (nI M.length)) (x + 4) q = mr h (x + 4) q := by
          rw [mr_wi, mr_wr, up2_ni eq, sl_mr, c1.r (by omega) List.not_mem_nil]
        have g3 : mi (wi (wr (sl h1 l1) (x + 4) n (hn h)) (x + 5) n (nI M.length)) (x + 5) q = mi h (x + 5) q := by
          rw [mi_wi, up2_ni eq, mi_wr, sl_mi, c1.i (by omega) List.not_mem_nil]
        rw [g2, g3]
        refine (c q hq).imp id (fun ⟨M', ⟨m1, m2, m3, m4, m5⟩, m6, m7, m8, m9⟩ => ⟨M', ⟨m1, by omega, (if_neg (by omega)).trans m3, by rw [K3.k m2]; exact m4, by rw [K3.n m2]; exact m5⟩, m6, m7, ?_, m9⟩)
        have nm : mr h (x + 4) q ∉ [x + 3, x + 4, x + 5] := fun w => by
          simp only [List.mem_cons, List.not_mem_nil, or_false] at w
          rcases w with w | w | w
          · rw [w] at m4; omega
          · rw [w] at m4; omega
          · rw [w] at m4; omega
        unfold MulAt
        rw [K3.l m2 nm]
        exact m8
  have lp : ∀ d p (l1 : (Nat → Nat → Int64)) (M : List S6), n + 1 - p = d → 1 ≤ p → p ≤ n + 1 → Fr [x + 3, hn h] (ml h1) l1 → MulP S n p 1 0 0 0 M → M.length ≤ cPm n p → MulAt l1 (hn h) M → M.length ≤ lat.getD n 0 → WM k_Cell_countMultiples p_Cell_countMultiples_1 [.ref x, .int (nI n), .ref (hn h), .int (nI M.length), .int (nI p), Jv] [] (sl h1 l1) 1 (0 + 6 * lat.getD n 0) Rt := by
    intro d
    induction d with
    | zero =>
      intro p l1 M hd p1 hp fr mp len ma ll
      refine v_Cell_countMultiples_1 _ _ _ _ _ _ _ _ _ ?_
      rw [nI_toI (by omega), nI_toI (by omega), sl_mr, b1.2.1.2.2.2.2.1, ix_nI (by omega), show ln (sl h1 l1) (x + 4) = 13 from b1.2.2.1.2.2.2.2.1]
      refine ⟨fun _ => ⟨b1.2.1.1, b1.2.2.1.2.2.2.1, InB_nI (by omega) (by omega), kR, ?_⟩, fun q => absurd (by omega) q⟩
      rintro _ rfl
      have r5 : mr (wr (sl h1 l1) (x + 4) n (hn h)) x 4 = x + 5 := by rw [mr_wr, up2_ne (by omega)]; exact b1.2.1.2.2.2.2.2
      rw [r5, show ln (sl h1 l1) (x + 5) = 13 from b1.2.2.1.2.2.2.2.2.2]
      refine ⟨b1.2.2.1.2.2.2.2.2.1, InB_nI (by omega) (by omega), ?_⟩
      rintro _ rfl
      refine gd_t (by decide) (gd_t (by omega) ?_)
      rw [mi_wi, up2_s]
      exact ⟨_, rfl, fin l1 M fr (mp.end (by omega) n1) ll ma⟩
    | succ d ih =>
      intro p l1 M hd p1 hp fr mp len ma ll
      refine v_Cell_countMultiples_1 _ _ _ _ _ _ _ _ _ ⟨fun q => absurd q (by rw [nI_toI (by omega), nI_toI (by omega)]; omega), fun _ => ?_⟩
      have lr : ∀ d r (l1 : (Nat → Nat → Int64)) (M : List S6), n + 1 - r = d → 1 ≤ r → r ≤ n + 1 → Fr [x + 3, hn h] (ml h1) l1 → MulP S n p r 0 0 0 M → M.length ≤ cPm n p + cR n p r → MulAt l1 (hn h) M → M.length ≤ lat.getD n 0 → WM k_Cell_countMultiples p_Cell_countMultiples_2 [.ref x, .int (nI n), .ref (hn h), .int (nI M.length), .int (nI p), .int (nI r)] [] (sl h1 l1) 1 (0 + 6 * lat.getD n 0) Rt := by
        intro d
        have big : ∀ r, n < p * r → ∀ r' u, r ≤ r' → p * r' * u ≠ n := fun r hr r' u hr' e => by
          have u0 : 0 < u := by
            rcases Nat.eq_zero_or_pos u with z | z
            · rw [z, Nat.mul_zero] at e; omega
            · exact z
          have a := Nat.mul_le_mul_left p hr'
          have b := Nat.le_mul_of_pos_right (p * r') u0
          omega
        have done : ∀ r (l1 : (Nat → Nat → Int64)) (M : List S6), 1 ≤ r → r ≤ n + 1 → n < p * r → Fr [x + 3, hn h] (ml h1) l1 → MulP S n p r 0 0 0 M → M.length ≤ cPm n p + cR n p r → MulAt l1 (hn h) M → M.length ≤ lat.getD n 0 → WM k_Cell_countMultiples p_Cell_countMultiples_1 [.ref x, .int (nI n), .ref (hn h), .int (nI M.length), .int (nI (p + 1)), Jv] [] (sl h1 l1) 1 (0 + 6 * lat.getD n 0) Rt := fun r l1 M r1 hr lt fr mp len ma ll =>
          ih (p + 1) l1 M (by omega) (by omega) (by omega) fr (mp.nr (big r lt)) (Nat.le_trans len (c_mono n (by omega) p (by omega) r (by omega) p1)) ma ll
        have pr144 : ∀ r, r ≤ n + 1 → p * r ≤ 169 := fun r hr => Nat.le_trans (Nat.mul_le_mul (show p ≤ 13 by omega) (show r ≤ 13 by omega)) (by decide)
        induction d with
        | zero =>
          intro r l1 M hd r1 hr fr mp len ma ll
          have lt : n < p * r := by
            have := Nat.mul_le_mul p1 (Nat.le_refl r)
            omega
          have := pr144 r hr
          refine v_Cell_countMultiples_2 _ _ _ _ _ _ _ _ _ _ ?_
          rw [nI_mul, nI_toI (by omega), nI_toI (by omega), nI_1]
          exact ⟨fun _ => done r l1 M r1 hr lt fr mp len ma ll, fun q => absurd (by omega) q⟩
        | succ d ihr =>
          intro r l1 M hd r1 hr fr mp len ma ll
          have pr := pr144 r hr
          have pr0 : 0 < p * r := Nat.mul_pos (by omega) (by omega)
          refine v_Cell_countMultiples_2 _ _ _ _ _ _ _ _ _ _ ?_
          rw [nI_mul, nI_toI (by omega), nI_toI (by omega), irm_nI (by omega) pr0 (by omega), div_nI (by omega) pr0 (by omega)]
          simp only [nI_1]
          refine ⟨fun lt => done r l1 M r1 hr (by omega) fr mp len ma ll, fun ge => ⟨fun q => by
            have := (nI_inj (x := p * r) (y := 0) (by omega) (by decide)).mp q
            omega, fun dv => ⟨b1.2.1.1, gd_t (by decide) (gd_t (by omega) ?_)⟩, fun nd => ?_⟩⟩
          · have dv : n % (p * r) = 0 := (nI_inj (by have := Nat.mod_lt n pr0; omega) (by decide)).mp dv
            have cap := c_lat n (by omega) p (by omega) r (by omega) ⟨by omega, by omega, by omega, dv⟩
            refine SpI.mono (sp_gather RR (n := n) (base := cPm n p + cR n p r) oks md to (ft.fr (by
              have a := fr (x + 1) N13
              rw [a]; exact c1.l (by omega) List.not_mem_nil)) n12 n1 (by omega) (by omega) (div_ex dv) mp len cap ma) ?_
            rintro _ _ ⟨l2, M2, rfl, fr2, mp2, len2, ma2, rfl⟩
            refine ihr (r + 1) l2 M2 (by omega) (by omega) (by omega) (fr.trans fr2) mp2 ?_ ma2 (by omega)
            show _ ≤ cPm n p + (cR n p r + if 0 < r ∧ n % (p * r) = 0 then p * p * r else 0)
            rw [if_pos ⟨by omega, dv⟩]; omega
          · have nd : ¬ n % (p * r) = 0 := fun q => nd (by rw [q]; rfl)
            refine ihr (r + 1) l1 M (by omega) (by omega) (by omega) fr (mp.no (div_no nd)) ?_ ma ll
            show _ ≤ cPm n p + (cR n p r + if 0 < r ∧ n % (p * r) = 0 then p * p * r else 0)
            omega
      refine lr _ 1 l1 M rfl (Nat.le_refl _) (by omega) fr mp ?_ ma ll
      omega
  have := lp _ 1 (ml h1) [] rfl (Nat.le_refl _) (by omega) Fr.refl (MulP.beg S n) (Nat.zero_le _) (fun k hk => absurd hk (Nat.not_lt_zero k)) (Nat.zero_le _)
  rw [sl_self] at this
  exact this
theorem CmQ.hc {h k : MH} {O O' : Nat → Nat} {CS : List S6} {i n : Nat} {r : Int32} {M : List S6} (H : SS h) (b : HCel h O CS) (hi : i < CS.length) (q : CmQ h O (60 + i) (mr h 43 i) (CS.getD i z6) n r k O' M) : HCel k O' CS ∧ StpO h k O O' [] (fun t => 60 ≤ t ∧ t < 100) ∧ mr k 43 i = mr h 43 i := by
  obtain ⟨_, _, _, c, ho, cb, cc, _⟩ := q
  have h99 := H.1
  have l40 := b.1
  obtain ⟨oki, bi, _⟩ := b.2.2 i hi
  have x99 := bi.1.1
  have ox := bi.1.2.2
  have no : ∀ y, y < 99 → y ∉ [mr h 43 i + 3, mr h 43 i + 4, mr h 43 i + 5] := fun y hy w => by
    simp only [List.mem_cons, List.not_mem_nil, or_false] at w
    omega
  have e43 := c.r (x := 43) (by omega) (no 43 (by decide))
  have own : ∀ a ∈ [mr h 43 i + 3, mr h 43 i + 4, mr h 43 i + 5], 99 ≤ a ∧ O a = 60 + i := fun a w => by
    simp only [List.mem_cons, List.not_mem_nil, or_false] at w
    rcases w with rfl | rfl | rfl
    · exact ⟨by omega, ox 3 (by decide)⟩
    · exact ⟨by omega, ox 4 (by decide)⟩
    · exact ⟨by omega, ox 5 (by decide)⟩
  refine ⟨⟨l40, by rw [c.i (by omega) (no 5 (by decide))]; exact b.2.1, fun j hj => ?_⟩, ⟨_, c, fun a ha => Or.inr ?_, ho⟩, by rw [e43]⟩
  · obtain ⟨g1, g2, g3⟩ := b.2.2 j hj
    rw [e43]
    by_cases ej : j = i
    · subst ej; exact ⟨g1, cb, cc⟩
    · have hA : ∀ a ∈ [mr h 43 i + 3, mr h 43 i + 4, mr h 43 i + 5], a < 99 ∨ O a ≠ 60 + j := fun a ha => by
        right; rw [(own a ha).2]; omega
      exact ⟨g1, g2.kp c hA ho, g3.kp g2 c hA ho⟩
  · rw [(own a ha).2]; exact ⟨(own a ha).1, by omega, by omega⟩
def MsA (CS : List S6) (x w r : Int32) : Prop := (∃ j n, j < CS.length ∧ 1 ≤ n ∧ n ≤ 12 ∧ x = nI j ∧ w = nI n ∧ ∃ M, MulL (CS.getD j z6) n M ∧ r = nI M.length) ∨ ((¬ ∃ j n, j < CS.length ∧ 1 ≤ n ∧ n ≤ 12 ∧ x = nI j ∧ w = nI n) ∧ r = -1)
theorem MsA.fn {CS : List S6} {x w r r' : Int32} (hl : CS.length ≤ 40) (h : MsA CS x w r) (h' : MsA CS x w r') : r = r' := by
  rcases h with ⟨j, n, hj, h1, h2, e1, e2, M, mL, v⟩ | ⟨no, e⟩ <;> rcases h' with ⟨j', n', hj', h1', h2', e1', e2', M', mL', v'⟩ | ⟨no', e'⟩
  · rw [e1] at e1'
    rw [e2] at e2'
    have a : j = j' := (nI_inj (by omega) (by omega)).mp e1'
    have b : n = n' := (nI_inj (by omega) (by omega)).mp e2'
    subst a b
    rw [v, v', mL.fn mL']
  · exact absurd ⟨j, n, hj, h1, h2, e1, e2⟩ no'
  · exact absurd ⟨j', n', hj', h1', h2', e1', e2'⟩ no
  · rw [e, e']
theorem ms_no1 {CS : List S6} (hl : CS.length ≤ 40) {x w : Int32} (q : ¬ (0 ≤ x.toInt ∧ x.toInt < CS.length)) : ¬ ∃ j n, j < CS.length ∧ 1 ≤ n ∧ n ≤ 12 ∧ x = nI j ∧ w = nI n := fun ⟨j, n, hj, _, _, e1, _⟩ => q (by rw [e1, nI_toI (by omega)]; omega)
theorem ms_no2 {CS : List S6} {x w : Int32} (q : ¬ (1 ≤ w.toInt ∧ w.toInt ≤ 12)) : ¬ ∃ j n, j < CS.length ∧ 1 ≤ n ∧ n ≤ 12 ∧ x = nI j ∧ w = nI n := fun ⟨j, n, _, h1, h2, _, e2⟩ => q (by rw [e2, nI_toI (by omega)]; omega)
def CmIds : Nat → Prop := fun t => 60 ≤ t ∧ t < 100
theorem sp_Ho_multiples (RR : RND) {h : MH} {O : Nat → Nat} {CS : List S6} (H : SS h) (la : LatAt (mi h)) (hc : HCel h O CS) (x w : Int32) : SpI k_Ho_multiples [.ref 5, .int x, .int w] h (fun r g => MsA CS x w r ∧ ∃ O', StpO h g O O' [] (fun t => 60 ≤ t ∧ t < 100) ∧ HCel g O' CS) := by
  have hl := hc.1
  have t1 : (1 : Int32).toInt = 1 := rfl
  have t12 : (12 : Int32).toInt = 12 := rfl
  refine v_Ho_multiples _ _ _ _ _ ⟨H.k5, SpR.mono (sp_Ho_cellAt H hc x) ?_⟩
  rintro r1 k ⟨rfl, ⟨j, hj, rfl, rfl, r0⟩ | ⟨no, rfl⟩⟩
  rotate_left
  · exact ⟨fun _ => ⟨_, rfl, Or.inr ⟨ms_no1 hl no, rfl⟩, O, StpO.refl H, hc⟩, fun q => absurd rfl q⟩
  rw [t1, t12]
  refine ⟨fun q => absurd q r0, fun _ => ⟨fun c => ⟨_, rfl, Or.inr ⟨ms_no2 (by omega), rfl⟩, O, StpO.refl H, hc⟩, fun c1 => ⟨fun c => ⟨_, rfl, Or.inr ⟨ms_no2 (by omega), rfl⟩, O, StpO.refl H, hc⟩, fun c2 => ?_⟩⟩⟩
  obtain ⟨n, rfl, hn⟩ := op_x (n := 13) (x := w) (by omega) (by omega) (by decide)
  rw [nI_toI (by omega)] at c1 c2
  obtain ⟨oks, cb, cc⟩ := hc.2.2 j hj
  refine ⟨cb.2.1.1, SpI.mono (sp_countMultiples RR H la oks cb cc (by omega) (by omega)) ?_⟩
  rintro r g ⟨O', M, q⟩
  have z := q.hc H hc hj
  exact ⟨_, rfl, Or.inl ⟨j, n, hj, by omega, by omega, rfl, rfl, M, q.1, q.2.2.1⟩, O', z.2.1, z.1⟩
def MlV (CS : List S6) (x w y z : Int32) (j n i : Nat) : Prop := j < CS.length ∧ 1 ≤ n ∧ n ≤ 12 ∧ i < 6 ∧ x = nI j ∧ w = nI n ∧ z = nI i ∧ 0 ≤ y.toInt
def MlA (CS : List S6) (x w y z : Int32) (r : Int64) : Prop := (∃ j n i, MlV CS x w y z j n i ∧ ∃ M, MulL (CS.getD j z6) n M ∧ M.length ≤ 455 ∧ ((∃ k, k < M.length ∧ y = nI k ∧ r = zL (nth6 (M.getD k z6) i)) ∨ (¬ y.toInt < M.length ∧ r = 0))) ∨ ((¬ ∃ j n i, MlV CS x w y z j n i) ∧ r = 0)
theorem MlA.fn {CS : List S6} {x w y z : Int32} {r r' : Int64} (hl : CS.length ≤ 40) (h : MlA CS x w y z r) (h' : MlA CS x w y z r') : r = r' := by
  rcases h with ⟨j, n, i, hv, M, mL, ll, v⟩ | ⟨no, e⟩ <;> rcases h' with ⟨j', n', i', hv', M', mL', ll', v'⟩ | ⟨no', e'⟩
  · obtain ⟨hj, h1, h2, hi, e1, e2, e4, hy⟩ := hv
    obtain ⟨hj', h1', h2', hi', e1', e2', e4', hy'⟩ := hv'
    rw [e1] at e1'
    rw [e2] at e2'
    rw [e4] at e4'
    have a : j = j' := (nI_inj (by omega) (by omega)).mp e1'
    have b : n = n' := (nI_inj (by omega) (by omega)).mp e2'
    have d : i = i' := (nI_inj (by omega) (by omega)).mp e4'
    subst a b d
    have := mL.fn mL'
    subst this
    rcases v with ⟨k, hk, ek, v⟩ | ⟨nk, v⟩ <;> rcases v' with ⟨k', hk', ek', v'⟩ | ⟨nk', v'⟩
    · rw [ek] at ek'
      have c : k = k' := (nI_inj (by omega) (by omega)).mp ek'
      subst c
      rw [v, v']
    · exact absurd (by rw [ek, nI_toI (by omega)]; omega) nk'
    · exact absurd (by rw [ek', nI_toI (by omega)]; omega) nk
    · rw [v, v']
  · exact absurd ⟨j, n, i, hv⟩ no'
  · exact absurd ⟨j', n', i', hv'⟩ no
  · rw [e, e']
theorem ml_no1 {CS : List S6} (hl : CS.length ≤ 40) {x w y z : Int32} (q : ¬ (0 ≤ x.toInt ∧ x.toInt < CS.length)) : ¬ ∃ j n i, MlV CS x w y z j n i := fun ⟨j, n, i, hj, _, _, _, e1, _⟩ => q (by rw [e1, nI_toI (by omega)]; omega)
theorem ml_no2 {CS : List S6} {x w y z : Int32} (q : ¬ (1 ≤ w.toInt ∧ w.toInt ≤ 12)) : ¬ ∃ j n i, MlV CS x w y z j n i := fun ⟨j, n, i, _, h1, h2, _, _, e2, _⟩ => q (by rw [e2, nI_toI (by omega)]; omega)
theorem ml_no3 {CS : List S6} {x w y z : Int32} (q : ¬ (0 ≤ z.toInt ∧ z.toInt < 6)) : ¬ ∃ j n i, MlV CS x w y z j n i := fun ⟨j, n, i, _, h1, h2, hi, _, _, e4, _⟩ => q (by rw [e4, nI_toI (by omega)]; omega)
theorem ml_no4 {CS : List S6} {x w y z : Int32} (q : ¬ 0 ≤ y.toInt) : ¬ ∃ j n i, MlV CS x w y z j n i := fun ⟨j, n, i, _, _, _, _, _, _, _, hy⟩ => q hy
theorem sp_Ho_multiple (RR : RND) {h : MH} {O : Nat → Nat} {CS : List S6} (H : SS h) (la : LatAt (mi h)) (hc : HCel h O CS) (x w y z : Int32) : SpL k_Ho_multiple [.ref 5, .int x, .int w, .int y, .int z] h (fun r g => MlA CS x w y z r ∧ ∃ O', StpO h g O O' [] (fun t => 60 ≤ t ∧ t < 100) ∧ HCel g O' CS) := by
  have hl := hc.1
  have t1 : (1 : Int32).toInt = 1 := rfl
  have t5 : (5 : Int32).toInt = 5 := rfl
  have t6 : (6 : Int32) = nI 6 := rfl
  have t12 : (12 : Int32).toInt = 12 := rfl
  refine v_Ho_multiple _ _ _ _ _ _ _ ⟨H.k5, SpR.mono (sp_Ho_cellAt H hc x) ?_⟩
  rintro r1 k0 ⟨rfl, ⟨j, hj, rfl, rfl, r0⟩ | ⟨no, rfl⟩⟩
  rotate_left
  · exact ⟨fun _ => ⟨_, rfl, Or.inr ⟨ml_no1 hl no, rfl⟩, O, StpO.refl H, hc⟩, fun q => absurd rfl q⟩
  rw [t1, t12, t5]
  refine ⟨fun q => absurd q r0, fun _ => ⟨fun c => ⟨_, rfl, Or.inr ⟨ml_no2 (by omega), rfl⟩, O, StpO.refl H, hc⟩, fun c1 => ⟨fun c => ⟨_, rfl, Or.inr ⟨ml_no2 (by omega), rfl⟩, O, StpO.refl H, hc⟩, fun c2 => ⟨fun c => ⟨_, rfl, Or.inr ⟨ml_no3 (by omega), rfl⟩, O, StpO.refl H, hc⟩, fun c3 => ⟨fun c => ⟨_, rfl, Or.inr ⟨ml_no3 (by omega), rfl⟩, O, StpO.refl H, hc⟩, fun c4 => ⟨fun c => ⟨_, rfl, Or.inr ⟨ml_no4 (by omega), rfl⟩, O, StpO.refl H, hc⟩, fun c5 => ?_⟩⟩⟩⟩⟩⟩
  obtain ⟨n, rfl, hn⟩ := op_x (n := 13) (x := w) (by omega) (by omega) (by decide)
  obtain ⟨i, rfl, hi⟩ := op_x (n := 6) (x := z) (by omega) (by omega) (by decide)
  rw [nI_toI (by omega)] at c1 c2
  obtain ⟨oks, cb, cc⟩ := hc.2.2 j hj
  refine ⟨cb.2.1.1, SpI.mono (sp_countMultiples RR H la oks cb cc (by omega) (by omega)) ?_⟩
  rintro r g ⟨O', M, q⟩
  have z := q.hc H hc hj
  obtain ⟨mL, ll, er, kp, ho, cb', cc', ne⟩ := q
  have hv : MlV CS (nI j) (nI n) y (nI i) j n i := ⟨hj, by omega, by omega, hi, rfl, rfl, rfl, by omega⟩
  rw [er, nI_toI (by omega), cb'.2.1.2.2.2.2.1, ix_nI (by omega), cb'.2.2.1.2.2.2.2.1]
  refine ⟨fun lt => ⟨cb'.2.1.1, cb'.2.2.1.2.2.2.1, InB_nI (by omega) (by omega), fun q => absurd q ne, fun _ => ?_⟩, fun ge => ⟨_, rfl, Or.inl ⟨j, n, i, hv, M, mL, ll, Or.inr ⟨ge, rfl⟩⟩, O', z.2.1, z.1⟩⟩
  obtain ⟨k, rfl, hk⟩ := op_x (n := M.length) (x := y) (by omega) lt (by omega)
  rcases cc' n (by omega) with w | ⟨M', ⟨m1, m2, m3, m4, m5⟩, m6, m7, m8, m9⟩
  · exact absurd w ne
  have := m9.fn mL
  subst this
  rw [t6, nI_mul, nI_add, ix_nI (by omega), m5, m8 k hk i hi]
  exact ⟨m4, InB_nI (by omega) (by omega), _, rfl, Or.inl ⟨j, n, i, hv, M', mL, ll, Or.inl ⟨k, hk, rfl, rfl⟩⟩, O', z.2.1, z.1⟩
