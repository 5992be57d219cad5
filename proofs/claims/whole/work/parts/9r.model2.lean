/-! a new model -/
theorem arr_field {g : MH} {x j k n : Nat} (G : SS g) (hx : 99 ≤ x) (hl : x < hn g) : Kp [x] g (wr (nw g k n) x j (hn g)) ∧ hn (wr (nw g k n) x j (hn g)) = hn g + 1 ∧ kd (wr (nw g k n) x j (hn g)) (hn g) = k ∧ ln (wr (nw g k n) x j (hn g)) (hn g) = n ∧ mr (wr (nw g k n) x j (hn g)) x j = hn g ∧ (∀ i, i ≠ j → mr (wr (nw g k n) x j (hn g)) x i = mr g x i) ∧ mi (wr (nw g k n) x j (hn g)) x = mi g x ∧ ∀ i, mr (wr (nw g k n) x j (hn g)) (hn g) i = 0 := by
  refine ⟨(Kp.refl G).nw.wr (Or.inl List.mem_cons_self) (Or.inl hx), rfl, by rw [kd_wr]; exact kd_new, by rw [ln_wr]; exact ln_new, by rw [mr_wr, up2_s], fun i hi => by rw [mr_wr, up2_ni hi, mr_old (by omega)], ?_, fun i => by rw [mr_wr, up2_ne (by omega)]; exact mr_new i⟩
  funext i
  rw [mi_wr]; exact mi_old (by omega)
theorem int_field {g : MH} {x j : Nat} {v : Int32} (G : SS g) (hx : 99 ≤ x) : Kp [x] g (wi g x j v) := (Kp.refl G).wi (Or.inl List.mem_cons_self)
theorem mdl_row {g3 : MH} {x : Nat} (G : SS g3) (hx : 99 ≤ x) (e : hn g3 = x + 4) (hk : kd g3 x = 6) :
    ∃ q, q = wr (iR (x + 4) 300 (nw (wi g3 x 6 0) 9 0)) x 7 (x + 4) ∧ Kp [x] g3 q ∧ hn q = x + 6 ∧ (∀ i, i ≠ 7 → mr q x i = mr g3 x i) ∧ mr q x 7 = x + 4 ∧ mi q x 6 = 0 ∧ mi q x 4 = mi g3 x 4 ∧ (kd q (x + 4) = 9 ∧ mr q (x + 4) 0 = x + 5 ∧ kd q (x + 5) = 20 ∧ ln q (x + 5) = 300) ∧ mi q (x + 4) 1 = 0 := by
  have W3 : Kp [x] g3 (nw (wi g3 x 6 0) 9 0) := ((Kp.refl G).wi (Or.inl List.mem_cons_self)).nw
  have en : hn (nw (wi g3 x 6 0) 9 0) = x + 5 := by rw [hn_nw, hn_wi, e]
  have e4 : x + 4 = hn (wi g3 x 6 0) := by rw [hn_wi, e]
  have k4 : kd (nw (wi g3 x 6 0) 9 0) (x + 4) = 9 := by rw [e4]; exact kd_new
  have mi6 : mi (nw (wi g3 x 6 0) 9 0) x 6 = 0 := by rw [mi_old (by omega), mi_wi, up2_s]
  have mi4 : mi (nw (wi g3 x 6 0) 9 0) x 4 = mi g3 x 4 := by rw [mi_old (by omega), mi_wi, up2_ni (by decide)]
  have mrx : ∀ i, mr (nw (wi g3 x 6 0) 9 0) x i = mr g3 x i := fun i => by rw [mr_old (by omega), mr_wi]
  generalize nw (wi g3 x 6 0) 9 0 = p at *
  have KR : Kp [x] g3 (wr (iR (x + 4) 300 p) x 7 (x + 4)) := (W3.iR (Or.inr (by omega)) (by omega)).wr (Or.inl List.mem_cons_self) (Or.inl hx)
  have e5 : x + 5 = hn (wi p (x + 4) 1 0) := by rw [hn_wi, en]
  refine ⟨_, rfl, KR, ?_, fun i hi => ?_, ?_, ?_, ?_, ⟨?_, ?_, ?_, ?_⟩, ?_⟩
  · rw [hn_wr, hn_iR, en]
  · rw [mr_wr, up2_ni hi]
    unfold iR
    rw [mr_wr, up2_ne (by omega), mr_old (by omega), mr_wi]; exact mrx i
  · rw [mr_wr, up2_s]
  · rw [mi_wr]
    unfold iR
    rw [mi_wr, mi_old (by omega), mi_wi, up2_ne (by omega)]; exact mi6
  · rw [mi_wr]
    unfold iR
    rw [mi_wr, mi_old (by omega), mi_wi, up2_ne (by omega)]; exact mi4
  · rw [kd_wr]
    unfold iR
    rw [kd_wr, kd_old (by omega), kd_wi]; exact k4
  · rw [mr_wr, up2_ne (by omega)]
    unfold iR
    rw [mr_wr, up2_s, en]
  · rw [kd_wr]
    unfold iR
    rw [kd_wr, e5]; exact kd_new
  · rw [ln_wr]
    unfold iR
    rw [ln_wr, e5]; exact ln_new
  · rw [mi_wr]
    unfold iR
    rw [mi_wr, mi_old (by omega), mi_wi, up2_s]
def MiP (h : MH) (x a b : Nat) (g : MH) : Prop := Kp [x] h g ∧ hn g = x + 7 ∧ (mr g x 0 = a ∧ mr g x 1 = b ∧ mr g x 7 = x + 4 ∧ mr g x 8 = x + 6 ∧ ∀ i, i ≠ 0 → i ≠ 1 → i ≠ 7 → i ≠ 8 → mr g x i = mr h x i) ∧ (kd g (x + 4) = 9 ∧ mr g (x + 4) 0 = x + 5 ∧ kd g (x + 5) = 20 ∧ ln g (x + 5) = 300) ∧ kd g (x + 6) = 27 ∧ ln g (x + 6) = 7 ∧ mi g x 4 = mi h x 4 ∧ mi g x 6 = 0 ∧ mi g (x + 4) 1 = 0 ∧ ∀ j, mr g (x + 6) j = 0
theorem mdl_tail {g3 : MH} {x a b : Nat} {Rt : Value → MH → Prop} (G : SS g3) (hx : 99 ≤ x) (e : hn g3 = x + 4) (hk : kd g3 x = 6) (H : ∀ g, MiP g3 x a b g → Rt .null g) :
    WM k_Model_init p_Model_init_3 [.ref x, .ref a, .ref b] [] g3 3 1230 Rt := by
  have t7 : ix (7 : Int32) = 7 := rfl
  obtain ⟨q, eq, K1, n1, o1, r1, i6, i4, ⟨s1, s2, s3, s4⟩, s5⟩ := mdl_row G hx e hk
  refine v_Model_init_3 _ _ _ _ _ _ _ ⟨hk, ?_⟩
  rintro _ rfl
  refine gd_i rfl (gd_i rfl ?_)
  rintro _ rfl
  have e4 : hn g3 = hn (wi g3 x 6 0) := by rw [hn_wi]
  have k4 : kd (nw (wi g3 x 6 0) 9 0) (hn g3) = 9 := by rw [e4]; exact kd_new
  refine ⟨k4, gd_i rfl (gd_i rfl (SpV.mono (sp_Row_init (a := hn g3) (n := 300) (h := nw (wi g3 x 6 0) 9 0) (by omega) (by rw [hn_nw, hn_wi]; omega) k4 (by decide)) ?_))⟩
  rintro _ rfl
  rw [e]
  refine ⟨by rw [kd_iR (by rw [hn_nw, hn_wi]; omega), kd_old (by rw [hn_wi]; omega), kd_wi]; exact hk, ?_⟩
  rintro g rfl
  rw [← eq]
  clear eq e4 k4
  have kx := (K1.k (x := x) (by omega)).trans hk
  refine v_Model_init_4 _ _ _ _ _ _ _ (gd_i rfl (gd_i rfl ?_))
  rintro _ rfl
  refine ⟨(kd_old (by omega)).trans kx, ?_⟩
  rintro _ rfl
  rw [t7]
  obtain ⟨K5, n5, k5, l5, r5, o5, i5, z5⟩ := arr_field (g := q) (x := x) (j := 8) (k := 27) (n := 7) K1.1 hx (by omega)
  generalize wr (nw q 27 7) x 8 (hn q) = g5 at *
  rw [n1] at n5 k5 l5 r5 z5
  have kx5 := (K5.k (x := x) (by omega)).trans kx
  refine v_Model_init_5 _ _ _ _ _ _ _ ⟨kx5, ?_⟩
  rintro _ rfl
  rintro _ rfl
  have K6 : Kp [x] g5 (wr (wr g5 x 0 a) x 1 b) := ((Kp.refl K5.1).wr (Or.inl List.mem_cons_self) (Or.inl hx)).wr (Or.inl List.mem_cons_self) (Or.inl hx)
  have r60 : mr (wr (wr g5 x 0 a) x 1 b) x 0 = a := by rw [mr_wr, up2_ni (by decide), mr_wr, up2_s]
  have r61 : mr (wr (wr g5 x 0 a) x 1 b) x 1 = b := by rw [mr_wr, up2_s]
  have r6o : ∀ i, i ≠ 0 → i ≠ 1 → mr (wr (wr g5 x 0 a) x 1 b) x i = mr g5 x i := fun i h0 h1 => by rw [mr_wr, up2_ni h1, mr_wr, up2_ni h0]
  have i6' : mi (wr (wr g5 x 0 a) x 1 b) = mi g5 := by rw [mi_wr, mi_wr]
  have n6 : hn (wr (wr g5 x 0 a) x 1 b) = x + 7 := by rw [hn_wr, hn_wr]; exact n5
  generalize wr (wr g5 x 0 a) x 1 b = g6 at *
  refine v_Model_init_6 _ _ _ _ (gd_i rfl (gd_i rfl (H g6 ?_)))
  have no : ∀ j, 0 < j → x + j ∉ [x] := fun j hj q => by have := List.mem_singleton.mp q; omega
  have K7 : Kp [x] q g6 := K5.trans K6
  refine ⟨K1.trans K7, n6, ⟨r60, r61, ?_, ?_, fun i h0 h1 h7 h8 => ?_⟩, ⟨?_, ?_, ?_, ?_⟩, ?_, ?_, ?_, ?_, ?_, fun j => ?_⟩
  · rw [r6o 7 (by decide) (by decide), o5 7 (by decide)]; exact r1
  · rw [r6o 8 (by decide) (by decide)]; exact r5
  · rw [r6o i h0 h1, o5 i h8, o1 i h7]
  · rw [K7.k (by omega)]; exact s1
  · rw [K7.r (by omega) (no 4 (by decide))]; exact s2
  · rw [K7.k (by omega)]; exact s3
  · rw [K7.n (by omega)]; exact s4
  · rw [K6.k (by omega)]; exact k5
  · rw [K6.n (by omega)]; exact l5
  · rw [i6', i5]; exact i4
  · rw [i6', i5]; exact i6
  · rw [K7.i (by omega) (no 4 (by decide))]; exact s5
  · rw [K6.r (by omega) (no 6 (by decide))]; exact z5 j
theorem sp_Model_init {h : MH} {x a b : Nat} (H : SS h) (hx : 99 ≤ x) (e : hn h = x + 1) (hk : kd h x = 6) :
    SpV k_Model_init [.ref x, .ref a, .ref b] h (fun g => Kp [x] h g ∧ hn g = x + 7 ∧ MdK g x a b ∧ mi g x 4 = 0 ∧ mi g x 6 = 0 ∧ mi g (x + 4) 1 = 0 ∧ ∀ j, mr g (x + 6) j = 0) := by
  have t9 : ix (900 : Int32) = 900 := rfl
  have t3 : ix (300 : Int32) = 300 := rfl
  have t30 : ix (30 : Int32) = 30 := rfl
  refine v_Model_init _ _ _ _ _ ⟨by omega, ?_⟩
  rintro _ rfl
  refine ⟨(kd_old (by omega)).trans hk, ?_⟩
  rintro _ rfl
  rw [t9]
  obtain ⟨K1, n1, k1, l1, r1, o1, i1, -⟩ := arr_field (g := h) (x := x) (j := 2) (k := 20) (n := 900) H hx (by omega)
  generalize wr (nw h 20 900) x 2 (hn h) = g1 at *
  rw [e] at n1 k1 l1 r1
  have kx1 := (K1.k (x := x) (by omega)).trans hk
  refine v_Model_init_1 _ _ _ _ _ _ _ (gd_i rfl (gd_i rfl ?_))
  rintro _ rfl
  refine ⟨(kd_old (by omega)).trans kx1, ?_⟩
  rintro _ rfl
  rw [t3]
  obtain ⟨K2, n2, k2, l2, r2, o2, i2, -⟩ := arr_field (g := g1) (x := x) (j := 3) (k := 20) (n := 300) K1.1 hx (by omega)
  generalize wr (nw g1 20 300) x 3 (hn g1) = g2 at *
  rw [n1] at n2 k2 l2 r2
  have kx2 := (K2.k (x := x) (by omega)).trans kx1
  refine v_Model_init_2 _ _ _ _ _ _ _ ⟨kx2, ?_⟩
  rintro _ rfl
  refine gd_i rfl (gd_i rfl ?_)
  rintro _ rfl
  have W2 := int_field (g := g2) (x := x) (j := 4) (v := (0 : Int32)) K2.1 hx
  have en2 : hn g2 = hn (wi g2 x 4 0) := by rw [hn_wi]
  have kw2 : kd (wi g2 x 4 0) x = 6 := by rw [kd_wi]; exact kx2
  have mw2 : mi (wi g2 x 4 0) x 4 = 0 := by rw [mi_wi, up2_s]
  have rw2 : mr (wi g2 x 4 0) = mr g2 := by rw [mr_wi]
  rw [en2]
  rw [en2] at n2
  generalize wi g2 x 4 0 = q2 at *
  refine ⟨(kd_old (by omega)).trans kw2, ?_⟩
  rintro _ rfl
  rw [t30]
  obtain ⟨K3, n3, k3, l3, r3, o3, i3, -⟩ := arr_field (g := q2) (x := x) (j := 5) (k := 20) (n := 30) W2.1 hx (by omega)
  generalize wr (nw q2 20 30) x 5 (hn q2) = g3 at *
  rw [n2] at n3 k3 l3 r3
  have kx3 := (K3.k (x := x) (by omega)).trans kw2
  refine mdl_tail K3.1 hx n3 kx3 (fun g M => ?_)
  obtain ⟨m1, m2, ⟨m3, m4, m5, m6, m7⟩, ⟨m8, m9, m10, m11⟩, m12, m13, m14, m15, m16, m17⟩ := M
  have n23 : Kp [x] g2 g := (W2.trans K3).trans m1
  have n13 : Kp [x] g1 g := K2.trans n23
  have l2' := W2.2.1
  refine ⟨K1.trans n13, m2, ⟨⟨by rw [m1.k (by omega)]; exact kx3, m3, m4, ?_, ?_, ?_, m5, m6⟩, ⟨?_, ?_⟩, ⟨?_, ?_⟩, ⟨?_, ?_⟩, ⟨m8, m9, m10, m11⟩, m12, m13⟩, by rw [m14, i3]; exact mw2, m15, m16, m17⟩
  · rw [m7 2 (by decide) (by decide) (by decide) (by decide), o3 2 (by decide), rw2, o2 2 (by decide)]; exact r1
  · rw [m7 3 (by decide) (by decide) (by decide) (by decide), o3 3 (by decide), rw2]; exact r2
  · rw [m7 5 (by decide) (by decide) (by decide) (by decide)]; exact r3
  · rw [n13.k (by omega)]; exact k1
  · rw [n13.n (by omega)]; exact l1
  · rw [n23.k (by omega)]; exact k2
  · rw [n23.n (by omega)]; exact l2
  · rw [m1.k (by omega)]; exact k3
  · rw [m1.n (by omega)]; exact l3
