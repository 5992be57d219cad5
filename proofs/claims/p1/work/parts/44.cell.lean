/-! a cell is told -/
theorem Cs.sl {h g : MH} {l : (Nat → Nat → Int64)} (c : Cs h g) : Cs h (sl g l) := c
theorem mr_old {h : MH} {k n b j : Nat} (hb : b ≠ hn h) : mr (nw h k n) b j = mr h b j := by show (if b = hn h then 0 else mr h b j) = mr h b j; rw [if_neg hb]
theorem mi_old {h : MH} {k n b j : Nat} (hb : b ≠ hn h) : mi (nw h k n) b j = mi h b j := by show (if b = hn h then 0 else mi h b j) = mi h b j; rw [if_neg hb]
def Mq (h g : MH) : Prop := ∀ a, a < 99 → mi g a = mi h a
theorem Mq.trans {h g k : MH} (a : Mq h g) (b : Mq g k) : Mq h k := fun i hi => (b i hi).trans (a i hi)
theorem Mq_nw {h : MH} {k n : Nat} (h99 : 99 ≤ hn h) : Mq h (nw h k n) := fun a ha => funext fun j => mi_old (by omega)
theorem Mq_wi {h : MH} {a i : Nat} {x : Int32} (ha : 99 ≤ a) : Mq h (wi h a i x) := fun b hb => up2_row (by omega)
theorem Mq_wr {h : MH} {a i x : Nat} : Mq h (wr h a i x) := fun _ _ => rfl
theorem Mq_sl {h : MH} {l : (Nat → Nat → Int64)} : Mq h (sl h l) := fun _ _ => rfl
theorem kd_oldS {h : MH} {k n b v : Nat} {l : (Nat → Nat → Int64)} (hb : b ≠ hn h) (e : kd h b = v) : kd (sl (nw h k n) l) b = v := (kd_old (k := k) (n := n) hb).trans e
theorem sp_Cell_init {h : MH} {x : Nat} (H : SS h) (hx : 99 ≤ x) (hl : x < hn h) (hk : kd h x = 1) :
    SpV k_Cell_init [.ref x] h (fun g => Cs h g ∧ mr g x 0 = hn h ∧ mr g x 1 = hn h + 1 ∧ kd g (hn h) = 3 ∧ kd g (hn h + 1) = 3 ∧ hn h + 1 < hn g ∧ Mq h g) := by
  have h99 := H.1
  refine v_Cell_init _ _ _ ⟨by omega, ?_⟩
  rintro _ rfl
  have c1 : Cs h (nw h 3 0) := (Cs.refl H).nw
  refine ⟨kd_new, SpV.mono (sp_Form_init (by omega) kd_new) ?_⟩
  rintro _ ⟨l1, rfl⟩
  refine ⟨kd_oldS (by omega) hk, ?_⟩
  rintro _ rfl
  generalize e1 : wr (sl (nw h 3 0) l1) x 0 (hn h) = g1
  have M1 : Mq h g1 := by rw [← e1]; exact ((Mq_nw h99).trans Mq_sl).trans Mq_wr
  have d1 : Cs (nw h 3 0) g1 := by rw [← e1]; exact ((Cs.refl c1.1).sl).wr (Or.inl hx)
  have C1 : Cs h g1 := c1.trans d1
  have n1 : hn g1 = hn h + 1 := by rw [← e1]; rfl
  have r1 : mr g1 x 0 = hn h := by rw [← e1]; exact up2_s
  have k1 : kd g1 (hn h) = 3 := (d1.k (Nat.lt_succ_self _)).trans kd_new
  refine v_Cell_init_1 _ _ _ _ _ (gd_i rfl (gd_i rfl ?_))
  rintro _ rfl
  have c2 : Cs g1 (nw g1 3 0) := (Cs.refl C1.1).nw
  refine ⟨kd_new, gd_i rfl (gd_i rfl (SpV.mono (sp_Form_init (by omega) kd_new) ?_))⟩
  rintro _ ⟨l2, rfl⟩
  refine ⟨kd_oldS (by omega) ((C1.k hl).trans hk), ?_⟩
  rintro _ rfl
  generalize e2 : wr (sl (nw g1 3 0) l2) x 1 (hn g1) = g2
  have M2 : Mq g1 g2 := by rw [← e2]; exact ((Mq_nw C1.1.1).trans Mq_sl).trans Mq_wr
  have d2 : Cs (nw g1 3 0) g2 := by rw [← e2]; exact ((Cs.refl c2.1).sl).wr (Or.inl hx)
  have C2 : Cs g1 g2 := c2.trans d2
  have n2 : hn g2 = hn h + 2 := by rw [← e2]; show hn g1 + 1 = _; rw [n1]
  have r2 : mr g2 x 0 = hn h := by
    rw [← e2]
    show up2 (mr (nw g1 3 0)) x 1 (hn g1) x 0 = _
    rw [up2_ni (by decide), mr_old (by omega)]; exact r1
  have r3 : mr g2 x 1 = hn h + 1 := by rw [← e2, ← n1]; exact up2_s
  have k2 : kd g2 (hn h) = 3 := (C2.k (by omega)).trans k1
  have k3 : kd g2 (hn h + 1) = 3 := by rw [← n1]; exact (d2.k (Nat.lt_succ_self _)).trans kd_new
  have kx : kd g2 x = 1 := (C2.k (by omega)).trans ((C1.k hl).trans hk)
  refine v_Cell_init_2 _ _ _ _ _ (gd_i rfl (gd_i rfl ?_))
  rintro _ rfl
  refine ⟨kd_new, gd_i rfl (gd_i rfl (SpV.mono (sp_Form_init (by omega) kd_new) ?_))⟩
  rintro _ ⟨l3, rfl⟩
  refine ⟨kd_oldS (by omega) kx, ?_⟩
  rintro _ rfl
  generalize e3 : wr (sl (nw g2 3 0) l3) x 2 (hn g2) = g3
  have M3 : Mq g2 g3 := by rw [← e3]; exact ((Mq_nw (by omega)).trans Mq_sl).trans Mq_wr
  have D3 : Cs g2 g3 := by rw [← e3]; exact ((Cs.refl C2.1).nw.sl).wr (Or.inl hx)
  have n3 : hn g3 = hn h + 3 := by rw [← e3]; show hn g2 + 1 = _; rw [n2]
  have s2 : mr g3 x 0 = hn h := by
    rw [← e3]
    show up2 (mr (nw g2 3 0)) x 2 (hn g2) x 0 = _
    rw [up2_ni (by decide), mr_old (by omega)]; exact r2
  have s3 : mr g3 x 1 = hn h + 1 := by
    rw [← e3]
    show up2 (mr (nw g2 3 0)) x 2 (hn g2) x 1 = _
    rw [up2_ni (by decide), mr_old (by omega)]; exact r3
  refine v_Cell_init_3 _ _ _ _ _ (gd_i rfl (gd_i rfl ?_))
  rintro _ rfl
  refine ⟨(kd_old (by omega)).trans ((D3.k (by omega)).trans kx), ?_⟩
  rintro _ rfl
  refine v_Cell_init_4 _ _ _ _ _ (gd_i rfl (gd_i rfl ?_))
  rintro _ rfl
  have D4 : Cs g3 (wr (nw g3 28 (ix (13 : Int32))) x 3 (hn g3)) := (Cs.refl D3.1).nw.wr (Or.inl hx)
  refine ⟨(kd_old (by show x ≠ hn g3 + 1; omega)).trans ((D4.k (by omega)).trans ((D3.k (by omega)).trans kx)), ?_⟩
  rintro _ rfl
  have D5 : Cs g3 (wr (nw (wr (nw g3 28 (ix (13 : Int32))) x 3 (hn g3)) 20 (ix (13 : Int32))) x 4 (hn (wr (nw g3 28 (ix (13 : Int32))) x 3 (hn g3)))) := D4.nw.wr (Or.inl hx)
  refine v_Cell_init_5 _ _ _ _ _ ⟨(D5.k (by omega)).trans ((D3.k (by omega)).trans kx), ?_⟩
  rintro _ rfl
  have D6 := D5.wi (a := x) (i := 5) (x := -1) (by omega) (by omega)
  have E : Cs g2 _ := D3.trans D6
  refine gd_i rfl (gd_i rfl ⟨(C1.trans C2).trans E, ?_, ?_, (E.k (by omega)).trans k2, (E.k (by omega)).trans k3, ?_, ?_⟩)
  · show up2 (mr (nw _ _ _)) x 4 _ x 0 = _
    rw [up2_ni (by decide), mr_old (by show x ≠ hn g3 + 1; omega)]
    show up2 (mr (nw _ _ _)) x 3 _ x 0 = _
    rw [up2_ni (by decide), mr_old (by omega)]; exact s2
  · show up2 (mr (nw _ _ _)) x 4 _ x 1 = _
    rw [up2_ni (by decide), mr_old (by show x ≠ hn g3 + 1; omega)]
    show up2 (mr (nw _ _ _)) x 3 _ x 1 = _
    rw [up2_ni (by decide), mr_old (by omega)]; exact s3
  · show hn h + 1 < hn g3 + 1 + 1
    omega
  · exact (M1.trans M2).trans (M3.trans ((((Mq_nw D3.1.1).trans Mq_wr).trans (Mq_nw D4.1.1)).trans (Mq_wr.trans (Mq_wi hx))))
def det6 (a b c d e f : Int) : Int := a * (b * c - d * d) - f * (f * c - d * e) + e * (f * d - b * e)
def sqI (a : Int) : Prop := 1 ≤ a ∧ a ≤ 10000
def mxI (a : Int) : Prop := -10000 ≤ a ∧ a ≤ 10000
def cellOk (n : Nat) (a b c d e f : Int) : Prop := n < 40 ∧ sqI a ∧ sqI b ∧ sqI c ∧ mxI d ∧ mxI e ∧ mxI f ∧ 0 < a * b - f * f ∧ 0 < det6 a b c d e f
theorem sqI.ab {a : Int} (h : sqI a) : Ab a 10000 := Ab.of (by have := h.1; omega) (by have := h.2; omega)
theorem mxI.ab {a : Int} (h : mxI a) : Ab a 10000 := Ab.of (by have := h.1; omega) (by have := h.2; omega)
theorem det6_ab {a b c d e f : Int} (ha : sqI a) (hb : sqI b) (hc : sqI c) (hd : mxI d) (he : mxI e) (hf : mxI f) : Ab (det6 a b c d e f) 10000000000000 :=
  (((ha.ab.mul ((hb.ab.mul hc.ab).sub (hd.ab.mul hd.ab))).sub (hf.ab.mul ((hf.ab.mul hc.ab).sub (hd.ab.mul he.ab)))).add (he.ab.mul ((hf.ab.mul hd.ab).sub (hb.ab.mul he.ab)))).wk (by decide)
theorem i2l_z {x : Int32} : x.toInt64 = zL x.toInt := hb_leq (by rw [i2l_int]; have h1 := hb_lo x; have h2 := hb_hi x; rw [zL_toI (by omega) (by omega)])
theorem sp_isSquare {h : MH} (x : Int32) : SpI k_Ho_isSquare [.int x] h (fun r g => g = h ∧ ((sqI x.toInt ∧ r = 1) ∨ (¬ sqI x.toInt ∧ r = 0))) := by
  have t1 : (1 : Int32).toInt = 1 := rfl
  have t2 : (10000 : Int32).toInt = 10000 := rfl
  refine v_Ho_isSquare _ _ _ ?_
  rw [t1, t2]
  exact ⟨fun c => ⟨_, rfl, rfl, Or.inr ⟨fun q => by have := q.1; omega, rfl⟩⟩, fun c => ⟨fun c2 => ⟨_, rfl, rfl, Or.inr ⟨fun q => by have := q.2; omega, rfl⟩⟩, fun c2 => ⟨_, rfl, rfl, Or.inl ⟨⟨by omega, by omega⟩, rfl⟩⟩⟩⟩
theorem sp_isMixed {h : MH} (x : Int32) : SpI k_Ho_isMixed [.int x] h (fun r g => g = h ∧ ((mxI x.toInt ∧ r = 1) ∨ (¬ mxI x.toInt ∧ r = 0))) := by
  have t1 : (-10000 : Int32).toInt = -10000 := rfl
  have t2 : (10000 : Int32).toInt = 10000 := rfl
  refine v_Ho_isMixed _ _ _ ?_
  rw [t1, t2]
  exact ⟨fun c => ⟨_, rfl, rfl, Or.inr ⟨fun q => by have := q.1; omega, rfl⟩⟩, fun c => ⟨fun c2 => ⟨_, rfl, rfl, Or.inr ⟨fun q => by have := q.2; omega, rfl⟩⟩, fun c2 => ⟨_, rfl, rfl, Or.inl ⟨⟨by omega, by omega⟩, rfl⟩⟩⟩⟩
theorem sp_Ho_cell {h : MH} {n : Nat} (H : SS h) (h14 : mi h 5 14 = nI n) (hb : n ≤ 40) (x1 x2 x3 x4 x5 x6 : Int32) : SpI k_Ho_cell [.ref 5, .int x1, .int x2, .int x3, .int x4, .int x5, .int x6] h (fun r g =>
    (cellOk n x1.toInt x2.toInt x3.toInt x4.toInt x5.toInt x6.toInt ∧ r = nI n ∧ Cs h g) ∨ (¬ cellOk n x1.toInt x2.toInt x3.toInt x4.toInt x5.toInt x6.toInt ∧ r = -1 ∧ g = h)) := by
  have h99 := H.1
  have t40 : (40 : Int32).toInt = 40 := rfl
  have tn : (nI n).toInt = (n : Int) := nI_toI (by omega)
  have z1 : ¬ (1 : Int32) = 0 := by decide
  generalize hQ : cellOk n x1.toInt x2.toInt x3.toInt x4.toInt x5.toInt x6.toInt = Q
  have no : ¬ Q → ∃ v, Value.int (-1) = .int v ∧ ((Q ∧ v = nI n ∧ Cs h h) ∨ (¬ Q ∧ v = -1 ∧ h = h)) := fun q => ⟨_, rfl, Or.inr ⟨q, rfl, rfl⟩⟩
  refine v_Ho_cell _ _ _ _ _ _ _ _ _ ⟨H.k5, ?_⟩
  rw [h14, tn, t40]
  refine ⟨fun c0 => ?_, fun c => no (fun q => by rw [← hQ] at q; have := q.1; omega)⟩
  refine SpI.mono (sp_isSquare _) ?_
  rintro r g ⟨e, (⟨q1, rfl⟩ | ⟨q1, rfl⟩)⟩ <;> subst g
  case inr => exact ⟨fun _ => no (fun q => by rw [← hQ] at q; exact q1 q.2.1), fun w => absurd rfl w⟩
  refine ⟨fun w => absurd w z1, fun _ => SpI.mono (sp_isSquare _) ?_⟩
  rintro r g ⟨e, (⟨q2, rfl⟩ | ⟨q2, rfl⟩)⟩ <;> subst g
  case inr => exact ⟨fun _ => no (fun q => by rw [← hQ] at q; exact q2 q.2.2.1), fun w => absurd rfl w⟩
  refine ⟨fun w => absurd w z1, fun _ => SpI.mono (sp_isSquare _) ?_⟩
  rintro r g ⟨e, (⟨q3, rfl⟩ | ⟨q3, rfl⟩)⟩ <;> subst g
  case inr => exact ⟨fun _ => no (fun q => by rw [← hQ] at q; exact q3 q.2.2.2.1), fun w => absurd rfl w⟩
  refine ⟨fun w => absurd w z1, fun _ => SpI.mono (sp_isMixed _) ?_⟩
  rintro r g ⟨e, (⟨q4, rfl⟩ | ⟨q4, rfl⟩)⟩ <;> subst g
  case inr => exact ⟨fun _ => no (fun q => by rw [← hQ] at q; exact q4 q.2.2.2.2.1), fun w => absurd rfl w⟩
  refine ⟨fun w => absurd w z1, fun _ => SpI.mono (sp_isMixed _) ?_⟩
  rintro r g ⟨e, (⟨q5, rfl⟩ | ⟨q5, rfl⟩)⟩ <;> subst g
  case inr => exact ⟨fun _ => no (fun q => by rw [← hQ] at q; exact q5 q.2.2.2.2.2.1), fun w => absurd rfl w⟩
  refine ⟨fun w => absurd w z1, fun _ => SpI.mono (sp_isMixed _) ?_⟩
  rintro r g ⟨e, (⟨q6, rfl⟩ | ⟨q6, rfl⟩)⟩ <;> subst g
  case inr => exact ⟨fun _ => no (fun q => by rw [← hQ] at q; exact q6 q.2.2.2.2.2.2.1), fun w => absurd rfl w⟩
  refine ⟨fun w => absurd w z1, fun _ => ?_⟩
  have ab1 := (q1.ab.mul q2.ab).sub (q6.ab.mul q6.ab)
  have ab1l := ab1.lo
  have ab1h := ab1.hi
  have et : ((x1 * x2) - (x6 * x6)).toInt = x1.toInt * x2.toInt - x6.toInt * x6.toInt := by
    rw [show x1 = zI x1.toInt from (zI_self _).symm, show x2 = zI x2.toInt from (zI_self _).symm, show x6 = zI x6.toInt from (zI_self _).symm, zI_mul, zI_mul, zI_sub, zI_self, zI_self, zI_self, zI_toI (by omega) (by omega)]
  rw [et]
  refine ⟨fun c7 => ?_, fun c => no (fun q => by rw [← hQ] at q; exact c q.2.2.2.2.2.2.2.1)⟩
  refine v_Form_determinantOf _ _ _ _ _ _ _ _ ⟨_, rfl, ?_⟩
  have ab2 := det6_ab q1 q2 q3 q4 q5 q6
  have ab2l := ab2.lo
  have ab2h := ab2.hi
  show (0 < (lg_cmp _ (0 : Int64)).toInt → _) ∧ (¬ 0 < (lg_cmp _ (0 : Int64)).toInt → _)
  rw [lc_gt]
  simp only [i2l_z, zL_mul, zL_sub, zL_add]
  have z0 : (0 : Int64).toInt = 0 := rfl
  have ed : (zL (x1.toInt * (x2.toInt * x3.toInt - x4.toInt * x4.toInt) - x6.toInt * (x6.toInt * x3.toInt - x4.toInt * x5.toInt) + x5.toInt * (x6.toInt * x4.toInt - x2.toInt * x5.toInt))).toInt = det6 x1.toInt x2.toInt x3.toInt x4.toInt x5.toInt x6.toInt := zL_toI (by show _ ≤ det6 _ _ _ _ _ _; omega) (by show det6 _ _ _ _ _ _ < _; omega)
  rw [ed, z0]
  refine ⟨fun c8 => ?_, fun c => ⟨_, rfl, Or.inr ⟨fun q => by rw [← hQ] at q; exact c q.2.2.2.2.2.2.2.2, rfl, trivial⟩⟩⟩
  have hq : Q := by rw [← hQ]; exact ⟨by omega, q1, q2, q3, q4, q5, q6, c7, c8⟩
  rintro _ rfl
  have c1 : Cs h (nw h 1 0) := (Cs.refl H).nw
  refine ⟨kd_new, SpV.mono (sp_Cell_init c1.1 h99 (Nat.lt_succ_self _) kd_new) ?_⟩
  rintro g ⟨c2, r0, r1, k0, k1, hg, mq⟩
  have kx : kd g (hn h) = 1 := (c2.k (Nat.lt_succ_self _)).trans kd_new
  refine ⟨kx, by rw [r0]; exact k0, ?_⟩
  rw [r0]
  have C2 := c1.trans c2
  have hk0 : kd g (hn h + 1) = 3 := k0
  refine SpV.mono (any_setA (h := g) (l := ml g) hk0 _ _ _ _ _ _) ?_
  rintro _ ⟨l2, rfl, -⟩
  have r0' : mr (sl g l2) (hn h) 0 = hn h + 1 := r0
  have r1' : mr (sl g l2) (hn h) 1 = hn h + 1 + 1 := r1
  refine v_Ho_cell_1 _ _ _ _ _ _ ⟨kx, by rw [r1']; exact k1, gd_i rfl (gd_i rfl ?_)⟩
  rw [r0', r1']
  refine v_Form_copy _ _ _ _ ⟨k0, k1, SpV.mono (any_setA (h := g) (l := l2) k1 _ _ _ _ _ _) ?_⟩
  rintro _ ⟨l3, rfl, -⟩
  have r1'' : mr (sl g l3) (hn h) 1 = hn h + 1 + 1 := r1
  refine ⟨kx, by rw [r1'']; exact k1, gd_i rfl (gd_i rfl ?_)⟩
  rw [r1'']
  refine SpV.mono (any_reduce (h := g) (l := l3) k1) ?_
  rintro _ ⟨l4, rfl, -⟩
  have S4 : SS (sl g l4) := C2.1
  have m5 : mi (sl g l4) 5 14 = nI n := by
    show mi g 5 14 = _
    rw [mq 5 (by decide)]
    show (if 5 = hn h then 0 else mi h 5 14) = _
    rw [if_neg (by omega)]; exact h14
  rw [m5, show mr (sl g l4) 5 13 = 43 from S4.2.2.2 (5, 13, 43) (by decide)]
  refine ⟨S4.k5, S4.k43, by rw [S4.2.2.1 (43, 40) (by decide)]; exact InB_nI (by omega) (by omega), kx, ?_⟩
  rintro _ rfl
  rintro _ rfl
  exact gd_i rfl (gd_i rfl ⟨_, rfl, Or.inl ⟨hq, rfl, ((C2.sl (l := l4)).wr (Or.inr (Or.inr (Or.inl rfl)))).wi (by decide) (by decide)⟩⟩)
