/-! a cell told to the class -/
def RND0 : Prop := ∀ (t : S6) n u, OKs t → Ev t → tT t ≤ 30000 → Red n t u → n < 1000000
def CelP (h : MH) (O : Nat → Nat) (CS : List S6) (s : S6) (g : MH) : Prop := ∃ O', Kp [5, 43] h g ∧ ((∀ j, j ≠ 14 → mi g 5 j = mi h 5 j) ∧ ml g 5 = ml h 5 ∧ mr g 5 = mr h 5 ∧ mi g 43 = mi h 43 ∧ ml g 43 = ml h 43 ∧ ∀ j, j < CS.length → mr g 43 j = mr h 43 j) ∧ (∀ a, a < hn h → O' a = O a) ∧ HCel g O' (CS ++ [s])
theorem cS_len (CS : List S6) (s : S6) : (CS ++ [s]).length = CS.length + 1 := by rw [List.length_append]; rfl
/-- all that the new cell needs, together -/
theorem cel_new {h g : MH} {O : Nat → Nat} {CS : List S6} {s u : S6} {k : Nat} (H : SS h) (hc : HCel h O CS) (l40 : CS.length < 40) (oks : okC s) (K : Kp [] h g) (hg : hn g = hn h + 6)
    (k1 : kd g (hn h) = 1 ∧ mr g (hn h) 0 = hn h + 1 ∧ mr g (hn h) 1 = hn h + 2 ∧ mr g (hn h) 2 = hn h + 3 ∧ mr g (hn h) 3 = hn h + 4 ∧ mr g (hn h) 4 = hn h + 5) (k2 : kd g (hn h + 1) = 3 ∧ kd g (hn h + 2) = 3 ∧ kd g (hn h + 3) = 3 ∧ kd g (hn h + 4) = 28 ∧ ln g (hn h + 4) = 13 ∧ kd g (hn h + 5) = 20 ∧ ln g (hn h + 5) = 13)
    (f1 : FoAt (ml g) (hn h + 1) (db s)) (rd : Red k (db s) u) (f2 : FoAt (ml g) (hn h + 2) u) (m5 : mi g (hn h) 5 = -1) (m4 : ∀ j, mr g (hn h + 4) j = 0) : CelP h O CS s (wi (wr g 43 CS.length (hn h)) 5 14 (nI (CS.length + 1))) := by
  have h99 := H.1
  have l := K.2.1
  have K2 : Kp [5, 43] h (wi (wr g 43 CS.length (hn h)) 5 14 (nI (CS.length + 1))) := ((K.mono (fun a ha => absurd ha List.not_mem_nil)).wr (Or.inl (by decide)) (Or.inr (Or.inr (Or.inl rfl)))).wi (Or.inl (by decide))
  have KG : Kp [5, 43] g (wi (wr g 43 CS.length (hn h)) 5 14 (nI (CS.length + 1))) := ((Kp.refl K.1).wr (Or.inl (by decide)) (Or.inr (Or.inr (Or.inl rfl)))).wi (Or.inl (by decide))
  have e43 : ∀ j, j < CS.length → mr (wi (wr g 43 CS.length (hn h)) 5 14 (nI (CS.length + 1))) 43 j = mr h 43 j := fun j hj => by
    rw [mr_wi, mr_wr, up2_ni (by omega), K.r (by omega) List.not_mem_nil]
  have n43 : mr (wi (wr g 43 CS.length (hn h)) 5 14 (nI (CS.length + 1))) 43 CS.length = hn h := by rw [mr_wi, mr_wr, up2_s]
  refine ⟨fun a => if hn h ≤ a then 60 + CS.length else O a, K2, ⟨fun j hj => ?_, ?_, ?_, ?_, ?_, e43⟩, fun a ha => if_neg (by omega), by rw [cS_len]; omega, by rw [cS_len, mi_wi, up2_s], fun j hj => ?_⟩
  · rw [mi_wi, up2_ni hj, mi_wr, K.i (by omega) List.not_mem_nil]
  · rw [ml_wi, ml_wr, K.l (by omega) List.not_mem_nil]
  · rw [mr_wi, mr_wr, up2_row (by decide), K.r (by omega) List.not_mem_nil]
  · rw [mi_wi, up2_row (by decide), mi_wr, K.i (by omega) List.not_mem_nil]
  · rw [ml_wi, ml_wr, K.l (by omega) List.not_mem_nil]
  · rw [cS_len] at hj
    by_cases e : j = CS.length
    · subst e
      rw [gEnd, n43]
      have lo : ∀ i, hn h + i ∉ [5, 43] := fun i q => by
        simp only [List.mem_cons, List.not_mem_nil, or_false] at q
        omega
      have lo0 := lo 0
      rw [Nat.add_zero] at lo0
      have r0 := KG.r (x := hn h) (by omega) lo0
      refine ⟨oks, ⟨⟨h99, by rw [hn_wi, hn_wr]; omega, fun i hi => if_pos (by omega)⟩, ⟨by rw [KG.k (by omega)]; exact k1.1, by rw [r0]; exact k1.2.1, by rw [r0]; exact k1.2.2.1, by rw [r0]; exact k1.2.2.2.1, by rw [r0]; exact k1.2.2.2.2.1, by rw [r0]; exact k1.2.2.2.2.2⟩, ⟨by rw [KG.k (by omega)]; exact k2.1, by rw [KG.k (by omega)]; exact k2.2.1, by rw [KG.k (by omega)]; exact k2.2.2.1, by rw [KG.k (by omega)]; exact k2.2.2.2.1, by rw [KG.n (by omega)]; exact k2.2.2.2.2.1, by rw [KG.k (by omega)]; exact k2.2.2.2.2.2.1, by rw [KG.n (by omega)]; exact k2.2.2.2.2.2.2⟩, f1.fr (KG.l (by omega) (lo 1)), k, u, rd, f2.fr (KG.l (by omega) (lo 2)), Or.inl (by rw [KG.i (by omega) lo0]; exact m5)⟩, fun n hn => Or.inl ?_⟩
      rw [KG.r (by omega) (lo 4)]; exact m4 n
    · have jl : j < CS.length := by omega
      rw [gLeft jl, e43 j jl]
      obtain ⟨g1, g2, g3⟩ := hc.2.2 j jl
      have hA : ∀ a ∈ [5, 43], a < 99 ∨ O a ≠ 60 + j := fun a ha => Or.inl (by revert a; decide)
      exact ⟨g1, g2.kp K2 hA (fun a ha => if_neg (by omega)), g3.kp g2 K2 hA (fun a ha => if_neg (by omega))⟩
theorem sp_Ho_cellV (R : RND0) {h : MH} {O : Nat → Nat} {CS : List S6} (H : SS h) (hc : HCel h O CS) (x1 x2 x3 x4 x5 x6 : Int32) : SpI k_Ho_cell [.ref 5, .int x1, .int x2, .int x3, .int x4, .int x5, .int x6] h (fun r g =>
    (cellOk CS.length x1.toInt x2.toInt x3.toInt x4.toInt x5.toInt x6.toInt ∧ r = nI CS.length ∧ CelP h O CS (x1.toInt, x2.toInt, x3.toInt, x4.toInt, x5.toInt, x6.toInt) g) ∨ (¬ cellOk CS.length x1.toInt x2.toInt x3.toInt x4.toInt x5.toInt x6.toInt ∧ r = -1 ∧ g = h)) := by
  have h99 := H.1
  have hb := hc.1
  have h14 := hc.2.1
  have t40 : (40 : Int32).toInt = 40 := rfl
  have tn : (nI CS.length).toInt = (CS.length : Int) := nI_toI (by omega)
  have z1 : ¬ (1 : Int32) = 0 := by decide
  generalize hQ : cellOk CS.length x1.toInt x2.toInt x3.toInt x4.toInt x5.toInt x6.toInt = Q
  generalize hP : CelP h O CS (x1.toInt, x2.toInt, x3.toInt, x4.toInt, x5.toInt, x6.toInt) = P
  have no : ¬ Q → ∃ v, Value.int (-1) = .int v ∧ ((Q ∧ v = nI CS.length ∧ P h) ∨ (¬ Q ∧ v = -1 ∧ h = h)) := fun q => ⟨_, rfl, Or.inr ⟨q, rfl, rfl⟩⟩
  refine v_Ho_cell _ _ _ _ _ _ _ _ _ ⟨H.k5, ?_⟩
  rw [h14, tn, t40]
  refine ⟨fun c0 => ?_, fun c => no (fun q => by rw [← hQ] at q; have := q.1; omega)⟩
  refine SpI.mono (sp_isSquare _) ?_
  rintro r g ⟨e, (⟨q1, rfl⟩ | ⟨q1, rfl⟩)⟩ <;> subst g
  case inr => exact ⟨fun _ => no (fun q => by rw [← hQ] at q; exact q1 q.2.1), fun w => absurd rfl w⟩
  refine ⟨fun w => absurd w z1, fun _ => SpI.mono (sp_isSquare _) ?_⟩
  rintro r g ⟨e, (⟨q2, rfl⟩ | ⟨q2, rfl⟩)⟩ <;> subst g
  case inr => exact ⟨fun _ => no (fun q => by rw [← hQ] at q; exact q2 q.2.2.1), fun w => absurd rfl w⟩
  refine ⟨fun w => absurd w z1, fun _ => SpI.mono (sp_isSquare _) ?_⟩
  rintro r g ⟨e, (⟨q3, rfl⟩ | ⟨q3, rfl⟩)⟩ <;> subst g
  case inr => exact ⟨fun _ => no (fun q => by rw [← hQ] at q; exact q3 q.2.2.2.1), fun w => absurd rfl w⟩
  refine ⟨fun w => absurd w z1, fun _ => SpI.mono (sp_isMixed _) ?_⟩
  rintro r g ⟨e, (⟨q4, rfl⟩ | ⟨q4, rfl⟩)⟩ <;> subst g
  case inr => exact ⟨fun _ => no (fun q => by rw [← hQ] at q; exact q4 q.2.2.2.2.1), fun w => absurd rfl w⟩
  refine ⟨fun w => absurd w z1, fun _ => SpI.mono (sp_isMixed _) ?_⟩
  rintro r g ⟨e, (⟨q5, rfl⟩ | ⟨q5, rfl⟩)⟩ <;> subst g
  case inr => exact ⟨fun _ => no (fun q => by rw [← hQ] at q; exact q5 q.2.2.2.2.2.1), fun w => absurd rfl w⟩
  refine ⟨fun w => absurd w z1, fun _ => SpI.mono (sp_isMixed _) ?_⟩
  rintro r g ⟨e, (⟨q6, rfl⟩ | ⟨q6, rfl⟩)⟩ <;> subst g
  case inr => exact ⟨fun _ => no (fun q => by rw [← hQ] at q; exact q6 q.2.2.2.2.2.2.1), fun w => absurd rfl w⟩
  refine ⟨fun w => absurd w z1, fun _ => ?_⟩
  have ab1 := (q1.ab.mul q2.ab).sub (q6.ab.mul q6.ab)
  have ab1l := ab1.lo
  have ab1h := ab1.hi
  have et : ((x1 * x2) - (x6 * x6)).toInt = x1.toInt * x2.toInt - x6.toInt * x6.toInt := by
    rw [show x1 = zI x1.toInt from (zI_self _).symm, show x2 = zI x2.toInt from (zI_self _).symm, show x6 = zI x6.toInt from (zI_self _).symm, zI_mul, zI_mul, zI_sub, zI_self, zI_self, zI_self, zI_toI (by omega) (by omega)]
  rw [et]
  refine ⟨fun c7 => ?_, fun c => no (fun q => by rw [← hQ] at q; exact c q.2.2.2.2.2.2.2.1)⟩
  refine v_Form_determinantOf _ _ _ _ _ _ _ _ ⟨_, rfl, ?_⟩
  have ab2 := det6_ab q1 q2 q3 q4 q5 q6
  have ab2l := ab2.lo
  have ab2h := ab2.hi
  show (0 < (lg_cmp _ (0 : Int64)).toInt → _) ∧ (¬ 0 < (lg_cmp _ (0 : Int64)).toInt → _)
  rw [lc_gt]
  have dz : ∀ x : Int32, mxI x.toInt → ((2 : Int32) * x).toInt64 = zL (2 * x.toInt) := fun x hx => by
    have a := hx.1
    have b := hx.2
    rw [i2l_z, show (2 : Int32) * x = zI (2 * x.toInt) by rw [show (2 : Int32) = zI 2 from rfl, ← zI_mul, zI_self], zI_toI (by omega) (by omega)]
  rw [dz x4 q4, dz x5 q5, dz x6 q6]
  simp only [i2l_z, zL_mul, zL_sub, zL_add]
  have z0 : (0 : Int64).toInt = 0 := rfl
  have ed : (zL (x1.toInt * (x2.toInt * x3.toInt - x4.toInt * x4.toInt) - x6.toInt * (x6.toInt * x3.toInt - x4.toInt * x5.toInt) + x5.toInt * (x6.toInt * x4.toInt - x2.toInt * x5.toInt))).toInt = det6 x1.toInt x2.toInt x3.toInt x4.toInt x5.toInt x6.toInt := zL_toI (by show _ ≤ det6 _ _ _ _ _ _; omega) (by show det6 _ _ _ _ _ _ < _; omega)
  rw [ed, z0]
  refine ⟨fun c8 => ?_, fun c => ⟨_, rfl, Or.inr ⟨fun q => by rw [← hQ] at q; exact c q.2.2.2.2.2.2.2.2, rfl, trivial⟩⟩⟩
  have okk : cellOk CS.length x1.toInt x2.toInt x3.toInt x4.toInt x5.toInt x6.toInt := ⟨by omega, q1, q2, q3, q4, q5, q6, c7, c8⟩
  have hq : Q := by rw [← hQ]; exact okk
  have OK : OKs (db (x1.toInt, x2.toInt, x3.toInt, x4.toInt, x5.toInt, x6.toInt)) := cell_OK q1 c7 c8
  have hT : tT (db (x1.toInt, x2.toInt, x3.toInt, x4.toInt, x5.toInt, x6.toInt)) ≤ 30000 := by
    show x1.toInt + x2.toInt + x3.toInt ≤ 30000
    have := q1.2; have := q2.2; have := q3.2
    omega
  obtain ⟨nr, u, rd⟩ := red_ex _ ⟨OK, by omega⟩
  have rn := R _ _ _ OK (Ev_db _) hT rd
  clear no et ed
  rintro _ rfl
  have c1 : Kp [] h (nw h 1 0) := (Kp.refl H).nw
  refine ⟨kd_new, SpV.mono (sp_Cell_init2 c1.1 h99 hn_nw kd_new) ?_⟩
  rintro g ⟨c2, hg, k1, k2, m5, m4⟩
  have K0 : Kp [] h g := ⟨c2.1, Nat.le_trans c1.2.1 c2.2.1, fun y hy => by
    have a := c1.2.2 y hy
    have b := c2.2.2 y (by rw [hn_nw]; omega)
    have c := b.2.2 (fun q => by have := List.mem_singleton.mp q; omega)
    have d := a.2.2 List.not_mem_nil
    exact ⟨b.1.trans a.1, b.2.1.trans a.2.1, fun _ => ⟨c.1.trans d.1, c.2.1.trans d.2.1, c.2.2.trans d.2.2⟩⟩⟩
  refine ⟨k1.1, by rw [k1.2.1]; exact k2.1, ?_⟩
  rw [k1.2.1]
  refine SpV.mono (fo_set (h := g) (l := ml g) k2.1 _ _ _ _ _ _) ?_
  rintro _ ⟨l2, rfl, fr2, ft2⟩
  refine v_Ho_cell_1 _ _ _ _ _ _ ⟨k1.1, ?_⟩
  rw [sl_mr, k1.2.2.1, k1.2.1]
  refine ⟨k2.2.1, gd_i rfl (gd_i rfl (v_Form_copy _ _ _ _ ⟨k2.1, k2.2.1, ?_⟩))⟩
  rw [sl_ml, ft2.1, ft2.2.1, ft2.2.2.1, ft2.2.2.2.1, ft2.2.2.2.2.1, ft2.2.2.2.2.2]
  refine SpV.mono (fo_set (h := g) (l := l2) k2.2.1 _ _ _ _ _ _) ?_
  rintro _ ⟨l3, rfl, fr3, ft3⟩
  refine ⟨k1.1, ?_⟩
  rw [sl_mr, k1.2.2.1]
  refine ⟨k2.2.1, gd_i rfl (gd_i rfl (SpV.mono (sp_Form_reduce k2.2.1 rd OK (by omega) rn ft3) ?_))⟩
  rintro _ ⟨l4, rfl, fr4, ft4⟩
  have K3 : Kp [] h (sl g l4) := by
    have a : Kp [] h (sl g l2) := K0.sl (a := hn h + 1) fr2 (Or.inr (by omega))
    have b : Kp [] h (sl g l3) := Kp.sl (g := sl g l2) (l := l3) (a := hn h + 2) a fr3 (Or.inr (by omega))
    exact Kp.sl (g := sl g l3) (l := l4) (a := hn h + 2) b fr4 (Or.inr (by omega))
  have S4 := K3.1
  have e14 : mi (sl g l4) 5 14 = nI CS.length := by rw [K3.i (by omega) List.not_mem_nil]; exact h14
  rw [e14, nI_1, show mr (sl g l4) 5 13 = 43 from S4.2.2.2 (5, 13, 43) (by decide), ix_nI (by omega)]
  refine ⟨S4.k5, S4.k43, by rw [S4.2.2.1 (43, 40) (by decide)]; exact InB_nI (by omega) (by omega), k1.1, ?_⟩
  rintro _ rfl
  rintro _ rfl
  refine gd_i rfl (gd_i rfl ⟨_, rfl, Or.inl ⟨hq, rfl, ?_⟩⟩)
  rw [← hP]
  have n1 : hn h + 1 ∉ [hn h + 2] := fun q => by have := List.mem_singleton.mp q; omega
  exact cel_new (g := sl g l4) H hc (by omega) ⟨CS.length, okk⟩ K3 hg k1 k2 ((ft2.fr (l' := l3) (fr3 _ n1)).fr (fr4 _ n1)) rd ft4 m5 m4
