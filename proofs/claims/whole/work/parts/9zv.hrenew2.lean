/-! the class's lines: renewed -/
def ownN (O : Nat → Nat) (n t : Nat) (a : Nat) : Nat := if a < n then O a else t
theorem ownN_o {O : Nat → Nat} {n t a : Nat} (h : a < n) : ownN O n t a = O a := if_pos h
theorem ownN_n {O : Nat → Nat} {n t a : Nat} (h : n ≤ a) : ownN O n t a = t := if_neg (by omega)
def RnP (h : MH) (O : Nat → Nat) (ng : Nat) (CS : List S6) (MS : List Mdl) (m w : Nat) (g : MH) : Prop := ∃ O', StpO h g O O' [46, 47, 48, 49] (· = 100 + m) ∧ HMdl g O' ng CS MS ∧ LnB g O' (100 + m) (mr h (mr h 44 m + 6) w) w (MS.getD m zM).2.2.1 ∧ LnC g (mr h (mr h 44 m + 6) w) w (CS.getD (MS.getD m zM).2.1 z6) (MS.getD m zM).2.2.2
theorem sp_Lines_renew {h : MH} {O : Nat → Nat} {ng m w : Nat} {CS : List S6} {MS : List Mdl} (H : SS h) (hc : HCel h O CS) (hm : HMdl h O ng CS MS) (cs : CosAt (mi h)) (hi : m < MS.length) (hw : w < 7) (ne : mr h (mr h 44 m + 6) w ≠ 0) :
    SpV k_Lines_renew [.ref (mr h (mr h 44 m + 6) w), .ref (mr h 44 m), .ref 45] h (RnP h O ng CS MS m w) := by
  have h99 := H.1
  obtain ⟨om, ⟨b1, b2, b3⟩, mk, ma, mc⟩ := hm.2.2 m hi
  obtain ⟨kb, ft, oks⟩ := hc.form om.2.1
  have e44 : ∀ y, y = mr h 44 m → y = mr h 44 m := fun _ e => e
  have ht := om.2.2.1
  generalize hxx : mr h 44 m = x at *
  have q := mc w hw
  generalize hyy : mr h (x + 6) w = y at *
  rcases q with q | q
  · exact absurd q ne
  obtain ⟨w1, τ', q1, lb, q2⟩ := q
  have dis := mk.dis lb
  have lb' := lb
  obtain ⟨⟨y1, y2, y3, y4, y5⟩, ⟨c1, c2, c3, c4, c5⟩, d1, d2, d3, d4⟩ := lb'
  refine v_Lines_renew _ _ _ _ _ ⟨c1, mk.1.1, ?_⟩
  rw [c5, ma.2.1]
  refine ⟨fun c => ⟨O, StpO.refl H, hm, ?_⟩, fun c => ?_⟩
  · have : τ' = (MS.getD m zM).2.2.1 := (nI_inj (by omega) (by omega)).mp c
    rw [hxx, hyy]
    subst this
    exact ⟨lb, q2 rfl⟩
  rintro _ rfl
  rintro _ rfl
  have me : y ∈ [y] := List.mem_cons_self
  have K0 : Kp [y] h (wi (wi h y 4 (nI (MS.getD m zM).2.2.1)) y 3 0) := ((Kp.refl H).wi (Or.inl me)).wi (Or.inl me)
  have n0 : hn (wi (wi h y 4 (nI (MS.getD m zM).2.2.1)) y 3 0) = hn h := by rw [hn_wi, hn_wi]
  have r0 : mr (wi (wi h y 4 (nI (MS.getD m zM).2.2.1)) y 3 0) y = mr h y := by rw [mr_wi, mr_wi]
  have l0 : ml (wi (wi h y 4 (nI (MS.getD m zM).2.2.1)) y 3 0) = ml h := by rw [ml_wi, ml_wi]
  have i4 : mi (wi (wi h y 4 (nI (MS.getD m zM).2.2.1)) y 3 0) y 4 = nI (MS.getD m zM).2.2.1 := by rw [mi_wi, up2_ni (by decide), mi_wi, up2_s]
  have i3 : mi (wi (wi h y 4 (nI (MS.getD m zM).2.2.1)) y 3 0) y 3 = 0 := by rw [mi_wi, up2_s]
  have i0 : mi (wi (wi h y 4 (nI (MS.getD m zM).2.2.1)) y 3 0) y 0 = nI w := by rw [mi_wi, up2_ni (by decide), mi_wi, up2_ni (by decide)]; exact c2
  generalize wi (wi h y 4 (nI (MS.getD m zM).2.2.1)) y 3 0 = g0 at *
  have no : ∀ j, j < 7 → x + j ∉ [y] := fun j hj q => dis j hj (by
    rw [List.mem_singleton] at q
    rw [q]
    exact List.mem_cons_self)
  have mk0 : MdK g0 x (mr h 29 (MS.getD m zM).1) (mr h 43 (MS.getD m zM).2.1 + 1) := mk.kp K0 b2 (no 0 (by decide)) (no 4 (by decide))
  have ma0 := ma.kp6 K0 b2 (fun j hj => no j (by omega))
  have lk0 : LnK g0 y w := ⟨⟨by rw [K0.k (by omega)]; exact c1, by rw [r0]; exact c3, by rw [r0]; exact c4⟩, by rw [K0.k (by omega)]; exact d1, by rw [K0.n (by omega)]; exact d2, by rw [K0.k (by omega)]; exact d3, by rw [K0.n (by omega)]; exact d4⟩
  have cs0 : CosAt (mi g0) := fun j hj => by
    rw [K0.i (by omega) (fun q => by rw [List.mem_singleton] at q; omega)]; exact cs j hj
  have cb := (hc.2.2 _ om.2.1).2.1.1
  have hb : mr h 43 (MS.getD m zM).2.1 + 1 < hn g0 := by omega
  refine SpV.mono (sp_Lines_gather K0.1 b1 (by omega) y1 (by omega) mk0 ma0 om.2.2.2 ht cs0 oks hw lk0 hb (by rw [K0.k (by omega)]; exact kb) (by rw [l0]; exact ft) (fun j hj => ?_) i0 i3) ?_
  · have := dis j hj
    simp only [List.mem_cons, List.not_mem_nil, or_false] at this
    omega
  rintro _ ⟨g1, f', l', K1, n1, rfl, st⟩
  obtain ⟨L, ll, li, lr⟩ := st.done hw
  obtain ⟨_, fr1, fy, fr2, _⟩ := st
  have K2 : Kp [y, y + 1, y + 2, 46, 47, 48, 49] g1 (sil g1 f' l') := Kp.si3 K1.1 (fr1.mono (by intro a ha; simp only [List.mem_cons, List.not_mem_nil, or_false] at *; omega)) (fr2.mono (by intro a ha; simp only [List.mem_cons, List.not_mem_nil, or_false] at *; omega))
  have KK : Kp [y, y + 1, y + 2, 46, 47, 48, 49] h (sil g1 f' l') := (K0.mono (by intro a ha; simp only [List.mem_cons, List.not_mem_nil, or_false] at *; omega)).trans ((K1.mono (fun a ha => absurd ha List.not_mem_nil)).trans K2)
  have mm : ∀ a, a ∈ [y, y + 1, y + 2, 46, 47, 48, 49] ↔ a ∈ [46, 47, 48, 49] ∨ a ∈ [y, y + 1, y + 2] := fun a => by
    simp only [List.mem_cons, List.not_mem_nil, or_false]; omega
  have nH : hn (sil g1 f' l') = hn h + 1 := by rw [hn_sil, n1, n0]
  have tg : ∀ a, a ∈ [y, y + 1, y + 2] → 99 ≤ a ∧ O a = 100 + m := fun a ha => by
    simp only [List.mem_cons, List.not_mem_nil, or_false] at ha
    rcases ha with rfl | rfl | rfl
    · exact ⟨y1, y3⟩
    · exact ⟨by omega, y4⟩
    · exact ⟨by omega, y5⟩
  have iy : ∀ j, j ≠ 3 → f' y j = mi g0 y j := fun j hj => by rw [fy j hj, K1.i (by omega) List.not_mem_nil]
  have ry : mr (sil g1 f' l') y = mr h y := by rw [mr_sil K1.1, K1.r (by omega) List.not_mem_nil, r0]
  have lbN : LnB (sil g1 f' l') (ownN O (hn h) 120) (100 + m) y w (MS.getD m zM).2.2.1 := by
    refine ⟨⟨y1, by omega, by rw [ownN_o (by omega)]; exact y3, by rw [ownN_o (by omega)]; exact y4, by rw [ownN_o (by omega)]; exact y5⟩, ⟨by rw [KK.k (by omega)]; exact c1, by rw [mi_sil, iy 0 (by decide)]; exact i0, by rw [ry]; exact c3, by rw [ry]; exact c4, by rw [mi_sil, iy 4 (by decide)]; exact i4⟩, by rw [KK.k (by omega)]; exact d1, by rw [KK.n (by omega)]; exact d2, by rw [KK.k (by omega)]; exact d3, by rw [KK.n (by omega)]; exact d4⟩
  have lnN : LnC (sil g1 f' l') y w (CS.getD (MS.getD m zM).2.1 z6) (MS.getD m zM).2.2.2 := by
    refine ⟨L, ll, li, ?_, ?_⟩
    · rw [mi_sil]; exact lr.1
    · unfold LnAt
      rw [mi_sil, ml_sil]
      exact lr.2
  have hO : ∀ a, a < hn h → ownN O (hn h) 120 a = O a := fun a ha => ownN_o ha
  have s4 : ∀ a ∈ [46, 47, 48, 49], a < 99 := by decide
  have n6 : x + 6 ∉ [y, y + 1, y + 2, 46, 47, 48, 49] := fun q => by
    rcases (mm _).mp q with q | q
    · have := s4 _ q; omega
    · exact dis 6 (by decide) q
  have e6 : mr (sil g1 f' l') (x + 6) = mr h (x + 6) := KK.r (by omega) n6
  refine ⟨_, ⟨_, KK, fun a ha => ((mm a).mp ha).imp id (tg a), hO⟩, ?_, ?_⟩
  rotate_left
  · rw [hxx, hyy]; exact ⟨lbN, lnN⟩
  refine HMdl.ent (w := w) H hm hi KK (fun a ha => ?_) hO (fun v _ _ => ?_) (fun v τ hv nv lv => ?_) (Or.inr ?_)
  · rw [hxx]
    exact ((mm a).mp ha).imp id (fun q => ⟨(tg a q).1, (tg a q).2, fun j hj e => dis j (by omega) (by rw [e]; exact q)⟩)
  · rw [hxx, e6]
  · rw [hxx] at lv ⊢
    have d := lb.dis lv hw hv nv
    have l1 := lv.1.1
    refine ⟨fun q => ?_, fun q => ?_, fun q => ?_⟩ <;> rcases (mm _).mp q with q | q
    · have := s4 _ q; omega
    · exact d.1 q
    · have := s4 _ q; omega
    · exact d.2.1 q
    · have := s4 _ q; omega
    · exact d.2.2 q
  · rw [hxx, e6, hyy]
    exact ⟨w1, _, Nat.le_refl _, lbN, fun _ => lnN⟩
