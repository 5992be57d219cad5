/-! lines, line of the class -/
theorem cos_kp {A : List Nat} {h g : MH} (H : SS h) (c : Kp A h g) (n3 : 3 ∉ A) (cs : CosAt (mi h)) : CosAt (mi g) := fun j hj => by
  have := H.1
  rw [c.i (by omega) n3]; exact cs j hj
theorem sp_Ho_linesAt {h : MH} {O : Nat → Nat} {ng : Nat} {CS : List S6} {MS : List Mdl} (H : SS h) (hc : HCel h O CS) (hm : HMdl h O ng CS MS) (cs : CosAt (mi h)) (x y : Int32) :
    SpR k_Ho_linesAt [.ref 5, .int x, .int y] h (fun r g => (∃ m w, LsG MS x y m w ∧ LaP h O ng CS MS m w r g) ∨ ((¬ ∃ m w, LsG MS x y m w) ∧ r = 0 ∧ g = h)) := by
  have hl := hm.1
  have h99 := H.1
  have t1 : (1 : Int32).toInt = 1 := rfl
  have t6 : (6 : Int32).toInt = 6 := rfl
  refine v_Ho_linesAt _ _ _ _ _ ⟨H.k5, SpR.mono (sp_Ho_modelAt H hm x) ?_⟩
  rintro r1 k ⟨rfl, g1⟩
  rcases g1 with ⟨m, hi, rfl, rfl, r0⟩ | ⟨no, rfl⟩
  rotate_left
  · exact ⟨fun _ => ⟨_, rfl, Or.inr ⟨ls_no1 hl no, rfl, rfl⟩⟩, fun q => absurd rfl q⟩
  rw [t1, t6]
  refine ⟨fun q => absurd q r0, fun _ => ⟨fun c => ⟨_, rfl, Or.inr ⟨ls_no2 (fun q => by omega), rfl, rfl⟩⟩, fun c1 => ⟨fun c => ⟨_, rfl, Or.inr ⟨ls_no2 (fun q => by omega), rfl, rfl⟩⟩, fun c2 => ?_⟩⟩⟩
  obtain ⟨w, rfl, hw⟩ := op_x (n := 7) (show ¬ y.toInt < 0 by omega) (by omega) (by omega)
  rw [nI_toI (by omega)] at c1 c2
  obtain ⟨om, ⟨b1, b2, b3⟩, mk, ma, mc⟩ := hm.2.2 m hi
  have lg : LsG MS (nI m) (nI w) m w := ⟨hi, rfl, ⟨by omega, by omega⟩, rfl⟩
  rw [mk.1.2.2.2.2.2.2.2, mk.2.2.2.2.2.2, ix_nI (a := w) (by omega)]
  refine ⟨mk.1.1, mk.2.2.2.2.2.1, InB_nI (by omega) (by omega), fun e => ?_, fun ne => ⟨H.k5, ?_, ?_⟩⟩
  · rintro _ rfl
    have K0 : Kp [] k (nw k 5 0) := (Kp.refl H).nw
    refine ⟨kd_new, SpV.mono (sp_Lines_init K0.1 h99 rfl kd_new hw) ?_⟩
    rintro g L
    obtain ⟨K2, hm2, r6⟩ := HMdl.newLines H hm hi (by omega) hw L
    obtain ⟨K1, n1, ⟨y1, _⟩, _⟩ := L
    have nn : hn (nw k 5 0) = hn k + 1 := rfl
    have kx : ∀ a, a < hn k → kd g a = kd k a := fun a ha => by rw [K1.k (by omega), K0.k ha]
    have lx : ∀ a, a < hn k → ln g a = ln k a := fun a ha => by rw [K1.n (by omega), K0.n ha]
    have rx : ∀ a, a < hn k → mr g a = mr k a := fun a ha => by rw [K1.r (by omega) (fun e => by rw [List.mem_singleton] at e; omega), K0.r ha List.not_mem_nil]
    rw [kx _ (by omega), rx _ (by omega), mk.1.2.2.2.2.2.2.2, kx _ (by omega), lx _ (by omega), mk.2.2.2.2.2.2, kx 5 (by omega)]
    refine ⟨mk.1.1, mk.2.2.2.2.2.1, InB_nI (by omega) (by omega), y1, ?_⟩
    rintro _ rfl
    generalize wr g (mr k 44 m + 6) w (hn k) = g2 at *
    have e44 : mr g2 44 m = mr k 44 m := by rw [K2.r (by omega) (fun e => by rw [List.mem_singleton] at e; omega)]
    have e17 : mr g2 5 17 = 45 := K2.1.2.2.2 (5, 17, 45) (by decide)
    have hc2 : HCel g2 (ownN O (hn k) (100 + m)) CS := hc.kp H K2 (fun a ha => by
      rw [List.mem_singleton] at ha
      subst ha
      exact Or.inr ⟨by omega, Or.inr (by rw [b3 6 (by decide)]; omega)⟩) (by rw [K2.i (by omega) (fun e => by rw [List.mem_singleton] at e; omega)]) (fun a ha => ownN_o ha)
    have cs2 := cos_kp H K2 (fun e => by rw [List.mem_singleton] at e; omega) cs
    have w2 := sp_Lines_renew K2.1 hc2 hm2 cs2 hi hw (by rw [e44, r6]; omega)
    rw [e44, r6] at w2
    rw [e17]
    refine ⟨H.k5, SpV.mono w2 ?_⟩
    rintro g3 ⟨O', st, hm3, lb, lc⟩
    rw [e44, r6] at lb lc
    refine ⟨_, rfl, Or.inl ⟨m, w, lg, by omega, O', ?_, hm3, lb, lc⟩⟩
    refine StpO.trans (O' := ownN O (hn k) (100 + m)) ⟨_, K2, fun a ha => ?_, fun a ha => ownN_o ha⟩ st
    rw [List.mem_singleton] at ha
    subst ha
    exact Or.inr ⟨by omega, b3 6 (by decide)⟩
  · rcases mc w hw with q | ⟨_, _, _, lb, _⟩
    · exact absurd q ne
    · exact lb.2.1.1
  · have e17 : mr k 5 17 = 45 := H.2.2.2 (5, 17, 45) (by decide)
    rw [e17]
    refine SpV.mono (sp_Lines_renew H hc hm cs hi hw ne) ?_
    rintro g3 ⟨O', st, hm3, lb, lc⟩
    exact ⟨_, rfl, Or.inl ⟨m, w, lg, ne, O', st, hm3, lb, lc⟩⟩
def LaS (h : MH) (O : Nat → Nat) (ng : Nat) (CS : List S6) (MS : List Mdl) (g : MH) : Prop := ∃ O', StpO h g O O' [46, 47, 48, 49] (fun t => 100 ≤ t) ∧ HMdl g O' ng CS MS
theorem LaP.s {h g : MH} {O : Nat → Nat} {ng m w r : Nat} {CS : List S6} {MS : List Mdl} (p : LaP h O ng CS MS m w r g) : LaS h O ng CS MS g := by
  obtain ⟨_, O', st, hm, _⟩ := p
  exact ⟨O', st.mono (fun _ q => q) (fun a e => by omega), hm⟩
theorem sp_Ho_lines {h : MH} {O : Nat → Nat} {ng : Nat} {CS : List S6} {MS : List Mdl} (H : SS h) (hc : HCel h O CS) (hm : HMdl h O ng CS MS) (cs : CosAt (mi h)) (x y : Int32) :
    SpI k_Ho_lines [.ref 5, .int x, .int y] h (fun r g => LnsA CS MS x y r ∧ LaS h O ng CS MS g) := by
  refine v_Ho_lines _ _ _ _ _ ⟨H.k5, SpR.mono (sp_Ho_linesAt H hc hm cs x y) ?_⟩
  rintro r g (⟨m, w, lg, la⟩ | ⟨no, rfl, rfl⟩)
  · have ls := la.s
    obtain ⟨r0, O', _, _, lb, L, l1, l2, l3, _⟩ := la
    refine ⟨fun e => absurd e r0, fun _ => ⟨lb.2.1.1, ?_⟩⟩
    rw [l3]
    exact ⟨_, rfl, Or.inl ⟨m, w, L, lg, l2, rfl⟩, ls⟩
  · exact ⟨fun _ => ⟨_, rfl, Or.inr ⟨no, rfl⟩, O, StpO.refl H, hm⟩, fun q => absurd rfl q⟩
theorem sp_Ho_line {h : MH} {O : Nat → Nat} {ng : Nat} {CS : List S6} {MS : List Mdl} (H : SS h) (hc : HCel h O CS) (hm : HMdl h O ng CS MS) (cs : CosAt (mi h)) (x y k i : Int32) :
    SpL k_Ho_line [.ref 5, .int x, .int y, .int k, .int i] h (fun r g => LneA CS MS x y k i r ∧ LaS h O ng CS MS g) := by
  have hl := hm.1
  have t5 : (5 : Int32).toInt = 5 := rfl
  refine v_Ho_line _ _ _ _ _ _ _ ⟨H.k5, SpR.mono (sp_Ho_linesAt H hc hm cs x y) ?_⟩
  rintro r g (⟨m, w, lg, la⟩ | ⟨no, rfl, rfl⟩)
  rotate_left
  · exact ⟨fun _ => ⟨_, rfl, Or.inr ⟨le_no no, rfl⟩, O, StpO.refl H, hm⟩, fun q => absurd rfl q⟩
  have ls := la.s
  obtain ⟨r0, O', _, _, lb, L, l1, l2, l3, o, o1, o2, o3⟩ := la
  have hw := lg.2.2.1
  have hh := half_le (m := w) (by omega)
  rw [t5, l3, nI_toI (by omega)]
  refine ⟨fun e => absurd e r0, fun _ => ⟨fun c => ⟨_, rfl, Or.inr ⟨le_nok c, rfl⟩, ls⟩, fun c1 => ⟨lb.2.1.1, fun c2 => ⟨fun c => ⟨_, rfl, Or.inr ⟨le_noi (fun q => by omega), rfl⟩, ls⟩, fun c3 => ⟨fun c => ⟨_, rfl, Or.inr ⟨le_noi (fun q => by omega), rfl⟩, ls⟩, fun c4 => ?_⟩⟩, fun c => ⟨_, rfl, Or.inr ⟨fun ⟨m', w', L', k', i2, a1, a2, a3, a4, a5⟩ => c ?_, rfl⟩, ls⟩⟩⟩⟩
  rotate_left
  · obtain ⟨e1, e2⟩ := lg.fn hl a1
    subst e1 e2
    have eL := LinL.fn l2 a2
    subst eL
    rw [a3.2.2, nI_toI (by omega)]
    omega
  obtain ⟨k', rfl, hk⟩ := op_x (n := L.length) c1 (by omega) (by omega)
  obtain ⟨i', rfl, hi'⟩ := op_x (n := 6) c3 (by omega) (by omega)
  obtain ⟨p1, p2⟩ := o1 k' hk
  have p3 := o3 k' hk i' hi'
  obtain ⟨_, ⟨_, _, r1, r2, _⟩, d1, d2, d3, d4⟩ := lb
  rw [r1, r2, ix_nI (a := k') (by omega), p2, show (6 : Int32) = nI 6 from rfl, nI_mul, nI_add, ix_nI (by omega), p3, d2, d4]
  exact ⟨d3, InB_nI (by omega) (by omega), d1, InB_nI (by omega) (by omega), _, rfl, Or.inl ⟨m, w, L, k', i', ⟨lg, l2, ⟨hk, by omega, rfl⟩, hi', rfl⟩, rfl⟩, ls⟩
