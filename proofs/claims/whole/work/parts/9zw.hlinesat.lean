/-! the class's lines of a model -/
def LaP (h : MH) (O : Nat → Nat) (ng : Nat) (CS : List S6) (MS : List Mdl) (m w r : Nat) (g : MH) : Prop := r ≠ 0 ∧ ∃ O', StpO h g O O' [46, 47, 48, 49] (· = 100 + m) ∧ HMdl g O' ng CS MS ∧ LnB g O' (100 + m) r w (MS.getD m zM).2.2.1 ∧ LnC g r w (CS.getD (MS.getD m zM).2.1 z6) (MS.getD m zM).2.2.2
theorem okP.nil {P : List Pl} (ok : okP 0 P) : P = [] := by
  match P, ok with
  | [], _ => rfl
  | p :: P, ok => exact absurd (ok.2.1 p List.mem_cons_self).2.2.2 (Nat.not_lt_zero _)
theorem HMdl.newLines {h g : MH} {O : Nat → Nat} {ng m w : Nat} {CS : List S6} {MS : List Mdl} (H : SS h) (hm : HMdl h O ng CS MS) (hi : m < MS.length) (w1 : 1 ≤ w) (hw : w < 7) (L : LiP (nw h 5 0) (hn h) w g) :
    Kp [mr h 44 m + 6] h (wr g (mr h 44 m + 6) w (hn h)) ∧ HMdl (wr g (mr h 44 m + 6) w (hn h)) (ownN O (hn h) (100 + m)) ng CS MS ∧ mr (wr g (mr h 44 m + 6) w (hn h)) (mr h 44 m + 6) w = hn h := by
  have h99 := H.1
  obtain ⟨om, ⟨b1, b2, b3⟩, mk, ma, mc⟩ := hm.2.2 m hi
  obtain ⟨K, n0, ⟨c1, c2, c3, c4, c5, c6⟩, d1, d2, d3, d4⟩ := L
  generalize hxx : mr h 44 m = x at *
  have nn : hn (nw h 5 0) = hn h + 1 := rfl
  have K1 : Kp [x + 6] h g := by
    have k0 : Kp [x + 6] h (nw h 5 0) := (Kp.refl H).nw
    refine ⟨K.1, by omega, fun a ha => ?_⟩
    have k1 := K.2.2 a (by omega)
    have k2 := k0.2.2 a ha
    refine ⟨k1.1.trans k2.1, k1.2.1.trans k2.2.1, fun q => ?_⟩
    have k3 := k1.2.2 (fun e => by rw [List.mem_singleton] at e; omega)
    have k4 := k2.2.2 q
    exact ⟨k3.1.trans k4.1, k3.2.1.trans k4.2.1, k3.2.2.trans k4.2.2⟩
  have e6 : mr g (x + 6) = mr h (x + 6) := by
    rw [K.r (x := x + 6) (by omega) (fun e => by rw [List.mem_singleton] at e; omega)]
    exact mr_nw (by omega)
  have K2 : Kp [x + 6] h (wr g (x + 6) w (hn h)) := K1.wr (Or.inl List.mem_cons_self) (Or.inl (by omega))
  have r6 : mr (wr g (x + 6) w (hn h)) (x + 6) w = hn h := by rw [mr_wr, up2_s]
  have ro : ∀ v, v ≠ w → mr (wr g (x + 6) w (hn h)) (x + 6) v = mr h (x + 6) v := fun v hv => by rw [mr_wr, up2_ni hv, e6]
  have ry : mr (wr g (x + 6) w (hn h)) (hn h) = mr g (hn h) := by
    rw [mr_wr]
    funext j
    exact up2_n (by omega)
  have iy : mi (wr g (x + 6) w (hn h)) = mi g := mi_wr
  have ky : kd (wr g (x + 6) w (hn h)) = kd g := kd_wr
  have ly : ln (wr g (x + 6) w (hn h)) = ln g := ln_wr
  have ny : hn (wr g (x + 6) w (hn h)) = hn g := hn_wr
  refine ⟨K2, ?_, r6⟩
  refine HMdl.ent (w := w) H hm hi K2 (fun a ha => ?_) (fun a ha => ownN_o ha) (fun v hv nv => by rw [hxx]; exact ro v nv) (fun v τ hv nv lv => ?_) (Or.inr ?_)
  · rw [List.mem_singleton] at ha
    subst ha
    exact Or.inr ⟨by omega, b3 6 (by decide), fun j hj => by rw [hxx]; omega⟩
  · rw [hxx] at lv ⊢
    have d := mk.dis lv 6 (by decide)
    simp only [List.mem_cons, List.not_mem_nil, or_false] at d ⊢
    omega
  · rw [hxx, r6]
    refine ⟨w1, 0, Nat.zero_le _, ⟨⟨h99, by omega, ownN_n (by omega), ownN_n (by omega), ownN_n (by omega)⟩, ⟨by rw [ky]; exact c1, by rw [iy]; exact c2, by rw [ry]; exact c3, by rw [ry]; exact c4, by rw [iy]; exact c5⟩, by rw [ky]; exact d1, by rw [ly]; exact d2, by rw [ky]; exact d3, by rw [ly]; exact d4⟩, fun e => ?_⟩
    have e' := om.2.2.2
    rw [← e] at e'
    rw [e'.nil]
    refine ⟨[], Nat.zero_le _, LinL.none, by rw [iy]; exact c6, fun k => k, fun k hk => absurd hk (Nat.not_lt_zero k), fun j k hj => absurd hj (Nat.not_lt_zero j), fun k hk => absurd hk (Nat.not_lt_zero k)⟩
