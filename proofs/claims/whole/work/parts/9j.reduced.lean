/-! the class: the symmetry of a cell, reduced -/
theorem sp_part {h : MH} {i u : Nat} (hi : i < 27) (hu : u = 9 ∨ u = 3 ∨ u = 1) : SpI k_Ho_part [.int (nI i), .int (nI u)] h (fun r g => g = h ∧ r = zI (((i / u % 3 : Nat) : Int) - 1)) := by
  refine v_Ho_part _ _ _ _ (SpI.mono (sp_maxI _ _) ?_)
  rintro _ _ ⟨rfl, rfl⟩
  have e : (if (nI u).toInt < (1 : Int32).toInt then (1 : Int32) else nI u) = nI u := by rcases hu with rfl | rfl | rfl <;> rfl
  have u0 : 0 < u := by omega
  rw [e]
  refine ⟨by rcases hu with rfl | rfl | rfl <;> decide, _, rfl, rfl, ?_⟩
  rw [div_nI (by omega) u0 (by omega), show (3 : Int32) = nI 3 from rfl, irm_nI (by have := Nat.div_le_self i u; omega) (by decide) (by decide), show (1 : Int32) = nI 1 from rfl, nI_subN]
  rfl
def LowAt (h : MH) (x : Nat) (v : S6) : Prop := kd h x = 1 ∧ mr h x 1 = x + 2 ∧ kd h (x + 2) = 3 ∧ FoAt (ml h) (x + 2) (db v)
theorem pt_ab (i : Nat) : Ab (pt i).1 1 ∧ Ab (pt i).2.1 1 ∧ Ab (pt i).2.2 1 := by
  unfold pt
  exact ⟨Ab.of (by simp only; omega) (by simp only; omega), Ab.of (by simp only; omega) (by simp only; omega), Ab.of (by simp only; omega) (by simp only; omega)⟩
theorem zI64 {v : Int} (h : Ab v 1) : (zI v).toInt64 = zL v := by
  have a := h.lo
  have b := h.hi
  rw [i2l_z, zI_toI (by omega) (by omega)]
/-- three parts, then a square of the low form -/
theorem low_sq {h : MH} {x i : Nat} {v : S6} {Rt : Value → MH → Prop} {P : Int64 → MH → Prop} (hl : LowAt h x v) (hi : i < 27) (go : P (zL (dotS v (pt i).1 (pt i).2.1 (pt i).2.2 (pt i).1 (pt i).2.1 (pt i).2.2)) h) :
    SpI k_Ho_part [.int (nI i), .int (9 : Int32)] h (fun r4 g3 => SpI k_Ho_part [.int (nI i), .int (3 : Int32)] g3 (fun r6 g5 => SpI k_Ho_part [.int (nI i), .int (1 : Int32)] g5 (fun r8 g7 => kd g7 (mr h x 1) = 3 ∧ SpL k_Form_square [.ref (mr h x 1), .long r4.toInt64, .long r6.toInt64, .long r8.toInt64] g7 P))) := by
  refine SpI.mono (sp_part (u := 9) hi (by omega)) ?_
  rintro _ _ ⟨rfl, rfl⟩
  refine SpI.mono (sp_part (u := 3) hi (by omega)) ?_
  rintro _ _ ⟨rfl, rfl⟩
  refine SpI.mono (sp_part (u := 1) hi (by omega)) ?_
  rintro _ _ ⟨rfl, rfl⟩
  have p := pt_ab i
  rw [hl.2.1, show i / 1 % 3 = i % 3 by rw [Nat.div_one], zI64 (show Ab (((i / 9 % 3 : Nat) : Int) - 1) 1 from p.1), zI64 (show Ab (((i / 3 % 3 : Nat) : Int) - 1) 1 from p.2.1), zI64 (show Ab (((i % 3 : Nat) : Int) - 1) 1 from p.2.2)]
  refine ⟨hl.2.2.1, SpL.mono (fo_square hl.2.2.1 hl.2.2.2 _ _ _) ?_⟩
  rintro _ _ ⟨rfl, rfl⟩
  exact go
theorem sp_twiceOf {h : MH} {x i j : Nat} {v : S6} (hl : LowAt h x v) (hi : i < 27) (hj : j < 27) : SpL k_Cell_twiceOf [.ref x, .int (nI i), .int (nI j)] h (fun r g => g = h ∧ r = zL (2 * dotS v (pt i).1 (pt i).2.1 (pt i).2.2 (pt j).1 (pt j).2.1 (pt j).2.2)) := by
  refine v_Cell_twiceOf _ _ _ _ _ ⟨hl.1, SpI.mono (sp_part (u := 9) hi (by omega)) ?_⟩
  rintro _ _ ⟨rfl, rfl⟩
  refine SpI.mono (sp_part (u := 3) hi (by omega)) ?_
  rintro _ _ ⟨rfl, rfl⟩
  refine SpI.mono (sp_part (u := 1) hi (by omega)) ?_
  rintro _ _ ⟨rfl, rfl⟩
  refine SpI.mono (sp_part (u := 9) hj (by omega)) ?_
  rintro _ _ ⟨rfl, rfl⟩
  refine SpI.mono (sp_part (u := 3) hj (by omega)) ?_
  rintro _ _ ⟨rfl, rfl⟩
  refine SpI.mono (sp_part (u := 1) hj (by omega)) ?_
  rintro _ _ ⟨rfl, rfl⟩
  have p := pt_ab i
  have q := pt_ab j
  rw [hl.2.1, show i / 1 % 3 = i % 3 by rw [Nat.div_one], show j / 1 % 3 = j % 3 by rw [Nat.div_one], zI64 (show Ab (((i / 9 % 3 : Nat) : Int) - 1) 1 from p.1), zI64 (show Ab (((i / 3 % 3 : Nat) : Int) - 1) 1 from p.2.1), zI64 (show Ab (((i % 3 : Nat) : Int) - 1) 1 from p.2.2), zI64 (show Ab (((j / 9 % 3 : Nat) : Int) - 1) 1 from q.1), zI64 (show Ab (((j / 3 % 3 : Nat) : Int) - 1) 1 from q.2.1), zI64 (show Ab (((j % 3 : Nat) : Int) - 1) 1 from q.2.2)]
  refine ⟨hl.2.2.1, SpL.mono (fo_twice hl.2.2.1 hl.2.2.2 _ _ _ _ _ _) ?_⟩
  rintro _ _ ⟨rfl, rfl⟩
  exact ⟨_, rfl, rfl, rfl⟩
theorem pcmp {v : S6} (hs : S6b v) (i j q : Nat) (hq : q < 6) : (lg_cmp (zL (dotS v (pt i).1 (pt i).2.1 (pt i).2.2 (pt j).1 (pt j).2.1 (pt j).2.2)) (zL (nth6 v q)) = 0) = (dotS v (pt i).1 (pt i).2.1 (pt i).2.2 (pt j).1 (pt j).2.1 (pt j).2.2 = nth6 v q) := by
  have a := pt_ab i
  have b := pt_ab j
  have d := dot_ab hs a.1 a.2.1 a.2.2 b.1 b.2.1 b.2.2
  have dl := d.lo
  have dh := d.hi
  have el := (hs q hq).lo
  have eh := (hs q hq).hi
  exact lz_eq (by omega) (by omega) (by omega) (by omega)
theorem pcmp2 {v : S6} (hs : S6b v) (i j q : Nat) (hq : q < 6) : (lg_cmp (zL (2 * dotS v (pt i).1 (pt i).2.1 (pt i).2.2 (pt j).1 (pt j).2.1 (pt j).2.2)) (zL (2 * nth6 v q)) = 0) = (dotS v (pt i).1 (pt i).2.1 (pt i).2.2 (pt j).1 (pt j).2.1 (pt j).2.2 = nth6 v q) := by
  have a := pt_ab i
  have b := pt_ab j
  have d := dot_ab hs a.1 a.2.1 a.2.2 b.1 b.2.1 b.2.2
  have dl := d.lo
  have dh := d.hi
  have el := (hs q hq).lo
  have eh := (hs q hq).hi
  rw [lz_eq (by omega) (by omega) (by omega) (by omega)]
  exact propext ⟨fun q => by omega, fun q => by omega⟩
theorem gL_y {α : Type} {P : Nat → Prop} {F : Nat → List α} {n : Nat} (h : P n) : (gL P F (n + 1)).length = (gL P F n).length + (F n).length := by
  show (gL P F n ++ pif (P n) (F n)).length = _
  rw [pif_y h, List.length_append]
theorem gL_n {α : Type} {P : Nat → Prop} {F : Nat → List α} {n : Nat} (h : ¬ P n) : (gL P F (n + 1)).length = (gL P F n).length := by
  show (gL P F n ++ pif (P n) (F n)).length = _
  rw [pif_n h, List.append_nil]
theorem sp_countKeepingWith {h : MH} {x i : Nat} {v : S6} (hl : LowAt h x v) (hs : S6b v) (hi : i < 27) : SpI k_Cell_countKeepingWith [.ref x, .int (nI i)] h (fun r g => g = h ∧ r = nI (LJ v i 27).length) := by
  have t27 : (27 : Int32).toInt = 27 := rfl
  have f1 : ml h (x + 2) 1 = zL (nth6 v 1) := hl.2.2.2.2.1
  have f2 : ml h (x + 2) 2 = zL (nth6 v 2) := hl.2.2.2.2.2.1
  have f3 : ml h (x + 2) 3 = zL (2 * nth6 v 3) := hl.2.2.2.2.2.2.1
  have f4 : ml h (x + 2) 4 = zL (2 * nth6 v 4) := hl.2.2.2.2.2.2.2.1
  have f5 : ml h (x + 2) 5 = zL (2 * nth6 v 5) := hl.2.2.2.2.2.2.2.2
  have two : ∀ (j : Nat) (c : Nat), j < 27 → C2 v i j → c = (LJ v i j).length → (WM k_Cell_countKeepingWith p_Cell_countKeepingWith_1 [.ref x, .int (nI i), .int (nI (LJ v i (j + 1)).length), .int (nI (j + 1)), Jv] [] h 0 0 (fun w g => ∃ r, w = .int r ∧ g = h ∧ r = nI (LJ v i 27).length)) → ∀ d k, 27 - k = d → k ≤ 27 → WM k_Cell_countKeepingWith p_Cell_countKeepingWith_2 [.ref x, .int (nI i), .int (nI (c + (LK v i j k).length)), .int (nI j), .int (nI k)] [] h 0 0 (fun w g => ∃ r, w = .int r ∧ g = h ∧ r = nI (LJ v i 27).length) := by
    intro j c hj c2 ec go d
    induction d with
    | zero =>
      intro k hd hk
      have e : k = 27 := by omega
      subst e
      refine v_Cell_countKeepingWith_2 _ _ _ _ _ _ _ ⟨fun q => absurd q (by decide), fun _ => ?_⟩
      rw [nI_1, ec]
      have : (LJ v i j).length + (LK v i j 27).length = (LJ v i (j + 1)).length := (gL_y c2).symm
      rw [this]
      exact go
    | succ d ih =>
      intro k hd hk
      have kl : k < 27 := by omega
      have nx : ∀ m : Nat, m = c + (LK v i j (k + 1)).length → WM k_Cell_countKeepingWith p_Cell_countKeepingWith_2 [.ref x, .int (nI i), .int (nI m), .int (nI j), .int (nI k + (1 : Int32))] [] h 0 0 (fun w g => ∃ r, w = .int r ∧ g = h ∧ r = nI (LJ v i 27).length) := fun m em => by
        rw [nI_1, em]; exact ih (k + 1) (by omega) (by omega)
      have no : ¬ C3 v i j k → WM k_Cell_countKeepingWith p_Cell_countKeepingWith_2 [.ref x, .int (nI i), .int (nI (c + (LK v i j k).length)), .int (nI j), .int (nI k + (1 : Int32))] [] h 0 0 (fun w g => ∃ r, w = .int r ∧ g = h ∧ r = nI (LJ v i 27).length) := fun n3 => nx _ (by unfold LK; rw [gL_n n3])
      refine v_Cell_countKeepingWith_2 _ _ _ _ _ _ _ ⟨fun _ => ⟨hl.1, low_sq (Rt := fun _ _ => True) hl kl ?_⟩, fun q => absurd (by rw [nI_toI (by omega), t27]; omega) q⟩
      rw [hl.2.1, f2, pcmp hs k k 2 (by decide)]
      refine ⟨hl.1, hl.2.2.1, fun d0 => SpL.mono (sp_twiceOf hl hi kl) ?_, fun d0 => no (fun q => d0 q.1)⟩
      rintro _ _ ⟨rfl, rfl⟩
      rw [hl.2.1, f4, pcmp2 hs i k 4 (by decide)]
      refine ⟨hl.1, hl.2.2.1, fun d1 => SpL.mono (sp_twiceOf hl hj kl) ?_, fun d1 => no (fun q => d1 q.2.1)⟩
      rintro _ _ ⟨rfl, rfl⟩
      rw [hl.2.1, f3, pcmp2 hs j k 3 (by decide)]
      refine ⟨hl.1, hl.2.2.1, fun d2 => ?_, fun d2 => no (fun q => d2 q.2.2)⟩
      rw [nI_1]
      exact nx _ (by unfold LK; rw [gL_y (show C3 v i j k from ⟨d0, d1, d2⟩)]; rfl)
  have one : ∀ d j, 27 - j = d → j ≤ 27 → WM k_Cell_countKeepingWith p_Cell_countKeepingWith_1 [.ref x, .int (nI i), .int (nI (LJ v i j).length), .int (nI j), Jv] [] h 0 0 (fun w g => ∃ r, w = .int r ∧ g = h ∧ r = nI (LJ v i 27).length) := by
    intro d
    induction d with
    | zero =>
      intro j hd hj
      have e : j = 27 := by omega
      subst e
      exact v_Cell_countKeepingWith_1 _ _ _ _ _ _ ⟨fun q => absurd q (by decide), fun _ => ⟨_, rfl, rfl, rfl⟩⟩
    | succ d ih =>
      intro j hd hj
      have jl : j < 27 := by omega
      have no : ¬ C2 v i j → WM k_Cell_countKeepingWith p_Cell_countKeepingWith_1 [.ref x, .int (nI i), .int (nI (LJ v i j).length), .int (nI j + (1 : Int32)), Jv] [] h 0 0 (fun w g => ∃ r, w = .int r ∧ g = h ∧ r = nI (LJ v i 27).length) := fun n2 => by
        rw [nI_1, show (LJ v i j).length = (LJ v i (j + 1)).length by unfold LJ; rw [gL_n n2]]
        exact ih (j + 1) (by omega) (by omega)
      refine v_Cell_countKeepingWith_1 _ _ _ _ _ _ ⟨fun _ => ⟨hl.1, low_sq (Rt := fun _ _ => True) hl jl ?_⟩, fun q => absurd (by rw [nI_toI (by omega), t27]; omega) q⟩
      rw [hl.2.1, f1, pcmp hs j j 1 (by decide)]
      refine ⟨hl.1, hl.2.2.1, fun d0 => SpL.mono (sp_twiceOf hl hi jl) ?_, fun d0 => no (fun q => d0 q.1)⟩
      rintro _ _ ⟨rfl, rfl⟩
      rw [hl.2.1, f5, pcmp2 hs i j 5 (by decide)]
      refine ⟨hl.1, hl.2.2.1, fun d1 => ?_, fun d1 => no (fun q => d1 q.2)⟩
      exact two j _ jl ⟨d0, d1⟩ rfl (ih (j + 1) (by omega) (by omega)) _ 0 rfl (Nat.zero_le _)
  exact v_Cell_countKeepingWith _ _ _ _ (one _ 0 rfl (Nat.zero_le _))
theorem LowAt.wi {h : MH} {x i : Nat} {v : S6} {y : Int32} (l : LowAt h x v) : LowAt (wi h x i y) x v := by
  unfold LowAt
  rw [kd_wi, mr_wi, ml_wi]
  exact l
theorem sp_countKeeping {h : MH} {x : Nat} {v : S6} (hl : LowAt h x v) (hs : S6b v) (hk : mi h x 5 = -1 ∨ mi h x 5 = nI (symN v)) : SpI k_Cell_countKeeping [.ref x] h (fun r g => r = nI (symN v) ∧ (g = h ∨ g = wi h x 5 (nI (symN v))) ∧ mi g x 5 = nI (symN v)) := by
  have eN := LI_N v
  generalize symN v = N at *
  have t27 : (27 : Int32).toInt = 27 := rfl
  have w2 : ∀ y z : Int32, wi (wi h x 5 y) x 5 z = wi h x 5 z := fun y z => by
    unfold wi
    show (hn h, kd h, ln h, up2 (up2 (mi h) x 5 y) x 5 z, ml h, mr h) = (hn h, kd h, ln h, up2 (mi h) x 5 z, ml h, mr h)
    have : up2 (up2 (mi h) x 5 y) x 5 z = up2 (mi h) x 5 z := by
      funext a j
      by_cases e : a = x
      · subst e
        by_cases e : j = 5
        · subst e; rw [up2_s, up2_s]
        · rw [up2_ni e, up2_ni e, up2_ni e]
      · rw [up2_ne e, up2_ne e, up2_ne e]
    rw [this]
  have main : ∀ d i, 27 - i = d → i ≤ 27 → WM k_Cell_countKeeping p_Cell_countKeeping_1 [.ref x, .int (nI i)] [] (wi h x 5 (nI (LI v i).length)) 0 0 (fun w g => ∃ r, w = .int r ∧ r = nI (N) ∧ (g = h ∨ g = wi h x 5 (nI (N))) ∧ mi g x 5 = nI (N)) := by
    intro d
    induction d with
    | zero =>
      intro i hd hi
      have e : i = 27 := by omega
      subst e
      have lw := hl.wi (i := 5) (y := nI (LI v 27).length)
      refine v_Cell_countKeeping_1 _ _ _ _ ⟨fun q => absurd q (by decide), fun _ => ⟨lw.1, ?_⟩⟩
      rw [← eN]
      have e5 : mi (wi h x 5 (nI (N))) x 5 = nI (N) := by rw [mi_wi, up2_s]
      rw [e5]
      exact ⟨_, rfl, rfl, Or.inr rfl, rfl⟩
    | succ d ih =>
      intro i hd hi
      have il : i < 27 := by omega
      have lw := hl.wi (i := 5) (y := nI (LI v i).length)
      have e5 : mi (wi h x 5 (nI (LI v i).length)) x 5 = nI (LI v i).length := by rw [mi_wi, up2_s]
      have f0 : ml (wi h x 5 (nI (LI v i).length)) (x + 2) 0 = zL (nth6 v 0) := lw.2.2.2.1
      refine v_Cell_countKeeping_1 _ _ _ _ ⟨fun _ => ⟨lw.1, low_sq (Rt := fun _ _ => True) lw il ?_⟩, fun q => absurd (by rw [nI_toI (by omega), t27]; omega) q⟩
      rw [lw.2.1, f0, pcmp hs i i 0 (by decide), e5]
      refine ⟨lw.1, lw.2.2.1, fun d0 => SpI.mono (sp_countKeepingWith lw hs il) ?_, fun d0 => ?_⟩
      · rintro _ _ ⟨rfl, rfl⟩
        refine ⟨lw.1, ?_⟩
        rintro _ rfl
        rw [w2, nI_add, nI_1, show (LI v i).length + (LJ v i 27).length = (LI v (i + 1)).length from (gL_y (show C1 v i from d0)).symm]
        exact ih (i + 1) (by omega) (by omega)
      · rw [nI_1, show (LI v i).length = (LI v (i + 1)).length from (gL_n (show ¬ C1 v i from d0)).symm]
        exact ih (i + 1) (by omega) (by omega)
  refine v_Cell_countKeeping _ _ _ ⟨hl.1, fun _ => ?_, fun q => ?_⟩
  · rintro _ rfl
    exact main _ 0 rfl (Nat.zero_le _)
  · have e := hk.resolve_left q
    exact ⟨_, rfl, e, Or.inl rfl, e⟩
theorem fo_number {h : MH} {a w : Nat} {v : S6} (hk : kd h a = 3) (ft : FoAt (ml h) a (db v)) (hs : S6b v) (hw : w < 6) : SpL k_Form_number [.ref a, .int (nI w)] h (fun r g => g = h ∧ r = zL (nth6 v w)) := by
  have hv : ∀ q, q < 6 → zL (2 * nth6 v q) / (2 : Int64) = zL (nth6 v q) := fun q hq => by
    have el := (hs q hq).lo
    have eh := (hs q hq).hi
    exact zL_half (by omega) (by omega)
  have f0 : ml h a 0 = zL (nth6 v 0) := ft.1
  have f1 : ml h a 1 = zL (nth6 v 1) := ft.2.1
  have f2 : ml h a 2 = zL (nth6 v 2) := ft.2.2.1
  have f3 : ml h a 3 = zL (2 * nth6 v 3) := ft.2.2.2.1
  have f4 : ml h a 4 = zL (2 * nth6 v 4) := ft.2.2.2.2.1
  have f5 : ml h a 5 = zL (2 * nth6 v 5) := ft.2.2.2.2.2
  refine v_Form_number _ _ _ _ ?_
  rw [f0, f1, f2, f3, f4, f5, hv 3 (by decide), hv 4 (by decide), hv 5 (by decide)]
  have : w = 0 ∨ w = 1 ∨ w = 2 ∨ w = 3 ∨ w = 4 ∨ w = 5 := by omega
  rcases this with rfl | rfl | rfl | rfl | rfl | rfl
  · exact ⟨fun _ => ⟨hk, _, rfl, rfl, rfl⟩, fun q => absurd rfl q⟩
  · exact ⟨fun q => absurd q (by decide), fun _ => ⟨fun _ => ⟨hk, _, rfl, rfl, rfl⟩, fun q => absurd rfl q⟩⟩
  · exact ⟨fun q => absurd q (by decide), fun _ => ⟨fun q => absurd q (by decide), fun _ => ⟨fun _ => ⟨hk, _, rfl, rfl, rfl⟩, fun q => absurd rfl q⟩⟩⟩
  · exact ⟨fun q => absurd q (by decide), fun _ => ⟨fun q => absurd q (by decide), fun _ => ⟨fun q => absurd q (by decide), fun _ => ⟨fun _ => ⟨hk, _, rfl, rfl, rfl⟩, fun q => absurd rfl q⟩⟩⟩⟩
  · exact ⟨fun q => absurd q (by decide), fun _ => ⟨fun q => absurd q (by decide), fun _ => ⟨fun q => absurd q (by decide), fun _ => ⟨fun q => absurd q (by decide), fun _ => ⟨fun _ => ⟨hk, _, rfl, rfl, rfl⟩, fun q => absurd rfl q⟩⟩⟩⟩⟩
  · exact ⟨fun q => absurd q (by decide), fun _ => ⟨fun q => absurd q (by decide), fun _ => ⟨fun q => absurd q (by decide), fun _ => ⟨fun q => absurd q (by decide), fun _ => ⟨fun q => absurd q (by decide), fun _ => ⟨fun _ => ⟨hk, _, rfl, rfl, rfl⟩, fun q => absurd rfl q⟩⟩⟩⟩⟩⟩
theorem fo_det {h : MH} {a : Nat} {v : S6} (hk : kd h a = 3) (ft : FoAt (ml h) a (db v)) (hs : S6b v) : SpL k_Form_determinant [.ref a] h (fun r g => g = h ∧ r = zL (det6 (nth6 v 0) (nth6 v 1) (nth6 v 2) (nth6 v 3) (nth6 v 4) (nth6 v 5))) := by
  have hv : ∀ q, q < 6 → zL (2 * nth6 v q) / (2 : Int64) = zL (nth6 v q) := fun q hq => by
    have el := (hs q hq).lo
    have eh := (hs q hq).hi
    exact zL_half (by omega) (by omega)
  have f0 : ml h a 0 = zL (nth6 v 0) := ft.1
  have f1 : ml h a 1 = zL (nth6 v 1) := ft.2.1
  have f2 : ml h a 2 = zL (nth6 v 2) := ft.2.2.1
  have f3 : ml h a 3 = zL (2 * nth6 v 3) := ft.2.2.2.1
  have f4 : ml h a 4 = zL (2 * nth6 v 4) := ft.2.2.2.2.1
  have f5 : ml h a 5 = zL (2 * nth6 v 5) := ft.2.2.2.2.2
  refine v_Form_determinant _ _ _ ⟨hk, ?_⟩
  rw [f0, f1, f2, f3, f4, f5, hv 3 (by decide), hv 4 (by decide), hv 5 (by decide)]
  refine v_Form_determinantOf _ _ _ _ _ _ _ _ ⟨_, rfl, _, rfl, rfl, ?_⟩
  simp only [zL_mul, zL_sub, zL_add]
  rfl
/-- where the count of one cell is kept, all cells stand -/
theorem HCel.own {h k : MH} {O : Nat → Nat} {CS : List S6} {i n : Nat} {u : S6} (H : SS h) (b : HCel h O CS) (hi : i < CS.length) (rd : Red n (db (CS.getD i z6)) u) (e : k = h ∨ k = wi h (mr h 43 i) 5 (nI (symN (hf u)))) : HCel k O CS ∧ Kp [mr h 43 i] h k := by
  rcases e with e | e
  · subst e; exact ⟨b, Kp.refl H⟩
  have h99 := H.1
  have c : Kp [mr h 43 i] h k := by rw [e]; exact (Kp.refl H).wi (Or.inl List.mem_cons_self)
  obtain ⟨_, bi, _⟩ := b.2.2 i hi
  have x99 := bi.1.1
  have ox := bi.1.2.2 0 (by decide)
  rw [Nat.add_zero] at ox
  have n43 : 43 ∉ [mr h 43 i] := fun q => by have := List.mem_singleton.mp q; omega
  have n5 : 5 ∉ [mr h 43 i] := fun q => by have := List.mem_singleton.mp q; omega
  have e43 := c.r (x := 43) (by omega) n43
  refine ⟨⟨b.1, by rw [c.i (by omega) n5]; exact b.2.1, fun j hj => ?_⟩, c⟩
  obtain ⟨g1, g2, g3⟩ := b.2.2 j hj
  rw [e43]
  by_cases ej : j = i
  · subst ej
    refine ⟨g1, ?_, ?_⟩
    · obtain ⟨⟨b1, b2, b3⟩, c', d', e1, n', u', rd', e3, e4⟩ := g2
      have eu := (rd.fn rd').2
      subst eu
      subst e
      refine ⟨⟨b1, by rw [hn_wi]; exact b2, b3⟩, by rw [kd_wi, mr_wi]; exact c', by rw [kd_wi, ln_wi]; exact d', by rw [ml_wi]; exact e1, n', u, rd', by rw [ml_wi]; exact e3, Or.inr (by rw [mi_wi, up2_s])⟩
    · subst e
      unfold CelC
      rw [mr_wi, hn_wi, kd_wi, ln_wi, ml_wi, mi_wi, up2_row (by omega)]
      exact g3
  · have hA : ∀ a ∈ [mr h 43 i], a < 99 ∨ O a ≠ 60 + j := fun a ha => by
      right; rw [List.mem_singleton.mp ha, ox]; omega
    exact ⟨g1, g2.kp c hA (fun _ _ => rfl), g3.kp g2 c hA (fun _ _ => rfl)⟩
theorem sp_Ho_reduced {h : MH} {O : Nat → Nat} {CS : List S6} (H : SS h) (hc : HCel h O CS) (x w : Int32) : SpL k_Ho_reduced [.ref 5, .int x, .int w] h (fun r g => RdA CS x w r ∧ StpO h g O O [] (fun t => 60 ≤ t ∧ t < 100) ∧ HCel g O CS) := by
  have hl := hc.1
  have t6 : (6 : Int32) = nI 6 := rfl
  have t7 : (7 : Int32) = nI 7 := rfl
  have t7' : (7 : Int32).toInt = 7 := rfl
  refine v_Ho_reduced _ _ _ _ _ ⟨H.k5, SpR.mono (sp_Ho_cellAt H hc x) ?_⟩
  rintro r1 k ⟨rfl, ⟨j, hj, rfl, rfl, r0⟩ | ⟨no, rfl⟩⟩
  rotate_left
  · exact ⟨fun _ => ⟨_, rfl, Or.inr ⟨rd_no1 hl no, rfl⟩, StpO.refl H, hc⟩, fun q => absurd rfl q⟩
  rw [t7']
  refine ⟨fun q => absurd q r0, fun _ => ⟨fun c => ⟨_, rfl, Or.inr ⟨rd_no2 (by omega), rfl⟩, StpO.refl H, hc⟩, fun c1 => ⟨fun c => ⟨_, rfl, Or.inr ⟨rd_no2 (by omega), rfl⟩, StpO.refl H, hc⟩, fun c2 => ?_⟩⟩⟩
  obtain ⟨v, rfl, hv⟩ := op_x (n := 8) c1 (by omega) (by decide)
  obtain ⟨oks, cb, cc⟩ := hc.2.2 j hj
  have cb0 := cb
  obtain ⟨⟨b1, b2, b3⟩, ⟨e1, e2, e3, e4, e5, e6⟩, ⟨d1, d2, d3, d4, d5, d6, d7⟩, ft, n, u, rd, fu, sym⟩ := cb
  have kk := rd.k oks.OK.1
  have ev := kk.2.2.1 (Ev_db _)
  have hs : S6b (hf u) := hf_ab kk.1 (by have := oks.OK.2; omega)
  have fu' : FoAt (ml k) (mr k 43 j + 2) (db (hf u)) := by rw [db_hf ev]; exact fu
  have low : LowAt k (mr k 43 j) (hf u) := ⟨e1, e3, d2, fu'⟩
  refine ⟨fun e => ⟨e1, SpI.mono (sp_countKeeping low hs sym) ?_⟩, fun n6 => ⟨fun e => ⟨e1, ?_⟩, fun n7 => ⟨e1, ?_⟩⟩⟩
  · have ev6 : v = 6 := (nI_inj (by omega) (by omega)).mp (e.trans t6)
    rintro r g ⟨rfl, eg, _⟩
    have q := HCel.own H hc hj rd eg
    have sl := symK_le (hf u) 19683
    refine ⟨_, rfl, Or.inl ⟨j, v, hj, hv, rfl, rfl, n, u, rd, ?_⟩, ⟨_, q.2, fun a ha => Or.inr ?_, fun _ _ => rfl⟩, q.1⟩
    · unfold rdV
      rw [if_neg (by omega), if_pos ev6, i2l_z, symK_N, nI_toI (by omega)]
    · have o0 := b3 0 (by decide)
      rw [Nat.add_zero] at o0
      rw [List.mem_singleton.mp ha, o0]
      exact ⟨b1, by omega, by omega⟩
  · have ev7 : v = 7 := (nI_inj (by omega) (by omega)).mp (e.trans t7)
    rw [e2]
    refine ⟨d1, SpL.mono (fo_det d1 ft oks.b) ?_⟩
    rintro _ _ ⟨rfl, rfl⟩
    refine ⟨_, rfl, Or.inl ⟨j, v, hj, hv, rfl, rfl, n, u, rd, ?_⟩, StpO.refl H, hc⟩
    unfold rdV
    rw [if_neg (by omega), if_neg (by omega)]
  · have n6' : v ≠ 6 := fun q => n6 (by rw [q]; rfl)
    have n7' : v ≠ 7 := fun q => n7 (by rw [q]; rfl)
    rw [e3]
    refine ⟨d2, SpL.mono (fo_number d2 fu' hs (by omega)) ?_⟩
    rintro _ _ ⟨rfl, rfl⟩
    refine ⟨_, rfl, Or.inl ⟨j, v, hj, hv, rfl, rfl, n, u, rd, ?_⟩, StpO.refl H, hc⟩
    unfold rdV
    rw [if_pos (by omega)]
