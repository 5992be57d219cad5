/-! the class's halves -/
theorem si_SS {h : MH} {f : (Nat → Nat → Int32)} (H : SS h) : si h f = sil h f (ml h) := by
  unfold si sil
  rw [sK_eq H, sL_eq H, sR_eq H]
theorem mo_sq : ∀ a ∈ 42 :: MoIds, a ∈ SqIds := by decide
def SdQ (h : MH) (O : Nat → Nat) (t g : Nat) (S : List Nat) (r : Nat) (k : MH) (O' : Nat → Nat) (b : Nat) (s : Nat → Nat) : Prop := (Kp (g :: SqIds) h k ∧ (∀ a, a < hn h → O' a = O a) ∧ r = mr k g 3) ∧ (99 ≤ r ∧ r < hn k ∧ O' r = t ∧ kd k r = 20 ∧ ln k r = S.length) ∧ mi k g 4 = nI b ∧ (∀ j, j < S.length → mi k r j = nI (s j)) ∧ SidesOK S b s ∧ (∀ j, j ≠ 4 → mi k g j = mi h g j) ∧ (∀ j, j ≠ 3 → mr k g j = mr h g j) ∧ ml k g = ml h g
def SdP (h : MH) (O : Nat → Nat) (t g : Nat) (S : List Nat) (r : Nat) (k : MH) : Prop := ∃ O' b s, SdQ h O t g S r k O' b s
theorem sp_Ho_sidesOf {h : MH} {O : Nat → Nat} {t g : Nat} {S MK : List Nat} (H : SS h) (ok : GOk S) (b : GrpB h O t g S MK) (c : GrpC h O t g S) : SpR k_Ho_sidesOf [.ref 5, .ref g] h (fun r k => SdP h O t g S r k) := by
  have w := ok.2.1
  have g99 := b.1.1
  have g3 := b.1.2.1
  refine v_Ho_sidesOf _ _ _ _ ⟨b.2.1.1, fun q0 => ?_, fun q1 => ?_⟩
  rotate_left
  · rcases c.2 with q | ⟨bb, s, c1, c2, c3, c4⟩
    · exact absurd q q1
    · exact ⟨_, rfl, O, bb, s, ⟨Kp.refl H, fun _ _ => rfl, rfl⟩, c1, c2, c3, c4, fun _ _ => rfl, fun _ _ => rfl, rfl⟩
  rw [b.2.1.2.1, b.2.2.1.2.2, nI_toI (by omega), ix_nI (by omega)]
  refine ⟨b.2.2.1.1, by omega, gd_t (by omega) ?_⟩
  rintro _ rfl
  have c1 : Kp [] h (nw h 20 S.length) := (Kp.refl H).nw
  have S1 := c1.1
  have kR : kd (nw h 20 S.length) (hn h) = 20 := kd_new
  have lR : ln (nw h 20 S.length) (hn h) = S.length := ln_new
  have hnR : hn (nw h 20 S.length) = hn h + 1 := hn_nw
  generalize nw h 20 S.length = h1 at *
  have e1 := S1.sil
  have b1 : GrpB (sil h1 (mi h1) (ml h1)) O t g S MK := by
    rw [← e1]; exact b.kp c1 (fun a ha => absurd ha List.not_mem_nil) (fun _ _ => rfl)
  refine gd_t (by omega) (SpV.mono (sp_fillI (hn h) (-1) kR (by omega)) ?_)
  rintro _ ⟨f1, rfl, o1, z1, -⟩
  rw [si_SS S1]
  have fr1 : Fr [hn h] (mi h1) f1 := fun a ha => o1 a (fun e => ha (List.mem_singleton.mpr e))
  have hr : g + 3 < hn h := g3
  have h99 : 99 ≤ hn h := by omega
  have arr : ∀ f : (Nat → Nat → Int32), Arr (sil h1 f (ml h1)) (hn h) S.length := fun f => ⟨h99, by show hn h < hn h1; omega, by rw [kd_sil S1]; exact kR, by rw [ln_sil S1]; exact lR⟩
  refine ⟨Kd5, gd_t (by omega) (SpI.mono (sp_Ho_beginWithSquares ok (b1.fr (l' := ml h1) fr1 hr (fun a ha => absurd ha List.not_mem_nil)) (arr f1) hr (fun j hj => z1 j (by rw [lR]; exact hj))) ?_)⟩
  rintro x _ ⟨f2, V, rfl, fr2, nd, mem, qa, rfl⟩
  have fr2' : Fr (hn h :: SqIds) (mi h1) f2 := (fr1.mono (fun a ha => by rw [List.mem_singleton.mp ha]; exact List.mem_cons_self)).trans fr2
  have main : ∀ d i (f3 : (Nat → Nat → Int32)) (V : List Nat) (s : Nat → Nat) (bb : Nat), S.length - i = d → i ≤ S.length → Fr (hn h :: SqIds) (mi h1) f3 → SdI S V s bb → QsAt f3 (hn h) S.length V s → (∀ j, j < i → j ∈ V) →
      WM k_Ho_sidesOf p_Ho_sidesOf_1 [.ref 5, .ref g, .ref (hn h), .int (nI V.length), .int (nI bb), .int (nI i)] [] (sil h1 f3 (ml h1)) 1 (0 + S.length + 0 + 0) (fun v k => ∃ r, v = .ref r ∧ SdP h O t g S r k) := by
    intro d
    induction d with
    | zero =>
      intro i f3 V s bb hd hi fr sd qa al
      have b3 := b1.fr (l' := ml h1) fr hr sq_99
      refine v_Ho_sidesOf_1 _ _ _ _ _ _ _ _ _ _ ⟨b3.2.1.1, ?_⟩
      rw [b3.2.1.2.1, b3.2.2.1.2.2, nI_toI (by omega), nI_toI (by omega)]
      refine ⟨b3.2.2.1.1, fun q => absurd q (by omega), fun _ => ?_⟩
      rintro _ rfl _ rfl
      refine gd_t (by decide) (gd_t (by omega) ⟨_, rfl, ?_⟩)
      have all : ∀ j, j < S.length → j ∈ V := fun j hj => al j (by omega)
      have k0 : Kp (g :: SqIds) h (sil h1 f3 (ml h1)) := by
        refine ⟨SS_sil S1, by show hn h ≤ hn h1; omega, fun x hx => ?_⟩
        have q := c1.2.2 x hx
        rw [kd_sil S1, ln_sil S1, mr_sil S1, mi_sil, ml_sil]
        refine ⟨q.1, q.2.1, fun nA => ⟨(fr x (fun w => ?_)).trans (q.2.2 List.not_mem_nil).1, (q.2.2 List.not_mem_nil).2⟩⟩
        rcases List.mem_cons.mp w with e | e
        · omega
        · exact nA (List.mem_cons_of_mem _ e)
      have k1 := (k0.wr (a := g) (i := 3) (x := hn h) (Or.inl List.mem_cons_self) (Or.inl g99)).wi (a := g) (i := 4) (x := nI bb) (Or.inl List.mem_cons_self)
      have gl : g < hn h := by omega
      have ng : g ∉ hn h :: SqIds := fun w => by
        rcases List.mem_cons.mp w with e | e
        · omega
        · have := sq_99 g e; omega
      have q := c1.2.2 g gl
      have eg : f3 g = mi h g := (fr g ng).trans (q.2.2 List.not_mem_nil).1
      have er : mr (sil h1 f3 (ml h1)) g = mr h g := by rw [mr_sil S1]; exact (q.2.2 List.not_mem_nil).2.2
      refine ⟨fun a => if a = hn h then t else O a, bb, s, ⟨k1, fun a ha => if_neg (by omega), ?_⟩, ⟨h99, ?_, if_pos rfl, ?_, ?_⟩, ?_, fun j hj => ?_, sd.end ok all, fun j hj => ?_, fun j hj => ?_, ?_⟩
      · rw [mr_wi, mr_wr, up2_s]
      · rw [hn_wi, hn_wr]; show hn h < hn h1; omega
      · rw [kd_wi, kd_wr, kd_sil S1]; exact kR
      · rw [ln_wi, ln_wr, ln_sil S1]; exact lR
      · rw [mi_wi, up2_s]
      · rw [mi_wi, up2_ne (by omega), mi_wr, mi_sil]; exact qa.2.1 j (all j hj)
      · rw [mi_wi, up2_ni hj, mi_wr, mi_sil, eg]
      · rw [mr_wi, mr_wr, up2_ni hj, er]
      · rw [ml_wi, ml_wr, ml_sil]; exact (q.2.2 List.not_mem_nil).2.1
    | succ d ih =>
      intro i f3 V s bb hd hi fr sd qa al
      have il : i < S.length := by omega
      have b3 := b1.fr (l' := ml h1) fr hr sq_99
      have ar := arr f3
      refine v_Ho_sidesOf_1 _ _ _ _ _ _ _ _ _ _ ⟨b3.2.1.1, ?_⟩
      rw [b3.2.1.2.1, b3.2.2.1.2.2, nI_toI (by omega), nI_toI (by omega), ix_nI (by omega), ar.2.2.2, mi_sil]
      simp only [nI_1]
      refine ⟨b3.2.2.1.1, fun _ => ⟨ar.2.2.1, InB_nI il (by omega), fun q0 => ⟨Kd5, gd_t (by decide) (gd_t (by omega) ?_)⟩, fun q1 => ?_⟩, fun q => absurd (by omega) q⟩
      · have ni : i ∉ V := fun q => by
          have e := qa.2.1 i q
          have b7 := sd_b7 (b := bb) (by have := sd.1.2.2; have := qlen V sd.1.1 sd.1.2.1; omega)
          have p7 := Nat.pow_le_pow_right (show 0 < 2 by decide) b7
          have sb := sd.2.2.2.2.1 i q
          rw [e] at q0
          have e := congrArg Int32.toInt q0
          rw [nI_toI (by omega), l_m1] at e
          omega
        refine SpI.mono (sp_Ho_spread ok b3 ar hr sd qa il ni al) ?_
        rintro x _ ⟨f4, V', s', rfl, fr4, sd', qa', sub, i0, rfl⟩
        have sub2 : ∀ a ∈ hn h :: 42 :: MoIds, a ∈ hn h :: SqIds := fun a ha => by
          rcases List.mem_cons.mp ha with e | e
          · rw [e]; exact List.mem_cons_self
          · exact List.mem_cons_of_mem _ (mo_sq a e)
        refine ih (i + 1) f4 V' s' (bb + 1) (by omega) (by omega) (fr.trans (fr4.mono sub2)) sd' qa' (fun j hj => ?_)
        by_cases e : j = i
        · rw [e]; exact i0
        · exact sub j (al j (by omega))
      · have yi : i ∈ V := Classical.byContradiction fun n => q1 (qa.2.2 i il n)
        refine ih (i + 1) f3 V s bb (by omega) (by omega) fr sd qa (fun j hj => ?_)
        by_cases e : j = i
        · rw [e]; exact yi
        · exact al j (by omega)
  exact main _ 0 f2 V (fun _ => 0) 0 rfl (Nat.zero_le _) fr2' (SdI.beg ok nd mem) qa (fun j hj => absurd hj (Nat.not_lt_zero j))
