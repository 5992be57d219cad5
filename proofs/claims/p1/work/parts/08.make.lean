/-! making cells, copying, static tables -/
theorem fv_new {G : WG} {h : MH} {c q j : Nat} (hc : c < 13) (hj : j < cN c) : defaultValue (cTy c j) = fv G (nw h q 0) c (hn h) j := by
  have e1 : mi (nw h q 0) (hn h) j = 0 := if_pos rfl
  have e2 : ml (nw h q 0) (hn h) j = 0 := if_pos rfl
  have e3 : mr (nw h q 0) (hn h) j = 0 := if_pos rfl
  unfold fv
  rw [e1, e2, e3]
  by_cases h2 : fK c j = 2
  · have h1 := cTy_ref c hc j hj h2
    rw [h2]
    split at h1
    · rename_i e; rw [e]; rfl
    · rename_i e; rw [e]; rfl
    · cases h1
  · have h3 : cTy c j = .int ∨ cTy c j = .long := by
      unfold fK fKof at h2
      split at h2
      · rename_i e; exact Or.inl e
      · rename_i e; exact Or.inr e
      · exact absurd rfl h2
    unfold fK
    rcases h3 with e | e <;> rw [e] <;> rfl
section SA
variable {k pc : Nat} {pcs : Nat → Nat}
theorem s_new {c0 n idx mc ms : Nat} (hc : c0 < 13) (hn : cN c0 = n) (hw : Cond.classLink (yM k).cls idx (cNm c0) ∈ wsG) (h1 : mc ≤ mcM k) (h2 : ms ≤ msM k) (hd : decode (bM k) pc = .ok (.new idx, 3)) : Snd k pcs pc (pc + 3) (S_new (c0 + 1) n mc ms) := by
  intro L st h cc ss nx jp Rt hs hN hJ p l e R s m args below meth c Q G H locs ls X F r o lr
  unfold S_new at hs
  have hs := gd_iff.mp hs
  have hs2 := gd_iff.mp hs.2
  subst hn
  obtain ⟨hS, hfc, kC, hkC, hkind⟩ := X.2.2.2.2.2.2.1.1 c0 hc
  have hKn := X.2.2.2.2.2.2.1.1 c0 hc
  refine W.newcK X.1 X.2.1 X.2.2.2.1 (X.2.2.2.2.1 _ hw) (X.2.2.2.2.1 _ (cI c0 hc).1) (X.2.2.2.2.1 _ (cI c0 hc).2) rfl hd (Nat.le_trans hs.1 (Nat.le_trans h1 X.2.2.2.2.2.1.2.2.1)) (Nat.le_trans hs2.1 (Nat.le_trans h2 X.2.2.2.2.2.1.2.2.2)) hfc rfl fun H' kC' hkC' e1 z1 o1 => ?_
  have r' : RP G (nw h (c0 + 1) 0) s H' := by
    refine r.new (by omega) z1 o1 ⟨fun c' hc' e => ?_, fun e => ?_, fun q q1 q2 e => ?_⟩
    · have ek : kd (nw h (c0 + 1) 0) (hn h) = c0 + 1 := if_pos rfl
      rw [ek] at e
      have : c' = c0 := by omega
      subst this
      rw [← ad_new r] at e1
      exact (u_born (cTy c') X.2.2.2.2.1 (cL c' hc) hKn hkC' e1 (cP c' hc)).to (fun j hj => fv_new hc hj)
    · have ek : kd (nw h (c0 + 1) 0) (hn h) = c0 + 1 := if_pos rfl
      rw [ek] at e
      omega
    · have ek : kd (nw h (c0 + 1) 0) (hn h) = c0 + 1 := if_pos rfl
      rw [ek] at e
      omega
  have w := (hN _ _ _ _ _ hs2.2 p l e R s m args below meth c Q G H' locs ls X F r' o lr)
  rw [List.map_cons, em_n (by have := r.1.1; omega), ad_new r] at w
  exact w
theorem RP.newArr {G : WG} {h : MH} {s : State} {H H' : Heap} {q n : Nat} {cell : Cell} (r : RP G h s H) (q1 : 20 ≤ q) (q2 : q ≤ 28) (hz : H'.size = H.size + 1) (ho : ∀ x, x < H.size → H'[x]? = H[x]?) (e1 : H'[H.size]? = some cell) (c1 : cell.cls = gA G q) (c2 : cell.vm = .none) (c3 : cell.slots.size = n) (c4 : ∀ j, j < n → cell.slots[j]? = some (defaultValue (aTy q))) : RP G (nw h q n) s H' := by
  have ek : kd (nw h q n) (hn h) = q := if_pos rfl
  have el : ln (nw h q n) (hn h) = n := if_pos rfl
  refine r.new (by omega) hz ho ⟨fun c' hc' e => ?_, fun e => ?_, fun q' q1' q2' e => ?_⟩
  · rw [ek] at e
    omega
  · rw [ek] at e
    omega
  · rw [ek] at e
    subst e
    rw [el]
    refine ⟨cell, by rw [ad_new r]; exact e1, c1, c2, c3, fun j hj => ?_⟩
    rw [c4 j hj]
    have e1 : mi (nw h q n) (hn h) j = 0 := if_pos rfl
    have e2 : ml (nw h q n) (hn h) j = 0 := if_pos rfl
    have e3 : mr (nw h q n) (hn h) j = 0 := if_pos rfl
    unfold av
    rw [e1, e2, e3]
    have : q = 20 ∨ q = 21 ∨ q = 22 ∨ q = 23 ∨ q = 24 ∨ q = 25 ∨ q = 26 ∨ q = 27 ∨ q = 28 := by omega
    rcases this with rfl | rfl | rfl | rfl | rfl | rfl | rfl | rfl | rfl <;> rfl
theorem clamp_lt {n : Int32} (h : 0 ≤ n.toInt) : ¬ n < 0 := fun q => by
  have := Int32.lt_iff_toInt_lt.mp q
  have e : (0 : Int32).toInt = 0 := rfl
  omega
theorem s_na20 {mc ms : Nat} (h1 : mc ≤ mcM k) (h2 : ms ≤ msM k) (h3 : ms ≤ 10000000) (hd : decode (bM k) pc = .ok (.newarray .int, 2)) : Snd k pcs pc (pc + 2) (S_na 20 mc ms) := by
  intro L st h cc ss nx jp Rt hs hN hJ p l e R s m args below meth c Q G H locs ls X F r o lr
  unfold S_na at hs
  split at hs
  · rename_i n rr
    obtain ⟨h0, hs⟩ := hs
    have hs := gd_iff.mp hs
    have hs2 := gd_iff.mp hs.2
    refine va_newaK (atype := .int) X.1 X.2.1 (X.2.2.2.2.1 _ ac_int) rfl hd rfl (clamp_lt h0) (N := ix n) rfl (by have := hs2.1; show ix n * 4 ≤ _; omega) (Nat.le_trans hs.1 (Nat.le_trans h1 X.2.2.2.2.2.1.2.2.1)) (Nat.le_trans hs2.1 (Nat.le_trans h2 X.2.2.2.2.2.1.2.2.2)) rfl fun H' cA e1 z1 o1 hAr hNm => ?_
    obtain ⟨kA, comp, a1, a2, a3, -⟩ := X.2.2.2.2.2.2.1.2.1 20 (by decide) (by decide)
    have hcA : cA = gA G 20 := Option.some.inj (hNm.symm.trans a3)
    have r' : RP G (nw h 20 (ix n)) s H' := r.newArr (by decide) (by decide) z1 o1 e1 hcA rfl (arrV_size _ _ _) (fun j hj => arrV_read _ _ hj)
    have w := (hN _ _ _ _ _ hs2.2 p l e R s m args below meth c Q G H' locs ls X F r' o lr)
    rw [List.map_cons, em_n (by have := r.1.1; omega), ad_new r] at w
    exact w
  · exact hs.elim
theorem s_na21 {mc ms : Nat} (h1 : mc ≤ mcM k) (h2 : ms ≤ msM k) (h3 : ms ≤ 10000000) (hd : decode (bM k) pc = .ok (.newarray .long, 2)) : Snd k pcs pc (pc + 2) (S_na 21 mc ms) := by
  intro L st h cc ss nx jp Rt hs hN hJ p l e R s m args below meth c Q G H locs ls X F r o lr
  unfold S_na at hs
  split at hs
  · rename_i n rr
    obtain ⟨h0, hs⟩ := hs
    have hs := gd_iff.mp hs
    have hs2 := gd_iff.mp hs.2
    refine va_newaK (atype := .long) X.1 X.2.1 (X.2.2.2.2.1 _ ac_long) rfl hd rfl (clamp_lt h0) (N := ix n) rfl (by have := hs2.1; show ix n * 8 ≤ _; omega) (Nat.le_trans hs.1 (Nat.le_trans h1 X.2.2.2.2.2.1.2.2.1)) (Nat.le_trans hs2.1 (Nat.le_trans h2 X.2.2.2.2.2.1.2.2.2)) rfl fun H' cA e1 z1 o1 hAr hNm => ?_
    obtain ⟨kA, comp, a1, a2, a3, -⟩ := X.2.2.2.2.2.2.1.2.1 21 (by decide) (by decide)
    have hcA : cA = gA G 21 := Option.some.inj (hNm.symm.trans a3)
    have r' : RP G (nw h 21 (ix n)) s H' := r.newArr (by decide) (by decide) z1 o1 e1 hcA rfl (arrV_size _ _ _) (fun j hj => arrV_read _ _ hj)
    have w := (hN _ _ _ _ _ hs2.2 p l e R s m args below meth c Q G H' locs ls X F r' o lr)
    rw [List.map_cons, em_n (by have := r.1.1; omega), ad_new r] at w
    exact w
  · exact hs.elim
theorem s_na22 {mc ms : Nat} (h1 : mc ≤ mcM k) (h2 : ms ≤ msM k) (h3 : ms ≤ 10000000) (hd : decode (bM k) pc = .ok (.newarray .boolean, 2)) : Snd k pcs pc (pc + 2) (S_na 22 mc ms) := by
  intro L st h cc ss nx jp Rt hs hN hJ p l e R s m args below meth c Q G H locs ls X F r o lr
  unfold S_na at hs
  split at hs
  · rename_i n rr
    obtain ⟨h0, hs⟩ := hs
    have hs := gd_iff.mp hs
    have hs2 := gd_iff.mp hs.2
    refine va_newaK (atype := .boolean) X.1 X.2.1 (X.2.2.2.2.1 _ ac_boolean) rfl hd rfl (clamp_lt h0) (N := ix n) rfl (by have := hs2.1; show ix n * 1 ≤ _; omega) (Nat.le_trans hs.1 (Nat.le_trans h1 X.2.2.2.2.2.1.2.2.1)) (Nat.le_trans hs2.1 (Nat.le_trans h2 X.2.2.2.2.2.1.2.2.2)) rfl fun H' cA e1 z1 o1 hAr hNm => ?_
    obtain ⟨kA, comp, a1, a2, a3, -⟩ := X.2.2.2.2.2.2.1.2.1 22 (by decide) (by decide)
    have hcA : cA = gA G 22 := Option.some.inj (hNm.symm.trans a3)
    have r' : RP G (nw h 22 (ix n)) s H' := r.newArr (by decide) (by decide) z1 o1 e1 hcA rfl (arrV_size _ _ _) (fun j hj => arrV_read _ _ hj)
    have w := (hN _ _ _ _ _ hs2.2 p l e R s m args below meth c Q G H' locs ls X F r' o lr)
    rw [List.map_cons, em_n (by have := r.1.1; omega), ad_new r] at w
    exact w
  · exact hs.elim
theorem s_na23 {mc ms : Nat} (h1 : mc ≤ mcM k) (h2 : ms ≤ msM k) (h3 : ms ≤ 10000000) (hd : decode (bM k) pc = .ok (.newarray .char, 2)) : Snd k pcs pc (pc + 2) (S_na 23 mc ms) := by
  intro L st h cc ss nx jp Rt hs hN hJ p l e R s m args below meth c Q G H locs ls X F r o lr
  unfold S_na at hs
  split at hs
  · rename_i n rr
    obtain ⟨h0, hs⟩ := hs
    have hs := gd_iff.mp hs
    have hs2 := gd_iff.mp hs.2
    refine va_newaK (atype := .char) X.1 X.2.1 (X.2.2.2.2.1 _ ac_char) rfl hd rfl (clamp_lt h0) (N := ix n) rfl (by have := hs2.1; show ix n * 2 ≤ _; omega) (Nat.le_trans hs.1 (Nat.le_trans h1 X.2.2.2.2.2.1.2.2.1)) (Nat.le_trans hs2.1 (Nat.le_trans h2 X.2.2.2.2.2.1.2.2.2)) rfl fun H' cA e1 z1 o1 hAr hNm => ?_
    obtain ⟨kA, comp, a1, a2, a3, -⟩ := X.2.2.2.2.2.2.1.2.1 23 (by decide) (by decide)
    have hcA : cA = gA G 23 := Option.some.inj (hNm.symm.trans a3)
    have r' : RP G (nw h 23 (ix n)) s H' := r.newArr (by decide) (by decide) z1 o1 e1 hcA rfl (arrV_size _ _ _) (fun j hj => arrV_read _ _ hj)
    have w := (hN _ _ _ _ _ hs2.2 p l e R s m args below meth c Q G H' locs ls X F r' o lr)
    rw [List.map_cons, em_n (by have := r.1.1; omega), ad_new r] at w
    exact w
  · exact hs.elim
theorem s_anew {q idx mc ms : Nat} {C : String} (q1 : 24 ≤ q) (q2 : q ≤ 27) (hC : aTy q = .object C) (hw : Cond.classLink (yM k).cls idx C ∈ wsG) (h1 : mc ≤ mcM k) (h2 : ms ≤ msM k) (h3 : ms ≤ 10000000) (hd : decode (bM k) pc = .ok (.anewarray idx, 3)) : Snd k pcs pc (pc + 3) (S_na q mc ms) := by
  intro L st h cc ss nx jp Rt hs hN hJ p l e R s m args below meth c Q G H locs ls X F r o lr
  unfold S_na at hs
  split at hs
  · rename_i n rr
    obtain ⟨h0, hs⟩ := hs
    have hs := gd_iff.mp hs
    have hs2 := gd_iff.mp hs.2
    obtain ⟨kA, comp, a1, a2, a3, -⟩ := X.2.2.2.2.2.2.1.2.1 q (by omega) (by omega)
    have hov := X.2.2.2.2.2.2.1.2.2.2 q q1 (by omega)
    rw [hC] at hov a3
    refine W.anew (C := C) X.1 X.2.1 X.2.2.2.1 (X.2.2.2.2.1 _ hw) hov rfl hd rfl (clamp_lt h0) (by have := hs2.1; show ix n * 4 ≤ _; omega) (Nat.le_trans hs.1 (Nat.le_trans h1 X.2.2.2.2.2.1.2.2.1)) (Nat.le_trans hs2.1 (Nat.le_trans h2 X.2.2.2.2.2.1.2.2.2)) fun cA kA' comp' b1 b2 b3 b4 => ?_
    have hcA : cA = gA G q := Option.some.inj (b1.symm.trans a3)
    have r' : RP G (nw h q (ix n)) s (H.push { cls := cA, slots := Array.replicate (ix n) .null, vm := .none }) := r.newArr (cell := { cls := cA, slots := Array.replicate (ix n) .null, vm := .none }) (by omega) (by omega) (by simp) (fun x hx => by rw [Array.getElem?_push, if_neg (Nat.ne_of_lt hx)]) (by simp) hcA rfl (by simp) (fun j hj => by rw [hC]; simp [hj, defaultValue])
    have w := (hN _ _ _ _ _ hs2.2 p l e R s m args below meth c Q G _ locs ls X F r' o lr)
    rw [List.map_cons, em_n (by have := r.1.1; omega), ad_new r] at w
    exact w
  · exact hs.elim
theorem s_anewJ {idx mc ms : Nat} (hw : Cond.classLink (yM k).cls idx (FieldType.array .long).toString ∈ wsG) (h1 : mc ≤ mcM k) (h2 : ms ≤ msM k) (h3 : ms ≤ 10000000) (hd : decode (bM k) pc = .ok (.anewarray idx, 3)) : Snd k pcs pc (pc + 3) (S_na 28 mc ms) := by
  intro L st h cc ss nx jp Rt hs hN hJ p l e R s m args below meth c Q G H locs ls X F r o lr
  unfold S_na at hs
  split at hs
  · rename_i n rr
    obtain ⟨h0, hs⟩ := hs
    have hs := gd_iff.mp hs
    have hs2 := gd_iff.mp hs.2
    obtain ⟨kA, comp, a1, a2, a3, -⟩ := X.2.2.2.2.2.2.1.2.1 28 (by omega) (by omega)
    have hov := X.2.2.2.2.2.2.1.2.2.2 28 (by omega) (by omega)
    refine W.anewA (t := .long) X.1 X.2.1 X.2.2.2.1 (X.2.2.2.2.1 _ hw) hov rfl hd rfl (clamp_lt h0) (by have := hs2.1; show ix n * 4 ≤ _; omega) (Nat.le_trans hs.1 (Nat.le_trans h1 X.2.2.2.2.2.1.2.2.1)) (Nat.le_trans hs2.1 (Nat.le_trans h2 X.2.2.2.2.2.1.2.2.2)) fun cA kA' comp' b1 b2 b3 b4 => ?_
    have hcA : cA = gA G 28 := Option.some.inj (b1.symm.trans a3)
    have r' : RP G (nw h 28 (ix n)) s (H.push { cls := cA, slots := Array.replicate (ix n) .null, vm := .none }) := r.newArr (cell := { cls := cA, slots := Array.replicate (ix n) .null, vm := .none }) (by omega) (by omega) (by simp) (fun x hx => by rw [Array.getElem?_push, if_neg (Nat.ne_of_lt hx)]) (by simp) hcA rfl (by simp) (fun j hj => by simp [hj, defaultValue, aTy])
    have w := (hN _ _ _ _ _ hs2.2 p l e R s m args below meth c Q G _ locs ls X F r' o lr)
    rw [List.map_cons, em_n (by have := r.1.1; omega), ad_new r] at w
    exact w
  · exact hs.elim
theorem sp_slots : ∀ (xs : List Value) (i at_ : Nat) (cell : Cell) (j : Nat), j < cell.slots.size → (cell.storePairs at_ (xs.zipIdx i)).slots[j]? = if at_ + i ≤ j ∧ j < at_ + i + xs.length then some (xs.getD (j - (at_ + i)) .null) else cell.slots[j]?
  | [], i, at_, cl, j, hj => by
    rw [if_neg (by simp only [List.length_nil]; omega)]
    rfl
  | x :: xs, i, at_, cl, j, hj => by
    rw [List.zipIdx_cons]
    show ((cl.setSlot (at_ + i) x).storePairs at_ (xs.zipIdx (i + 1))).slots[j]? = _
    rw [sp_slots xs (i + 1) at_ (cl.setSlot (at_ + i) x) j (by simpa [Cell.setSlot] using hj)]
    by_cases hk : j = at_ + i
    · subst hk
      rw [if_neg (by omega), if_pos (by simp only [List.length_cons]; omega)]
      simp [Cell.setSlot, hj]
    · by_cases h : at_ + (i + 1) ≤ j ∧ j < at_ + (i + 1) + xs.length
      · rw [if_pos h, if_pos (by simp only [List.length_cons]; omega)]
        have e : j - (at_ + i) = (j - (at_ + (i + 1))) + 1 := by omega
        rw [e, List.getD_cons_succ]
      · rw [if_neg h, if_neg (by simp only [List.length_cons]; omega), slot_ne cl x (Ne.symm hk)]
theorem s_cpyi {idx : Nat} (hw : Cond.methodLink (yM k).cls idx arraycopyName ∈ wsG) (h1 : 1 ≤ frM k) (h2 : 26 ≤ loM k) (hd : decode (bM k) pc = .ok (.invokestatic idx, 3)) : Snd k pcs pc (pc + 3) S_cpyi := by
  intro L st h cc ss nx jp Rt hs hN hJ p l e R s m args below meth c Q G H locs ls X F r o lr
  unfold S_cpyi at hs
  split at hs
  · rename_i n dp d sp a rr
    have hs := gd_iff.mp hs
    obtain ⟨hg, hka, hkd, ⟨p1, p2, p3, p4, p5⟩, hs⟩ := hs
    obtain ⟨ca, a1, a2, a3, a4, a5⟩ := (r.2.2.1 a).2.2 20 (by decide) (by decide) hka
    obtain ⟨cd, d1, d2, d3, d4, d5⟩ := (r.2.2.1 d).2.2 20 (by decide) (by decide) hkd
    have ha0 : a ≠ 0 := r.nz (by omega)
    have hd0 : d ≠ 0 := r.nz (by omega)
    have hp := r.pos (a := d) (by omega) (by omega)
    obtain ⟨-, k0, hk0, cm0, hkk0⟩ := X.2.2.2.2.2.2.1.arr (k := 20) (by decide) (by decide) a2 a3
    obtain ⟨-, k1, hk1, cm1, hkk1⟩ := X.2.2.2.2.2.2.1.arr (k := 20) (by decide) (by decide) d2 d3
    have nn : ∀ z : Int32, 0 ≤ z.toInt → z.toInt = (ix z : Int) := fun z hz => by
      show z.toInt = ((z.toInt.toNat : Nat) : Int)
      omega
    have hsp := nn sp p1
    have hdp := nn dp p2
    have hnn := nn n p3
    simp only [List.map_cons, em_n ha0, em_n hd0]
    intro T hT Y
    have gv : ∀ i, i < ix n → ca.slots.getD (ix sp + i) .null = .int (mi h a (ix sp + i)) := fun i hi => by
      rw [Array.getD_eq_getD_getElem?, a5 _ (by omega)]
      rfl
    obtain ⟨vm', Y', step⟩ := Y.arraycopy X.1 X.2.2.2.1 (X.2.2.2.2.1 _ hw) (X.2.2.2.2.1 _ sc_nat) (X.2.2.2.2.1 _ sc_stat) (X.2.2.2.2.1 _ sc_ini) (src := ad G a) (dst := ad G d) (cs := ca) (cd := cd) (srcPos := sp) (destPos := dp) (n := n) (by rw [hT]; exact a1) (by rw [hT]; exact d1)
      (fun _ z => by rw [a3] at z; cases z) (fun _ z => by rw [d3] at z; cases z) (fun z => by rw [a3] at z; cases z) (fun z => by rw [d3] at z; cases z) hk0 hk1 hkk0 hkk1 (by decide) (clamp_lt p1) (clamp_lt p2) (clamp_lt p3)
      (by rw [a4]; omega) (by rw [d4]; omega)
      (fun vm₁ _ i hi => by
        have e9 := gv i hi
        refine ⟨?_, ?_⟩
        · exact (congrArg (fits (aTy 20)) e9).trans rfl
        · exact e9 ▸ trivial)
      (g := F0 m pc ls (.int n :: .int dp :: .ref (ad G d) :: .int sp :: .ref (ad G a) :: rr.map (em G))) rfl (by rw [lr.1.1, lr.1.2, X.2.2.1]) (rest := rr.map (em G)) rfl (by rw [X.2.1]; exact hd) (Nat.le_trans h1 X.2.2.2.2.2.1.1)
      (by have := X.2.2.2.2.2.1.2.1; have e9 := em_sum (G := G) rr; show 2 * 0 + _ + (7 + 11) ≤ _; omega)
    have hl : ad G d < H.size := (Array.getElem?_eq_some_iff.mp d1).1
    have hheap : ((T.setVm vm').setCell (ad G d) (copied ca cd sp dp n)).heap = H.setIfInBounds (ad G d) (copied ca cd sp dp n) := by rw [← hT]; rfl
    have hfa := Cell.storePairs_facts cd dp.toNatClampNeg ((ca.stretch sp.toNatClampNeg n.toNatClampNeg).zipIdx)
    have r' : RP G (cpI h a (ix sp) d (ix dp) (ix n)) s (H.setIfInBounds (ad G d) (copied ca cd sp dp n)) := by
      refine r.upd hp.1 (by simp) (fun x hx => by simp [Array.getElem?_setIfInBounds, Ne.symm hx]) rfl rfl rfl (fun b hb => funext fun j => if_neg (fun z => hb z.1)) (fun b hb => rfl) (fun b hb => rfl) ⟨fun c' hc' e => ?_, fun e => ?_, fun q' q1' q2' e => ?_⟩
      · have e : kd h d = c' + 1 := e
        omega
      · have e : kd h d = 19 := e
        omega
      · have e : kd h d = q' := e
        have : q' = 20 := by omega
        subst this
        refine ⟨copied ca cd sp dp n, by simp [Array.getElem?_setIfInBounds, hl], hfa.1.trans d2, hfa.2.1.trans d3, hfa.2.2.1.trans d4, fun j hj => ?_⟩
        have hj : j < ln h d := hj
        have e8 : (copied ca cd sp dp n).slots[j]? = _ := sp_slots (ca.stretch sp.toNatClampNeg n.toNatClampNeg) 0 dp.toNatClampNeg cd j (by rw [d4]; exact hj)
        have el : (ca.stretch sp.toNatClampNeg n.toNatClampNeg).length = ix n := by simp [Cell.stretch, ix]
        rw [el] at e8
        rw [e8]
        show _ = some (Value.int (if d = d ∧ ix dp ≤ j ∧ j < ix dp + ix n then mi h a (ix sp + (j - ix dp)) else mi h d j))
        by_cases hin : ix dp ≤ j ∧ j < ix dp + ix n
        · rw [if_pos (show dp.toNatClampNeg + 0 ≤ j ∧ j < dp.toNatClampNeg + 0 + ix n from hin), if_pos ⟨rfl, hin⟩]
          congr 1
          rw [← gv (j - ix dp) (by omega)]
          show ((List.range (ix n)).map (fun i => ca.slots.getD (ix sp + i) .null)).getD (j - ix dp) .null = _
          rw [List.getD_eq_getElem?_getD, List.getElem?_map, List.getElem?_range (by omega)]
          rfl
        · rw [if_neg (show ¬ (dp.toNatClampNeg + 0 ≤ j ∧ j < dp.toNatClampNeg + 0 + ix n) from hin), if_neg (fun z => hin z.2)]
          exact d5 j hj
    have o' : LO G (locs ++ (ca.stretch sp.toNatClampNeg n.toNatClampNeg).zipIdx.map fun q => ⟨ad G d, dp.toNatClampNeg + q.2⟩) := by
      intro q hq
      rcases List.mem_append.mp hq with z | z
      · exact o q z
      · obtain ⟨y, -, hy⟩ := List.mem_map.mp z
        rw [← hy]
        exact ad_le hp.1
    obtain ⟨t, b1, b2⟩ := (hN _ _ _ _ _ hs p l e R s m args below meth c Q G _ _ ls X F r' o' lr) _ hheap Y'
    exact ⟨t, step t b1, b2⟩
  · exact hs.elim
theorem s_cpyl {idx : Nat} (hw : Cond.methodLink (yM k).cls idx arraycopyName ∈ wsG) (h1 : 1 ≤ frM k) (h2 : 26 ≤ loM k) (hd : decode (bM k) pc = .ok (.invokestatic idx, 3)) : Snd k pcs pc (pc + 3) S_cpyl := by
  intro L st h cc ss nx jp Rt hs hN hJ p l e R s m args below meth c Q G H locs ls X F r o lr
  unfold S_cpyl at hs
  split at hs
  · rename_i n dp d sp a rr
    have hs := gd_iff.mp hs
    obtain ⟨hg, hka, hkd, ⟨p1, p2, p3, p4, p5⟩, hs⟩ := hs
    obtain ⟨ca, a1, a2, a3, a4, a5⟩ := (r.2.2.1 a).2.2 21 (by decide) (by decide) hka
    obtain ⟨cd, d1, d2, d3, d4, d5⟩ := (r.2.2.1 d).2.2 21 (by decide) (by decide) hkd
    have ha0 : a ≠ 0 := r.nz (by omega)
    have hd0 : d ≠ 0 := r.nz (by omega)
    have hp := r.pos (a := d) (by omega) (by omega)
    obtain ⟨-, k0, hk0, cm0, hkk0⟩ := X.2.2.2.2.2.2.1.arr (k := 21) (by decide) (by decide) a2 a3
    obtain ⟨-, k1, hk1, cm1, hkk1⟩ := X.2.2.2.2.2.2.1.arr (k := 21) (by decide) (by decide) d2 d3
    have nn : ∀ z : Int32, 0 ≤ z.toInt → z.toInt = (ix z : Int) := fun z hz => by
      show z.toInt = ((z.toInt.toNat : Nat) : Int)
      omega
    have hsp := nn sp p1
    have hdp := nn dp p2
    have hnn := nn n p3
    simp only [List.map_cons, em_n ha0, em_n hd0]
    intro T hT Y
    have gv : ∀ i, i < ix n → ca.slots.getD (ix sp + i) .null = .long (ml h a (ix sp + i)) := fun i hi => by
      rw [Array.getD_eq_getD_getElem?, a5 _ (by omega)]
      rfl
    obtain ⟨vm', Y', step⟩ := Y.arraycopy X.1 X.2.2.2.1 (X.2.2.2.2.1 _ hw) (X.2.2.2.2.1 _ sc_nat) (X.2.2.2.2.1 _ sc_stat) (X.2.2.2.2.1 _ sc_ini) (src := ad G a) (dst := ad G d) (cs := ca) (cd := cd) (srcPos := sp) (destPos := dp) (n := n) (by rw [hT]; exact a1) (by rw [hT]; exact d1)
      (fun _ z => by rw [a3] at z; cases z) (fun _ z => by rw [d3] at z; cases z) (fun z => by rw [a3] at z; cases z) (fun z => by rw [d3] at z; cases z) hk0 hk1 hkk0 hkk1 (by decide) (clamp_lt p1) (clamp_lt p2) (clamp_lt p3)
      (by rw [a4]; omega) (by rw [d4]; omega)
      (fun vm₁ _ i hi => by
        have e9 := gv i hi
        refine ⟨?_, ?_⟩
        · exact (congrArg (fits (aTy 21)) e9).trans rfl
        · exact e9 ▸ trivial)
      (g := F0 m pc ls (.int n :: .int dp :: .ref (ad G d) :: .int sp :: .ref (ad G a) :: rr.map (em G))) rfl (by rw [lr.1.1, lr.1.2, X.2.2.1]) (rest := rr.map (em G)) rfl (by rw [X.2.1]; exact hd) (Nat.le_trans h1 X.2.2.2.2.2.1.1)
      (by have := X.2.2.2.2.2.1.2.1; have e9 := em_sum (G := G) rr; show 2 * 0 + _ + (7 + 11) ≤ _; omega)
    have hl : ad G d < H.size := (Array.getElem?_eq_some_iff.mp d1).1
    have hheap : ((T.setVm vm').setCell (ad G d) (copied ca cd sp dp n)).heap = H.setIfInBounds (ad G d) (copied ca cd sp dp n) := by rw [← hT]; rfl
    have hfa := Cell.storePairs_facts cd dp.toNatClampNeg ((ca.stretch sp.toNatClampNeg n.toNatClampNeg).zipIdx)
    have r' : RP G (cpL h a (ix sp) d (ix dp) (ix n)) s (H.setIfInBounds (ad G d) (copied ca cd sp dp n)) := by
      refine r.upd hp.1 (by simp) (fun x hx => by simp [Array.getElem?_setIfInBounds, Ne.symm hx]) rfl rfl rfl (fun b hb => rfl) (fun b hb => funext fun j => if_neg (fun z => hb z.1)) (fun b hb => rfl) ⟨fun c' hc' e => ?_, fun e => ?_, fun q' q1' q2' e => ?_⟩
      · have e : kd h d = c' + 1 := e
        omega
      · have e : kd h d = 19 := e
        omega
      · have e : kd h d = q' := e
        have : q' = 21 := by omega
        subst this
        refine ⟨copied ca cd sp dp n, by simp [Array.getElem?_setIfInBounds, hl], hfa.1.trans d2, hfa.2.1.trans d3, hfa.2.2.1.trans d4, fun j hj => ?_⟩
        have hj : j < ln h d := hj
        have e8 : (copied ca cd sp dp n).slots[j]? = _ := sp_slots (ca.stretch sp.toNatClampNeg n.toNatClampNeg) 0 dp.toNatClampNeg cd j (by rw [d4]; exact hj)
        have el : (ca.stretch sp.toNatClampNeg n.toNatClampNeg).length = ix n := by simp [Cell.stretch, ix]
        rw [el] at e8
        rw [e8]
        show _ = some (Value.long (if d = d ∧ ix dp ≤ j ∧ j < ix dp + ix n then ml h a (ix sp + (j - ix dp)) else ml h d j))
        by_cases hin : ix dp ≤ j ∧ j < ix dp + ix n
        · rw [if_pos (show dp.toNatClampNeg + 0 ≤ j ∧ j < dp.toNatClampNeg + 0 + ix n from hin), if_pos ⟨rfl, hin⟩]
          congr 1
          rw [← gv (j - ix dp) (by omega)]
          show ((List.range (ix n)).map (fun i => ca.slots.getD (ix sp + i) .null)).getD (j - ix dp) .null = _
          rw [List.getD_eq_getElem?_getD, List.getElem?_map, List.getElem?_range (by omega)]
          rfl
        · rw [if_neg (show ¬ (dp.toNatClampNeg + 0 ≤ j ∧ j < dp.toNatClampNeg + 0 + ix n) from hin), if_neg (fun z => hin z.2)]
          exact d5 j hj
    have o' : LO G (locs ++ (ca.stretch sp.toNatClampNeg n.toNatClampNeg).zipIdx.map fun q => ⟨ad G d, dp.toNatClampNeg + q.2⟩) := by
      intro q hq
      rcases List.mem_append.mp hq with z | z
      · exact o q z
      · obtain ⟨y, -, hy⟩ := List.mem_map.mp z
        rw [← hy]
        exact ad_le hp.1
    obtain ⟨t, b1, b2⟩ := (hN _ _ _ _ _ hs p l e R s m args below meth c Q G _ _ ls X F r' o' lr) _ hheap Y'
    exact ⟨t, step t b1, b2⟩
  · exact hs.elim
theorem s_gs {i idx : Nat} {n : String} (hi : 0 < i ∧ i < 5) (hn : (n = "CLASS_KEYS" ∧ i = 2) ∨ (n = "COSINES" ∧ i = 3) ∨ (n = "LATTICES" ∧ i = 4)) (hw : Cond.fieldLink (yM k).cls idx "CrystalHouse" n "[I" ∈ wsG) (hd : decode (bM k) pc = .ok (.getstatic idx, 3)) : Snd k pcs pc (pc + 3) (S_gs i) := by
  intro L st h cc ss nx jp Rt hs hN hJ p l e R s m args below meth c Q G H locs ls X F r o lr
  have hz : ZS G s H n i := by
    rcases hn with ⟨rfl, rfl⟩ | ⟨rfl, rfl⟩ | ⟨rfl, rfl⟩
    · exact r.2.2.2.1
    · exact r.2.2.2.2.1
    · exact r.2.2.2.2.2
  obtain ⟨cf, kf, fi, f, a, cell, g1, g2, g3, g4, g5, g6, g7, g8⟩ := hz
  have w := (hN _ _ _ _ _ hs p l e R s m args below meth c Q G H locs ls X F r o lr)
  rw [List.map_cons, em_n (by omega), ad_lt hi.2] at w
  exact W.gets X.1 X.2.1 X.2.2.2.1 (X.2.2.2.2.1 _ hw) g1 g2 g3 g4 g5 (fun e => by rw [e] at g6; cases g6) g7 rfl hd w
theorem s_gsN {i idx : Nat} {n hst : String} (hi : 0 < i ∧ i < 5) (hn : (n = "CLASS_KEYS" ∧ i = 2) ∨ (n = "COSINES" ∧ i = 3) ∨ (n = "LATTICES" ∧ i = 4)) (hw : Cond.fieldLinkNest (yM k).cls idx "CrystalHouse" n "[I" hst ∈ nestW) (hd : decode (bM k) pc = .ok (.getstatic idx, 3)) : Snd k pcs pc (pc + 3) (S_gs i) := by
  intro L st h cc ss nx jp Rt hs hN hJ p l e R s m args below meth c Q G H locs ls X F r o lr
  have hz : ZS G s H n i := by
    rcases hn with ⟨rfl, rfl⟩ | ⟨rfl, rfl⟩ | ⟨rfl, rfl⟩
    · exact r.2.2.2.1
    · exact r.2.2.2.2.1
    · exact r.2.2.2.2.2
  obtain ⟨cf, kf, fi, f, a, cell, g1, g2, g3, g4, g5, g6, g7, g8⟩ := hz
  have w := (hN _ _ _ _ _ hs p l e R s m args below meth c Q G H locs ls X F r o lr)
  rw [List.map_cons, em_n (by omega), ad_lt hi.2] at w
  exact va_WgetsN X.1 X.2.1 X.2.2.2.1 (va_Nw.use rfl (X.2.2.2.2.2.2.1.2.2.1 _ hw)) g1 g2 g3 g4 g5 (fun e => by rw [e] at g6; cases g6) g7 rfl hd w
end SA
