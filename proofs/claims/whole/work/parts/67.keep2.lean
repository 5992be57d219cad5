/-! the class keeps a group -/
theorem mi_nw {h : MH} {k n a : Nat} (e : a ≠ hn h) : mi (nw h k n) a = mi h a := by
  funext j
  show (if a = hn h then 0 else mi h a j) = _
  rw [if_neg e]
theorem ml_nw {h : MH} {k n a : Nat} (e : a ≠ hn h) : ml (nw h k n) a = ml h a := by
  funext j
  show (if a = hn h then 0 else ml h a j) = _
  rw [if_neg e]
theorem mr_nw {h : MH} {k n a : Nat} (e : a ≠ hn h) : mr (nw h k n) a = mr h a := by
  funext j
  show (if a = hn h then 0 else mr h a j) = _
  rw [if_neg e]
theorem mi_cpn {h : MH} {s sp d dp n b : Nat} (e : b ≠ d) : mi (cpI h s sp d dp n) b = mi h b := by
  funext j
  rw [mi_cpI, if_neg (fun q => e q.1)]
/-- the heap behind a new group -/
theorem ln_new1 {h : MH} {k n a : Nat} (e : hn h = a) : ln (nw h k n) a = n := by subst e; exact ln_new
def gNew (n m : Nat) (h : MH) : MH := gMk (hn h) n m (nw h 4 0)
theorem gI0_hn {x : Nat} {h : MH} : hn (gI0 x h) = hn h := by unfold gI0; rw [hn_wi, hn_wr, hn_wi]
theorem gI1_hn {x n : Nat} {h : MH} : hn (gI1 x n h) = hn h + 2 := by unfold gI1; rw [hn_wr, hn_iR, hn_nw, gI0_hn]
theorem gI2_hn {x n : Nat} {h : MH} : hn (gI2 x n h) = hn h + 2 := by unfold gI2; rw [hn_cpI, hn_wi, gI1_hn]
theorem gMk_hn {x n m : Nat} {h : MH} : hn (gMk x n m h) = hn h + 3 := by unfold gMk; rw [hn_wr, hn_cpI, hn_nw, gI2_hn]
theorem gNew_hn {n m : Nat} {h : MH} : hn (gNew n m h) = hn h + 4 := by unfold gNew; rw [gMk_hn, hn_nw]
theorem Kp.iR {A : List Nat} {h g : MH} {a n : Nat} (c : Kp A h g) (ha : a ∈ A ∨ hn h ≤ a) (h9 : 99 ≤ a) : Kp A h (iR a n g) := (c.wi ha).nw.wr ha (Or.inl h9)
theorem gNew_kp {n m : Nat} {h : MH} (H : SS h) : Kp [] h (gNew n m h) := by
  have h99 := H.1
  have q : ∀ a, hn h ≤ hn h + a := fun a => by omega
  have c0 : Kp [] h (nw h 4 0) := (Kp.refl H).nw
  unfold gNew gMk
  rw [hn_nw]
  refine Kp.wr (Kp.cpI (Kp.nw ?_) (Or.inr (by omega))) (Or.inr (Nat.le_refl _)) (Or.inl h99)
  unfold gI2
  rw [hn_nw]
  refine Kp.cpI (Kp.wi ?_ (Or.inr (by omega))) (Or.inr (by omega))
  unfold gI1
  rw [hn_nw]
  refine Kp.wr (Kp.iR (Kp.nw ?_) (Or.inr (by omega)) (by omega)) (Or.inr (Nat.le_refl _)) (Or.inl h99)
  unfold gI0
  exact ((c0.wi (Or.inr (Nat.le_refl _))).wr (Or.inr (Nat.le_refl _)) (Or.inl h99)).wi (Or.inr (Nat.le_refl _))
theorem gI0_k {x : Nat} {h : MH} : kd (gI0 x h) = kd h := by unfold gI0; rw [kd_wi, kd_wr, kd_wi]
theorem gI0_l {x : Nat} {h : MH} : ln (gI0 x h) = ln h := by unfold gI0; rw [ln_wi, ln_wr, ln_wi]
theorem gI2_k {x n b : Nat} {h : MH} (e : hn h = b) : kd (gI2 x n h) (b + 1) = 20 ∧ kd (gI2 x n h) b = 9 ∧ ∀ a, a < b → kd (gI2 x n h) a = kd h a := by
  subst e
  have n0 : hn (wi (nw (gI0 x h) 9 0) (hn h) 1 0) = hn h + 1 := by rw [hn_wi, hn_nw, gI0_hn]
  unfold gI2
  rw [kd_cpI, kd_wi]
  unfold gI1 iR
  rw [kd_wr, kd_wr]
  refine ⟨kd_new1 n0, ?_, fun a ha => ?_⟩
  · rw [kd_old (by rw [n0]; omega), kd_wi]
    exact kd_new1 gI0_hn
  · rw [kd_old (by rw [n0]; omega), kd_wi, kd_old (by rw [gI0_hn]; omega), gI0_k]
theorem gI2_l {x n b : Nat} {h : MH} (e : hn h = b) : ln (gI2 x n h) (b + 1) = n := by
  subst e
  have n0 : hn (wi (nw (gI0 x h) 9 0) (hn h) 1 0) = hn h + 1 := by rw [hn_wi, hn_nw, gI0_hn]
  unfold gI2
  rw [ln_cpI, ln_wi]
  unfold gI1 iR
  rw [ln_wr, ln_wr]
  exact ln_new1 n0
theorem gNew_k {n m : Nat} {h : MH} : kd (gNew n m h) (hn h) = 4 ∧ kd (gNew n m h) (hn h + 1) = 9 ∧ kd (gNew n m h) (hn h + 2) = 20 ∧ kd (gNew n m h) (hn h + 3) = 20 := by
  have n2 : hn (gI2 (hn h) n (nw h 4 0)) = hn h + 3 := by rw [gI2_hn, hn_nw]
  have q := gI2_k (x := hn h) (n := n) (h := nw h 4 0) (b := hn h + 1) hn_nw
  unfold gNew gMk
  rw [kd_wr, kd_cpI]
  refine ⟨?_, ?_, ?_, kd_new1 n2⟩
  · rw [kd_old (by rw [n2]; omega), q.2.2 _ (by omega), kd_new]
  · rw [kd_old (by rw [n2]; omega)]; exact q.2.1
  · rw [kd_old (by rw [n2]; omega)]; exact q.1
theorem gNew_l {n m : Nat} {h : MH} : ln (gNew n m h) (hn h + 2) = n ∧ ln (gNew n m h) (hn h + 3) = m := by
  have n2 : hn (gI2 (hn h) n (nw h 4 0)) = hn h + 3 := by rw [gI2_hn, hn_nw]
  have q := gI2_l (x := hn h) (n := n) (h := nw h 4 0) (b := hn h + 1) hn_nw
  unfold gNew gMk
  rw [ln_wr, ln_cpI]
  refine ⟨?_, ln_new1 n2⟩
  rw [ln_old (by rw [n2]; omega)]
  exact q
theorem gI2_r {x n b : Nat} {h : MH} (e : hn h = b) (hx : x < b) : mr (gI2 x n h) x 0 = b ∧ mr (gI2 x n h) x 3 = 0 ∧ mr (gI2 x n h) b 0 = b + 1 := by
  subst e
  have n0 : hn (wi (nw (gI0 x h) 9 0) (hn h) 1 0) = hn h + 1 := by rw [hn_wi, hn_nw, gI0_hn]
  unfold gI2
  rw [mr_cpI, mr_wi]
  unfold gI1 iR
  rw [mr_wr, mr_wr, hn_nw, gI0_hn]
  refine ⟨up2_s, ?_, ?_⟩
  · rw [up2_ni (by decide), up2_ne (by omega), mr_nw (by rw [n0]; omega), mr_wi, mr_nw (by rw [gI0_hn]; omega)]
    unfold gI0
    rw [mr_wi, mr_wr]
    exact up2_s
  · rw [up2_ne (by omega), up2_s]
theorem gNew_r {n m : Nat} {h : MH} : mr (gNew n m h) (hn h) 0 = hn h + 1 ∧ mr (gNew n m h) (hn h) 1 = hn h + 3 ∧ mr (gNew n m h) (hn h) 3 = 0 ∧ mr (gNew n m h) (hn h + 1) 0 = hn h + 2 := by
  have n2 : hn (gI2 (hn h) n (nw h 4 0)) = hn h + 3 := by rw [gI2_hn, hn_nw]
  have q := gI2_r (x := hn h) (n := n) (h := nw h 4 0) (b := hn h + 1) hn_nw (by omega)
  unfold gNew gMk
  rw [mr_wr, mr_cpI, hn_nw]
  refine ⟨?_, up2_s, ?_, ?_⟩
  · rw [up2_ni (by decide), mr_nw (by rw [n2]; omega)]; exact q.1
  · rw [up2_ni (by decide), mr_nw (by rw [n2]; omega)]; exact q.2.1
  · rw [up2_ne (by omega), mr_nw (by rw [n2]; omega)]; exact q.2.2
theorem gI1_i {x n a : Nat} {h : MH} (ha : a < hn h) : mi (gI1 x n h) a = mi (gI0 x h) a := by
  unfold gI1 iR
  rw [mi_wr, mi_wr, mi_nw (by rw [hn_wi, hn_nw, gI0_hn]; omega), mi_wi, up2_row (by omega), mi_nw (by rw [gI0_hn]; omega)]
theorem gI0_i {x : Nat} {h : MH} : mi (gI0 x h) = up2 (up2 (mi h) x 2 (-1)) x 4 0 := by
  unfold gI0
  rw [mi_wi, mi_wr, mi_wi]
theorem gI2_i {x n b : Nat} {h : MH} (e : hn h = b) (hx : x < b) (h17 : 17 < x) : mi (gI2 x n h) x 2 = -1 ∧ mi (gI2 x n h) b 1 = nI n ∧ (∀ j, j < n → mi (gI2 x n h) (b + 1) j = mi h 17 j) ∧ ∀ a, a < x → mi (gI2 x n h) a = mi h a := by
  subst e
  unfold gI2
  refine ⟨?_, ?_, fun j hj => ?_, fun a ha => ?_⟩
  · rw [mi_cpn (by omega), mi_wi, up2_ne (by omega), gI1_i hx, gI0_i, up2_ni (by decide), up2_s]
  · rw [mi_cpn (by omega), mi_wi, up2_s]
  · rw [mi_cpI, if_pos ⟨rfl, Nat.zero_le _, by omega⟩, mi_wi, up2_ne (by omega), gI1_i (by omega), gI0_i, up2_ne (by omega), up2_ne (by omega), Nat.sub_zero, Nat.zero_add]
  · rw [mi_cpn (by omega), mi_wi, up2_row (by omega), gI1_i (by omega), gI0_i, up2_row (by omega), up2_row (by omega)]
theorem gNew_i {n m : Nat} {h : MH} (H : SS h) : mi (gNew n m h) (hn h) 2 = -1 ∧ mi (gNew n m h) (hn h + 1) 1 = nI n ∧ (∀ j, j < n → mi (gNew n m h) (hn h + 2) j = mi h 17 j) ∧ ∀ j, j < m → mi (gNew n m h) (hn h + 3) j = mi h 19 j := by
  have h99 := H.1
  have n2 : hn (gI2 (hn h) n (nw h 4 0)) = hn h + 3 := by rw [gI2_hn, hn_nw]
  have q := gI2_i (x := hn h) (n := n) (h := nw h 4 0) (b := hn h + 1) hn_nw (by omega) (by omega)
  unfold gNew gMk
  rw [mi_wr, hn_nw]
  refine ⟨?_, ?_, fun j hj => ?_, fun j hj => ?_⟩
  · rw [mi_cpn (by omega), mi_nw (by rw [n2]; omega)]; exact q.1
  · rw [mi_cpn (by omega), mi_nw (by rw [n2]; omega)]; exact q.2.1
  · rw [mi_cpn (by omega), mi_nw (by rw [n2]; omega), q.2.2.1 j hj, mi_nw (by omega)]
  · rw [mi_cpI, if_pos ⟨rfl, Nat.zero_le _, by omega⟩, mi_nw (by rw [n2]; omega), q.2.2.2 19 (by omega), mi_nw (by omega), Nat.sub_zero, Nat.zero_add]
theorem row_hit {L : List Nat} {F : Nat → Int} (hn : L.Nodup) (hm : ∀ x : Nat, x ∈ L ↔ ∃ i, i < L.length ∧ F i = x) (hs : ∀ i j, i < j → j < L.length → F i < F j) : ∀ i, i < L.length → ∃ x ∈ L, F i = (x : Nat) := by
  intro i hi
  have key : ∀ x, ∃ j, x ∈ L → j < L.length ∧ F j = (x : Nat) := fun x => by
    by_cases q : x ∈ L
    · obtain ⟨j, hj⟩ := (hm x).mp q
      exact ⟨j, fun _ => hj⟩
    · exact ⟨0, fun w => absurd w q⟩
  have ⟨ix, hix⟩ := Classical.axiomOfChoice key
  by_cases q : i ∈ L.map ix
  · obtain ⟨x, hx, e⟩ := List.mem_map.mp q
    exact ⟨x, hx, by rw [← e]; exact (hix x hx).2⟩
  · have := sub_len (i :: L.map ix) (List.range L.length) (List.nodup_cons.mpr ⟨q, map_nodup hn (fun x hx y hy e => by
      have a := (hix x hx).2
      have b := (hix y hy).2
      rw [e, b] at a
      omega)⟩) (fun y hy => by
      rcases List.mem_cons.mp hy with e | hy
      · rw [e]; exact List.mem_range.mpr hi
      · obtain ⟨x, hx, e⟩ := List.mem_map.mp hy
        rw [← e]; exact List.mem_range.mpr (hix x hx).1)
    rw [List.length_cons, List.length_map, List.length_range] at this
    omega
def KeepP (h : MH) (O : Nat → Nat) (GS : List (List Nat)) (L : List Nat) (r : Int32) (g : MH) : Prop := ∃ O' S GS', Kp [5, 29] h g ∧ (∀ j, j ≠ 6 → mi g 5 j = mi h 5 j) ∧ ml g 5 = ml h 5 ∧ (∀ j, mr g 5 j = mr h 5 j) ∧ mi g 29 = mi h 29 ∧ (ml g 29 = ml h 29 ∧ ∀ i, i < GS.length → mr g 29 i = mr h 29 i) ∧ (∀ a, a < hn h → O' a = O a) ∧ S.Pairwise (· < ·) ∧ (∀ x, x ∈ S ↔ x ∈ L) ∧ Reg GS S r GS' ∧ HGrp g O' GS'
theorem Closed.gok {S MK : List Nat} (h : Closed S MK) (s : S.Pairwise (· < ·)) (hl : S.length ≤ 192) : GOk S := by
  refine ⟨s, hl, fun x hx => reach_op h.2.2.2 x ((h.1 x).mp hx), (h.1 _).mpr reach_id, fun x hx y hy => ?_⟩
  obtain ⟨v, hv, rv⟩ := reach_mul h.2.2.2 h.2.1 ((h.1 x).mp hx) y ((h.1 y).mp hy)
  exact ⟨v, (h.1 v).mpr rv, hv⟩
theorem keep_new {h g : MH} {O : Nat → Nat} {GS : List (List Nat)} {L MK S : List Nat} (H : SS h) (kp : Kp [] h g) (gh : hn g = hn h + 4)
    (gk : kd g (hn h) = 4 ∧ kd g (hn h + 1) = 9 ∧ kd g (hn h + 2) = 20 ∧ kd g (hn h + 3) = 20) (gl : ln g (hn h + 2) = L.length ∧ ln g (hn h + 3) = MK.length)
    (gr : mr g (hn h) 0 = hn h + 1 ∧ mr g (hn h) 1 = hn h + 3 ∧ mr g (hn h) 3 = 0 ∧ mr g (hn h + 1) 0 = hn h + 2)
    (gi : mi g (hn h) 2 = -1 ∧ mi g (hn h + 1) 1 = nI L.length ∧ (∀ j, j < L.length → mi g (hn h + 2) j = nI (S.getD j 0)) ∧ ∀ j, j < MK.length → mi g (hn h + 3) j = nI (MK.getD j 0))
    (srt : S.Pairwise (· < ·)) (mem : ∀ x, x ∈ S ↔ x ∈ L) (lenS : S.length = L.length) (l192 : L.length ≤ 192) (cl : Closed L MK) (hg : HGrp h O GS) (lt : GS.length < 60) (ne : ∀ j, j < GS.length → GS.getD j [] ≠ S) :
    KeepP h O GS L (nI GS.length) (wi (wr g 29 GS.length (hn h)) 5 6 (nI (GS.length + 1))) := by
  have h99 := H.1
  obtain ⟨g1, g2, g3⟩ := id hg
  have i5 : mi g 5 = mi h 5 := kp.i (by omega) (by simp)
  have kp2 : Kp [5, 29] h (wi (wr g 29 GS.length (hn h)) 5 6 (nI (GS.length + 1))) := ((kp.mono (by simp)).wr (Or.inl (by decide)) (Or.inr (Or.inl rfl))).wi (Or.inl (by decide))
  have e : mr (wi (wr g 29 GS.length (hn h)) 5 6 (nI (GS.length + 1))) = up2 (mr g) 29 GS.length (hn h) := rfl
  refine ⟨fun a => if a < hn h then O a else GS.length, S, GS ++ [S], kp2, fun j hj => ?_, ?_, fun j => ?_, ?_, ?_, fun a ha => if_pos ha, srt, mem, Or.inr ⟨ne, Or.inr ⟨lt, rfl, rfl⟩⟩, ?_, ?_, fun j hj => ?_⟩
  · rw [mi_wi, up2_ni hj, mi_wr, i5]
  · exact kp.l (x := 5) (by omega) (by simp)
  · rw [e, up2_ne (by decide), kp.r (x := 5) (by omega) (by simp)]
  · rw [mi_wi, up2_row (by decide), mi_wr]; exact kp.i (x := 29) (by omega) (by simp)
  · exact ⟨kp.l (x := 29) (by omega) (by simp), fun i hi => by rw [e, up2_ni (by omega), kp.r (x := 29) (by omega) (by simp)]⟩
  · rw [List.length_append]; show GS.length + 1 ≤ 60; omega
  · rw [mi_wi, up2_s, List.length_append]; rfl
  · rw [List.length_append] at hj
    have hj : j < GS.length + 1 := hj
    by_cases q : j = GS.length
    · subst q
      have lo : ∀ a, ¬ hn h + a < hn h := fun a => by omega
      have l0 : ¬ hn h < hn h := by omega
      have clS : Closed S MK := ⟨fun y => (mem y).trans (cl.1 y), cl.2.1, by rw [lenS]; exact cl.2.2.1, cl.2.2.2⟩
      rw [gD_end, e, up2_s]
      refine ⟨clS.gok srt (by rw [lenS]; exact l192), ⟨MK, ⟨⟨h99, ?_, if_neg l0, if_neg (lo 1), if_neg (lo 2), if_neg (lo 3)⟩, ⟨gk.1, ?_, ?_⟩, ⟨gk.2.1, ?_, ?_⟩, ⟨gk.2.2.1, ?_, fun j hj => ?_⟩, gk.2.2.2, gl.2, fun j hj => ?_⟩, clS⟩, Or.inl ?_, Or.inl ?_⟩
      · rw [hn_wi, hn_wr]; omega
      · rw [e, up2_ne (by omega)]; exact gr.1
      · rw [e, up2_ne (by omega)]; exact gr.2.1
      · rw [e, up2_ne (by omega)]; exact gr.2.2.2
      · rw [mi_wi, up2_ne (by omega), mi_wr, lenS]; exact gi.2.1
      · rw [lenS]; exact gl.1
      · rw [mi_wi, up2_ne (by omega), mi_wr]; exact gi.2.2.1 j (by omega)
      · rw [mi_wi, up2_ne (by omega), mi_wr]; exact gi.2.2.2 j hj
      · rw [mi_wi, up2_ne (by omega), mi_wr]; exact gi.1
      · rw [e, up2_ne (by omega)]; exact gr.2.2.1
    · have hj' : j < GS.length := by omega
      obtain ⟨o1, ⟨MK', o2, o3⟩, o4⟩ := g3 j hj'
      have hA : ∀ a ∈ [5, 29], a < 99 ∨ O a ≠ j := fun a ha => Or.inl (by simp at ha; omega)
      have hO : ∀ a, a < hn h → (if a < hn h then O a else GS.length) = O a := fun a ha => if_pos ha
      rw [gD_left hj', e, up2_ni q, kp.r (x := 29) (by omega) (by simp)]
      exact ⟨o1, ⟨MK', o2.kp kp2 hA hO, o3⟩, o4.kp o2.1.1 (by have := o2.1.2.1; omega) o2.1.2.2.1 kp2 hA hO⟩
theorem sp_Ho_keepGroup {h : MH} {O : Nat → Nat} {GS : List (List Nat)} {L MK : List Nat} (H : SS h) (hc : ClAt (mi h) L MK) (cl : Closed L MK) (hg : HGrp h O GS) : SpI k_Ho_keepGroup [.ref 5] h (fun r g => KeepP h O GS L r g) := by
  have h99 := H.1
  have m8 := hc.1.2.2.1
  have l192 := hc.1.2.1
  have m7 : MK.length < 8 := by
    rcases Nat.lt_or_ge MK.length 8 with q | q
    · exact q
    · have e : MK.length = 8 := by omega
      have := cl.2.2.1
      rw [e] at this
      omega
  have e15 : mr h 5 4 = 15 := H.2.2.2 (5, 4, 15) (by decide)
  have e29 : mr h 5 5 = 29 := H.2.2.2 (5, 5, 29) (by decide)
  have e16 : mr h 15 0 = 16 := H.2.2.2 (15, 0, 16) (by decide)
  obtain ⟨F, hr, hm⟩ := hc.row (h := h) (l := ml h)
  rw [← H.sil] at hr
  obtain ⟨_, _, h16, _, _, hf, hs⟩ := id hr
  have hF : ∀ i, i < L.length → ∃ x ∈ L, F i = (x : Nat) := row_hit hc.1.1 hm hs
  have f0 : ∀ i, i < L.length → 0 ≤ F i := fun i hi => by
    obtain ⟨x, _, e⟩ := hF i hi
    omega
  have srt : (mkS F L.length).Pairwise (· < ·) := mkS_srt f0 hs
  have mem : ∀ x, x ∈ mkS F L.length ↔ x ∈ L := fun x => by
    rw [mkS_mem, hm x]
    exact ⟨fun ⟨i, hi, e⟩ => ⟨i, hi, by have := f0 i hi; omega⟩, fun ⟨i, hi, e⟩ => ⟨i, hi, by omega⟩⟩
  have lenS := mkS_len F L.length
  obtain ⟨g1, g2, g3⟩ := id hg
  have main : ∀ d i, GS.length - i = d → i ≤ GS.length → (∀ j, j < i → GS.getD j [] ≠ mkS F L.length) → WM k_Ho_keepGroup p_Ho_keepGroup_1 [.ref 5, .int (nI i), Jv] [] h 0 0 (fun v g => ∃ r, v = .int r ∧ KeepP h O GS L r g) := by
    intro d
    induction d with
    | zero =>
      intro i hd hi ne
      refine v_Ho_keepGroup_1 _ _ _ _ _ _ ⟨H.k5, ?_⟩
      rw [g2, nI_toI (by omega), nI_toI (by omega), show (60 : Int32).toInt = 60 from rfl, e29]
      refine ⟨fun c => absurd c (by omega), fun _ => ⟨fun c => gd_i rfl (gd_i rfl ?_), fun c => gd_i rfl (gd_i rfl ⟨_, rfl, O, mkS F L.length, GS, Kp.refl H, fun _ _ => rfl, rfl, fun _ => rfl, rfl, ⟨rfl, fun _ _ => rfl⟩, fun _ _ => rfl, srt, mem, Or.inr ⟨fun j hj => ne j (by omega), Or.inl ⟨by omega, rfl, rfl⟩⟩, hg⟩)⟩⟩
      rintro _ rfl
      have c1 : Cs h (nw h 4 0) := (Cs.refl H).nw
      have e15' : mr (nw h 4 0) 5 4 = 15 := c1.1.2.2.2 (5, 4, 15) (by decide)
      refine ⟨c1.1.k5, kd_new, gd_i rfl (gd_i rfl ?_)⟩
      rw [e15']
      refine SpV.mono (sp_Group_init (x := hn h) (n := L.length) (m := MK.length) c1.1 h99 (Nat.lt_succ_self _) kd_new (by rw [mi_nw (by omega)]; exact h16) l192 (by rw [mi_nw (by omega)]; exact hc.2.1) m7) ?_
      rintro g eg
      have eg : g = gNew L.length MK.length h := eg
      subst eg
      have kp := gNew_kp (n := L.length) (m := MK.length) H
      have gk := gNew_k (n := L.length) (m := MK.length) (h := h)
      have gl := gNew_l (n := L.length) (m := MK.length) (h := h)
      have gr := gNew_r (n := L.length) (m := MK.length) (h := h)
      have gi := gNew_i (n := L.length) (m := MK.length) H
      have gh := gNew_hn (n := L.length) (m := MK.length) (h := h)
      have i5 : mi (gNew L.length MK.length h) 5 = mi h 5 := kp.i (by omega) (by simp)
      rw [i5, g2]
      refine ⟨kp.1.k29, by rw [kp.1.2.2.1 (29, 60) (by decide)]; exact InB_nI (by omega) (by omega), gk.1, ?_⟩
      rintro _ rfl
      refine ⟨kp.1.k5, ?_⟩
      rintro _ rfl
      rw [ix_nI (by omega), nI_1]
      refine gd_i rfl (gd_i rfl ⟨_, rfl, keep_new (S := mkS F L.length) H kp gh gk gl gr ⟨gi.1, gi.2.1, fun j hj => ?_, fun j hj => (gi.2.2.2 j hj).trans (hc.2.2.1 j hj)⟩ srt mem lenS l192 cl hg (by omega) (fun j hj => ne j (by omega))⟩)
      rw [gi.2.2.1 j hj, mkS_getD hj]
      have e17 : mr h 16 0 = 17 := H.2.2.2 (16, 0, 17) (by decide)
      have w := hf j hj
      rw [e17] at w
      have := f0 j hj
      rw [of_toI w, show F j = ((F j).toNat : Int) by omega, zI_nat]
      rfl
    | succ d ih =>
      intro i hd hi ne
      have il : i < GS.length := by omega
      obtain ⟨o1, ⟨MK', o2, o3⟩, o4⟩ := g3 i il
      have gp := o2.1.1
      refine v_Ho_keepGroup_1 _ _ _ _ _ _ ⟨H.k5, ?_⟩
      rw [g2, nI_toI (by omega), nI_toI (by omega), show (60 : Int32).toInt = 60 from rfl, e29, ix_nI (by omega), e15, e16, o2.2.1.2.1]
      refine ⟨fun _ => ⟨H.k29, by rw [H.2.2.1 (29, 60) (by decide)]; exact InB_nI (by omega) (by omega), fun c => absurd c (by omega), fun _ => ⟨o2.2.1.1, H.k15, o2.2.2.1.1, gd_i rfl (gd_i rfl ?_)⟩⟩, fun c => absurd (by omega) c⟩
      refine SpI.mono (sp_Row_sameAs (o2.row o1.1 o1.2.1 (fun x hx => (o1.2.2.1 x hx).1)) hr) ?_
      rintro r _ ⟨rfl, (⟨rfl, e1, e2⟩ | ⟨rfl, nq⟩)⟩
      · refine ⟨fun c => absurd c (by decide), fun _ => gd_i rfl (gd_i rfl ⟨_, rfl, O, mkS F L.length, GS, Kp.refl H, fun _ _ => rfl, rfl, fun _ => rfl, rfl, ⟨rfl, fun _ _ => rfl⟩, fun _ _ => rfl, srt, mem, Or.inl ⟨i, il, ?_, ne, rfl, rfl⟩, hg⟩)⟩
        refine list_ext (by rw [lenS]; exact e1) (fun j hj => ?_)
        rw [mkS_getD (by omega)]
        have := e2 j hj
        omega
      · refine ⟨fun _ => ?_, fun c => absurd rfl c⟩
        rw [nI_1]
        refine ih (i + 1) (by omega) (by omega) (fun j hj => ?_)
        by_cases q : j = i
        · subst q
          intro e
          refine nq ⟨by rw [e, lenS], fun k hk => ?_⟩
          rw [e] at hk ⊢
          rw [lenS] at hk
          rw [mkS_getD hk]
          have := f0 k hk
          omega
        · exact ne j (by omega)
  exact v_Ho_keepGroup _ _ _ (main _ 0 rfl (Nat.zero_le _) (fun j hj => absurd hj (Nat.not_lt_zero j)))
