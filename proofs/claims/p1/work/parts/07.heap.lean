/-! the heap's instructions -/
def S_get (q i t : Nat) : Sem := fun L st h cc ss nx _ _ => match st with
  | .ref a :: r => kd h a = q ∧ (match t with
    | 0 => nx L (.int (mi h a i) :: r) h cc ss
    | 1 => nx L (.long (ml h a i) :: r) h cc ss
    | _ => nx L (.ref (mr h a i) :: r) h cc ss)
  | _ => False
def S_pi (q i : Nat) : Sem := fun L st h cc ss nx _ _ => match st with
  | .int x :: .ref a :: r => kd h a = q ∧ nx L r (wi h a i x) cc ss
  | _ => False
def S_pl (q i : Nat) : Sem := fun L st h cc ss nx _ _ => match st with
  | .long x :: .ref a :: r => kd h a = q ∧ nx L r (wl h a i x) cc ss
  | _ => False
def S_pr (q i : Nat) : Sem := fun L st h cc ss nx _ _ => match st with
  | .ref x :: .ref a :: r => kd h a = q ∧ nx L r (wr h a i x) cc ss
  | _ => False
def S_len (q : Nat) : Sem := fun L st h cc ss nx _ _ => match st with
  | .ref a :: r => kd h a = q ∧ nx L (.int (Int32.ofNat (ln h a)) :: r) h cc ss
  | _ => False
def S_iald (q : Nat) : Sem := fun L st h cc ss nx _ _ => match st with
  | .int i :: .ref a :: r => kd h a = q ∧ InB i (ln h a) ∧ nx L (.int (mi h a (ix i)) :: r) h cc ss
  | _ => False
def S_lald : Sem := fun L st h cc ss nx _ _ => match st with
  | .int i :: .ref a :: r => kd h a = 21 ∧ InB i (ln h a) ∧ nx L (.long (ml h a (ix i)) :: r) h cc ss
  | _ => False
def S_aald (q : Nat) : Sem := fun L st h cc ss nx _ _ => match st with
  | .int i :: .ref a :: r => kd h a = q ∧ InB i (ln h a) ∧ nx L (.ref (mr h a (ix i)) :: r) h cc ss
  | _ => False
def S_iast : Sem := fun L st h cc ss nx _ _ => match st with
  | .int x :: .int i :: .ref a :: r => kd h a = 20 ∧ InB i (ln h a) ∧ nx L r (wi h a (ix i) x) cc ss
  | _ => False
def S_last : Sem := fun L st h cc ss nx _ _ => match st with
  | .long x :: .int i :: .ref a :: r => kd h a = 21 ∧ InB i (ln h a) ∧ nx L r (wl h a (ix i) x) cc ss
  | _ => False
def S_zast : Sem := fun L st h cc ss nx _ _ => match st with
  | .int x :: .int i :: .ref a :: r => kd h a = 22 ∧ InB i (ln h a) ∧ (x = 0 ∨ x = 1) ∧ nx L r (wi h a (ix i) x) cc ss
  | _ => False
def S_cast : Sem := fun L st h cc ss nx _ _ => match st with
  | .int x :: .int i :: .ref a :: r => kd h a = 23 ∧ InB i (ln h a) ∧ (0 ≤ x.toInt ∧ x.toInt < 65536) ∧ nx L r (wi h a (ix i) x) cc ss
  | _ => False
def eK : Nat → Nat := fun q => match q with
  | 24 => 4
  | 25 => 1
  | 26 => 6
  | 27 => 5
  | _ => 21
def S_aast (q : Nat) : Sem := fun L st h cc ss nx _ _ => match st with
  | .ref x :: .int i :: .ref a :: r => kd h a = q ∧ InB i (ln h a) ∧ kd h x = eK q ∧ nx L r (wr h a (ix i) x) cc ss
  | _ => False
def S_new (q n mc ms : Nat) : Sem := fun L st h cc ss nx _ _ => gd (cc + 1) mc (gd (ss + n) ms (nx L (.ref (hn h) :: st) (nw h q 0) (cc + 1) (ss + n)))
def S_na (q mc ms : Nat) : Sem := fun L st h cc ss nx _ _ => match st with
  | .int n :: r => 0 ≤ n.toInt ∧ gd (cc + 1) mc (gd (ss + ix n) ms (nx L (.ref (hn h) :: r) (nw h q (ix n)) (cc + 1) (ss + ix n)))
  | _ => False
def S_cpyi : Sem := fun L st h cc ss nx _ _ => match st with
  | .int n :: .int dp :: .ref d :: .int sp :: .ref a :: r => gd ((r.map fun v => v.category).sum) 8 (kd h a = 20 ∧ kd h d = 20 ∧ (0 ≤ sp.toInt ∧ 0 ≤ dp.toInt ∧ 0 ≤ n.toInt ∧ sp.toInt + n.toInt ≤ ln h a ∧ dp.toInt + n.toInt ≤ ln h d) ∧ nx L r (cpI h a (ix sp) d (ix dp) (ix n)) cc ss)
  | _ => False
def S_cpyl : Sem := fun L st h cc ss nx _ _ => match st with
  | .int n :: .int dp :: .ref d :: .int sp :: .ref a :: r => gd ((r.map fun v => v.category).sum) 8 (kd h a = 21 ∧ kd h d = 21 ∧ (0 ≤ sp.toInt ∧ 0 ≤ dp.toInt ∧ 0 ≤ n.toInt ∧ sp.toInt + n.toInt ≤ ln h a ∧ dp.toInt + n.toInt ≤ ln h d) ∧ nx L r (cpL h a (ix sp) d (ix dp) (ix n)) cc ss)
  | _ => False
def S_obj : Sem := fun L st h cc ss nx _ _ => match st with
  | .ref a :: r => gd ((r.map fun v => v.category).sum) 8 (a ≠ 0 ∧ nx L r h cc ss)
  | _ => False
def S_gs (i : Nat) : Sem := fun L st h cc ss nx _ _ => nx L (.ref i :: st) h cc ss
theorem er_n {G : WG} {a : Nat} (h : a ≠ 0) : er G a = .ref (ad G a) := if_neg h
theorem em_n {G : WG} {a : Nat} (h : a ≠ 0) : em G (.ref a) = .ref (ad G a) := if_neg h
theorem RP.nz {G : WG} {h : MH} {s : State} {H : Heap} (r : RP G h s H) {a : Nat} (hk : kd h a ≠ 0) : a ≠ 0 := by
  rcases r.2.1 a hk with q | q <;> omega
theorem em_sum {G : WG} : ∀ (st : List Value), ((st.map (em G)).map fun v => v.category).sum = (st.map fun v => v.category).sum
  | [] => rfl
  | v :: st => by simp only [List.map_cons, List.sum_cons, em_cat, em_sum st]
theorem LO.put {G : WG} {locs : List Loc} {a j : Nat} (h : LO G locs) (ha : gB G ≤ a) : LO G (locs ++ [⟨a, j⟩]) := by
  intro q hq
  rcases List.mem_append.mp hq with q1 | q1
  · exact h q q1
  · rw [List.mem_singleton.mp q1]
    exact ha
/-- a field of an object is written -/
theorem RP.objPut {G : WG} {h h' : MH} {s : State} {H H' : Heap} {a c i : Nat} {v : Value} {cell : Cell} (r : RP G h s H) (hc : c < 13) (hk : kd h a = c + 1) (hi : i < cN c) (hcell : H[ad G a]? = some cell) (hcls : cell.cls = gC G c) (hvm : cell.vm = .none)
    (hsl : ∀ k, k < cN c → cell.slots[gI G c k]? = some (fv G h c a k)) (hap : ∀ x y, x < cN c → y < cN c → x ≠ y → gI G c x ≠ gI G c y) (e1 : H'[ad G a]? = some (cell.setSlot (gI G c i) v)) (hz : H'.size = H.size) (ho : ∀ q, q ≠ ad G a → H'[q]? = H[q]?)
    (en : hn h' = hn h) (ek : kd h' = kd h) (el : ln h' = ln h) (m1 : ∀ b, b ≠ a → mi h' b = mi h b) (m2 : ∀ b, b ≠ a → ml h' b = ml h b) (m3 : ∀ b, b ≠ a → mr h' b = mr h b) (hf : ∀ j, j < cN c → fv G h' c a j = updV (fv G h c a) i v j) : RP G h' s H' := by
  have hp := r.pos (a := a) (by omega) (by omega)
  refine r.upd hp.1 hz ho en ek el m1 m2 m3 ⟨fun c' hc' e => ?_, fun e => ?_, fun k k1 k2 e => ?_⟩
  · rw [ek] at e
    have : c' = c := by omega
    subst this
    exact t_OB.to (V := updV (fv G h c' a) i v) ⟨_, e1, hcls, hvm, t_set hsl hap hi v⟩ (fun j hj => (hf j hj).symm)
  · rw [ek] at e
    omega
  · rw [ek] at e
    omega
/-- an array of the run's own is written -/
theorem RP.arrPut {G : WG} {h h' : MH} {s : State} {H H' : Heap} {a k i : Nat} {v : Value} {cell : Cell} (r : RP G h s H) (k1 : 20 ≤ k) (k2 : k ≤ 28) (hk : kd h a = k) (hcls : cell.cls = gA G k) (hvm : cell.vm = .none) (hsz : cell.slots.size = ln h a)
    (hsl : ∀ j, j < ln h a → cell.slots[j]? = some (av G h k a j)) (hi : i < ln h a) (e1 : H'[ad G a]? = some (cell.setSlot i v)) (hz : H'.size = H.size) (ho : ∀ q, q ≠ ad G a → H'[q]? = H[q]?)
    (en : hn h' = hn h) (ek : kd h' = kd h) (el : ln h' = ln h) (m1 : ∀ b, b ≠ a → mi h' b = mi h b) (m2 : ∀ b, b ≠ a → ml h' b = ml h b) (m3 : ∀ b, b ≠ a → mr h' b = mr h b) (hf : ∀ j, j < ln h a → av G h' k a j = updV (av G h k a) i v j) : RP G h' s H' := by
  have hp := r.pos (a := a) (by omega) (by omega)
  refine r.upd hp.1 hz ho en ek el m1 m2 m3 ⟨fun c' hc' e => ?_, fun e => ?_, fun k' k1' k2' e => ?_⟩
  · rw [ek] at e
    omega
  · rw [ek] at e
    omega
  · rw [ek] at e
    have : k' = k := by omega
    subst this
    rw [el]
    refine ⟨_, e1, hcls, hvm, ?_, fun j hj => ?_⟩
    · simp [Cell.setSlot, hsz]
    · rw [hf j hj]
      unfold updV
      by_cases hji : j = i
      · subst hji
        simp [Cell.setSlot, hsz, hi]
      · rw [if_neg hji, slot_ne cell v (Ne.symm hji)]
        exact hsl j hj
theorem KN.arr {G : WG} {s : State} (q : KN G s) {k : Nat} (k1 : 20 ≤ k) (k2 : k ≤ 28) {cell : Cell} (hcls : cell.cls = gA G k) (hvm : cell.vm = .none) : s.isArrayOf cell (aTy k) := by
  obtain ⟨kA, comp, a1, a2, -⟩ := q.2.1 k k1 k2
  exact ⟨fun z hz => (by rw [hvm] at hz; cases hz), kA, (by rw [hcls]; exact a1), comp, a2⟩
theorem KN.apart {G : WG} {s : State} {args : Array Value} (q : KN G s) (hts : ∀ w ∈ wsG, w.before args s = true) {c : Nat} (hc : c < 13) : ∀ x y, x < cN c → y < cN c → x ≠ y → gI G c x ≠ gI G c y := by
  intro x y hx hy hne
  obtain ⟨hS, -⟩ := q.1 c hc
  obtain ⟨_, _, _, fa, hia, ea⟩ := hS x hx
  obtain ⟨_, _, _, fb, hib, eb⟩ := hS y hy
  rw [← ea, ← eb]
  refine u_apart (u_lays hts (cL c hc) hx) (u_lays hts (cL c hc) hy) hia hib ?_
  rw [(State.fieldFound?_type hia (cP c hc x hx)).1, (State.fieldFound?_type hib (cP c hc y hy)).1]
  exact cD c hc x hx y hy hne
theorem oi_inst : Cond.instanceMethod objectInit ∈ wsG := wt_p 25 (by decide +kernel)
theorem oi_code : Cond.code objectInit ⟨#[0xb1]⟩ 1 none ∈ wsG := wt_p 26 (by decide +kernel)
theorem sc_stat : Cond.static arraycopyName ∈ wsG := wt_p 278 (by decide +kernel)
theorem sc_nat : Cond.native arraycopyName ∈ wsG := wt_p 279 (by decide +kernel)
theorem sc_ini : Cond.initialized "java/lang/System" ∈ wsG := wt_p 10 (by decide +kernel)
theorem ac_int : Cond.arrayClass .int ∈ wsG := wt_p 49 (by decide +kernel)
theorem ac_long : Cond.arrayClass .long ∈ wsG := wt_p 174 (by decide +kernel)
theorem ac_boolean : Cond.arrayClass .boolean ∈ wsG := wt_p 112 (by decide +kernel)
theorem ac_char : Cond.arrayClass .char ∈ wsG := wt_p 82 (by decide +kernel)
section SH
variable {k pc : Nat} {pcs : Nat → Nat}
theorem s_get {c0 i idx t : Nat} (hc : c0 < 13) (hi : i < cN c0) (ht : fK c0 i = t) (hw : Cond.fieldLink (yM k).cls idx (cNm c0) (cT c0 i).2.1 (cT c0 i).2.2.1 ∈ wsG) (hd : decode (bM k) pc = .ok (.getfield idx, 3)) : Snd k pcs pc (pc + 3) (S_get (c0 + 1) i t) := by
  intro L st h cc ss nx jp Rt hs hN hJ p l e R s m args below meth c Q G H locs ls X F r o lr
  unfold S_get at hs
  split at hs
  · rename_i a rr
    obtain ⟨hk, hs⟩ := hs
    obtain ⟨cell, q1, q2, q3, q4⟩ := (r.2.2.1 a).1 c0 hc hk
    have h0 : a ≠ 0 := r.nz (by omega)
    obtain ⟨hS, hfc, kC, hkC, hkind⟩ := X.2.2.2.2.2.2.1.1 c0 hc
    obtain ⟨cf, kf, fi, f, hfi, hsl⟩ := hS i hi
    rw [List.map_cons, em_n h0]
    refine W.getf X.1 X.2.1 X.2.2.2.1 (X.2.2.2.2.1 _ hw) (cO c0 hc i hi ▸ hfi) (u_facts hfc hkC (u_lays X.2.2.2.2.1 (cL c0 hc) hi) hfi).1 q1 (by rw [q3]; exact fun h => by cases h) (v := fv G h c0 a i) (by rw [hsl]; exact q4 i hi) rfl rfl hd ?_
    cases t with
    | zero =>
      have e1 : fv G h c0 a i = .int (mi h a i) := by simp [fv, ht]
      rw [e1]
      exact (hN _ _ _ _ _ hs p l e R s m args below meth c Q G H locs ls X F r o lr)
    | succ t =>
      cases t with
      | zero =>
        have e1 : fv G h c0 a i = .long (ml h a i) := by simp [fv, ht]
        rw [e1]
        exact (hN _ _ _ _ _ hs p l e R s m args below meth c Q G H locs ls X F r o lr)
      | succ t =>
        have e1 : fv G h c0 a i = er G (mr h a i) := by simp [fv, ht]
        rw [e1]
        exact (hN _ _ _ _ _ hs p l e R s m args below meth c Q G H locs ls X F r o lr)
  · exact hs.elim
theorem fty_int {G : WG} {c i : Nat} (h : fK c i = 0) (x : Int32) : narrow (cTy c i) (em G (.int x)) = em G (.int x) ∧ fits (cTy c i) (em G (.int x)) = true := by
  unfold fK fKof at h
  split at h
  · rename_i e; rw [e]; exact ⟨rfl, rfl⟩
  · cases h
  · cases h
theorem fty_long {G : WG} {c i : Nat} (h : fK c i = 1) (x : Int64) : narrow (cTy c i) (em G (.long x)) = em G (.long x) ∧ fits (cTy c i) (em G (.long x)) = true := by
  unfold fK fKof at h
  split at h
  · cases h
  · rename_i e; rw [e]; exact ⟨rfl, rfl⟩
  · cases h
theorem cTy_ref : ∀ c, c < 13 → ∀ i, i < cN c → fK c i = 2 → (match cTy c i with | .object _ => true | .array _ => true | _ => false) = true := by decide +kernel
theorem fty_ref0 {G : WG} {c i : Nat} (hc : c < 13) (hi : i < cN c) (h : fK c i = 2) (x : Nat) : narrow (cTy c i) (em G (.ref x)) = em G (.ref x) ∧ fits (cTy c i) (em G (.ref x)) = true := by
  have h1 := cTy_ref c hc i hi h
  have h2 : em G (.ref x) = .null ∨ ∃ a, em G (.ref x) = .ref a := by
    show er G x = .null ∨ ∃ a, er G x = .ref a
    unfold er
    split
    · exact Or.inl rfl
    · exact Or.inr ⟨_, rfl⟩
  split at h1
  · rename_i e; rw [e]
    rcases h2 with e2 | ⟨a, e2⟩ <;> rw [e2] <;> exact ⟨rfl, rfl⟩
  · rename_i e; rw [e]
    rcases h2 with e2 | ⟨a, e2⟩ <;> rw [e2] <;> exact ⟨rfl, rfl⟩
  · cases h1
theorem s_pi {c0 i idx : Nat} (hc : c0 < 13) (hi : i < cN c0) (ht : fK c0 i = 0) (hfin : (cT c0 i).2.2.2 = false) (hw : Cond.fieldLink (yM k).cls idx (cNm c0) (cT c0 i).2.1 (cT c0 i).2.2.1 ∈ wsG) (hd : decode (bM k) pc = .ok (.putfield idx, 3)) : Snd k pcs pc (pc + 3) (S_pi (c0 + 1) i) := by
  intro L st h cc ss nx jp Rt hs hN hJ p l e R s m args below meth c Q G H locs ls X F r o lr
  unfold S_pi at hs
  split at hs
  · rename_i x a rr
    obtain ⟨hk, hs⟩ := hs
    obtain ⟨cell, q1, q2, q3, q4⟩ := (r.2.2.1 a).1 c0 hc hk
    have h0 : a ≠ 0 := r.nz (by omega)
    have hp := r.pos (a := a) (by omega) (by omega)
    obtain ⟨hS, hfc, kC, hkC, hkind⟩ := X.2.2.2.2.2.2.1.1 c0 hc
    obtain ⟨cf, kf, fi, f, hfi, hsl⟩ := hS i hi
    have hap := X.2.2.2.2.2.2.1.apart X.2.2.2.2.1 hc
    have hlay := X.2.2.2.2.1 _ (cL c0 hc _ (u_in_lay hi))
    unfold u_lay at hlay
    rw [if_neg (by rw [hfin]; decide)] at hlay
    have hst := (u_facts hfc hkC (u_lays X.2.2.2.2.1 (cL c0 hc) hi) hfi).1
    have hty := fty_int ht (G := G) x
    rw [List.map_cons, List.map_cons, em_n h0]
    have h6 := u_store hfc hkC hkind hlay hfi (cP c0 hc i hi) hty.1 hty.2
    refine W.putK X.1 X.2.1 (f := f) (v := em G (.int x)) ⟨X.2.2.2.1, X.2.2.2.2.1 _ hw, ⟨_, _, _, cO c0 hc i hi ▸ hfi⟩, hst⟩ (by rw [q2]; exact h6) q1 q3 (by rw [hsl]; exact k2_hasslot (q4 i hi)) rfl rfl hd fun H' e1 e2 e3 => ?_
    rw [hsl] at e1 ⊢
    have r' : RP G (wi h a i x) s H' := by
      refine r.objPut hc hk hi q1 q2 q3 q4 hap e1 e2 e3 rfl rfl rfl ?_ ?_ ?_ (fun j hj => ?_)
      · intro b hb; funext j; exact up2_n (Or.inl hb)
      · intro b hb; rfl
      · intro b hb; rfl
      · unfold updV
        by_cases hji : j = i
        · subst hji
          rw [if_pos rfl]
          unfold fv
          rw [ht]
          show Value.int (up2 (mi h) a j x a j) = _
          rw [up2_s]
          rfl
        · rw [if_neg hji]
          have e4 : mi (wi h a i x) a j = mi h a j := up2_n (Or.inr hji)
          unfold fv
          split
          · rw [e4]
          · rfl
          · rfl
    exact (hN _ _ _ _ _ hs p l e R s m args below meth c Q G H' _ ls X F r' (o.put (ad_le hp.1)) lr)
  · exact hs.elim
theorem s_pl {c0 i idx : Nat} (hc : c0 < 13) (hi : i < cN c0) (ht : fK c0 i = 1) (hfin : (cT c0 i).2.2.2 = false) (hw : Cond.fieldLink (yM k).cls idx (cNm c0) (cT c0 i).2.1 (cT c0 i).2.2.1 ∈ wsG) (hd : decode (bM k) pc = .ok (.putfield idx, 3)) : Snd k pcs pc (pc + 3) (S_pl (c0 + 1) i) := by
  intro L st h cc ss nx jp Rt hs hN hJ p l e R s m args below meth c Q G H locs ls X F r o lr
  unfold S_pl at hs
  split at hs
  · rename_i x a rr
    obtain ⟨hk, hs⟩ := hs
    obtain ⟨cell, q1, q2, q3, q4⟩ := (r.2.2.1 a).1 c0 hc hk
    have h0 : a ≠ 0 := r.nz (by omega)
    have hp := r.pos (a := a) (by omega) (by omega)
    obtain ⟨hS, hfc, kC, hkC, hkind⟩ := X.2.2.2.2.2.2.1.1 c0 hc
    obtain ⟨cf, kf, fi, f, hfi, hsl⟩ := hS i hi
    have hap := X.2.2.2.2.2.2.1.apart X.2.2.2.2.1 hc
    have hlay := X.2.2.2.2.1 _ (cL c0 hc _ (u_in_lay hi))
    unfold u_lay at hlay
    rw [if_neg (by rw [hfin]; decide)] at hlay
    have hst := (u_facts hfc hkC (u_lays X.2.2.2.2.1 (cL c0 hc) hi) hfi).1
    have hty := fty_long ht (G := G) x
    rw [List.map_cons, List.map_cons, em_n h0]
    have h6 := u_store hfc hkC hkind hlay hfi (cP c0 hc i hi) hty.1 hty.2
    refine W.putK X.1 X.2.1 (f := f) (v := em G (.long x)) ⟨X.2.2.2.1, X.2.2.2.2.1 _ hw, ⟨_, _, _, cO c0 hc i hi ▸ hfi⟩, hst⟩ (by rw [q2]; exact h6) q1 q3 (by rw [hsl]; exact k2_hasslot (q4 i hi)) rfl rfl hd fun H' e1 e2 e3 => ?_
    rw [hsl] at e1 ⊢
    have r' : RP G (wl h a i x) s H' := by
      refine r.objPut hc hk hi q1 q2 q3 q4 hap e1 e2 e3 rfl rfl rfl ?_ ?_ ?_ (fun j hj => ?_)
      · intro b hb; rfl
      · intro b hb; funext j; exact up2_n (Or.inl hb)
      · intro b hb; rfl
      · unfold updV
        by_cases hji : j = i
        · subst hji
          rw [if_pos rfl]
          unfold fv
          rw [ht]
          show Value.long (up2 (ml h) a j x a j) = _
          rw [up2_s]
          rfl
        · rw [if_neg hji]
          have e4 : ml (wl h a i x) a j = ml h a j := up2_n (Or.inr hji)
          unfold fv
          split
          · rfl
          · rw [e4]
          · rfl
    exact (hN _ _ _ _ _ hs p l e R s m args below meth c Q G H' _ ls X F r' (o.put (ad_le hp.1)) lr)
  · exact hs.elim
theorem s_pr {c0 i idx : Nat} (hc : c0 < 13) (hi : i < cN c0) (ht : fK c0 i = 2) (hfin : (cT c0 i).2.2.2 = false) (hw : Cond.fieldLink (yM k).cls idx (cNm c0) (cT c0 i).2.1 (cT c0 i).2.2.1 ∈ wsG) (hd : decode (bM k) pc = .ok (.putfield idx, 3)) : Snd k pcs pc (pc + 3) (S_pr (c0 + 1) i) := by
  intro L st h cc ss nx jp Rt hs hN hJ p l e R s m args below meth c Q G H locs ls X F r o lr
  unfold S_pr at hs
  split at hs
  · rename_i x a rr
    obtain ⟨hk, hs⟩ := hs
    obtain ⟨cell, q1, q2, q3, q4⟩ := (r.2.2.1 a).1 c0 hc hk
    have h0 : a ≠ 0 := r.nz (by omega)
    have hp := r.pos (a := a) (by omega) (by omega)
    obtain ⟨hS, hfc, kC, hkC, hkind⟩ := X.2.2.2.2.2.2.1.1 c0 hc
    obtain ⟨cf, kf, fi, f, hfi, hsl⟩ := hS i hi
    have hap := X.2.2.2.2.2.2.1.apart X.2.2.2.2.1 hc
    have hlay := X.2.2.2.2.1 _ (cL c0 hc _ (u_in_lay hi))
    unfold u_lay at hlay
    rw [if_neg (by rw [hfin]; decide)] at hlay
    have hst := (u_facts hfc hkC (u_lays X.2.2.2.2.1 (cL c0 hc) hi) hfi).1
    have hty := fty_ref0 hc hi ht (G := G) x
    rw [List.map_cons, List.map_cons, em_n h0]
    have h6 := u_store hfc hkC hkind hlay hfi (cP c0 hc i hi) hty.1 hty.2
    refine W.putK X.1 X.2.1 (f := f) (v := em G (.ref x)) ⟨X.2.2.2.1, X.2.2.2.2.1 _ hw, ⟨_, _, _, cO c0 hc i hi ▸ hfi⟩, hst⟩ (by rw [q2]; exact h6) q1 q3 (by rw [hsl]; exact k2_hasslot (q4 i hi)) rfl rfl hd fun H' e1 e2 e3 => ?_
    rw [hsl] at e1 ⊢
    have r' : RP G (wr h a i x) s H' := by
      refine r.objPut hc hk hi q1 q2 q3 q4 hap e1 e2 e3 rfl rfl rfl ?_ ?_ ?_ (fun j hj => ?_)
      · intro b hb; rfl
      · intro b hb; rfl
      · intro b hb; funext j; exact up2_n (Or.inl hb)
      · unfold updV
        by_cases hji : j = i
        · subst hji
          rw [if_pos rfl]
          unfold fv
          rw [ht]
          show er G (up2 (mr h) a j x a j) = _
          rw [up2_s]
          rfl
        · rw [if_neg hji]
          have e4 : mr (wr h a i x) a j = mr h a j := up2_n (Or.inr hji)
          unfold fv
          split
          · rfl
          · rfl
          · rw [e4]
    exact (hN _ _ _ _ _ hs p l e R s m args below meth c Q G H' _ ls X F r' (o.put (ad_le hp.1)) lr)
  · exact hs.elim
theorem s_piF {c0 i idx : Nat} (hc : c0 < 13) (hi : i < cN c0) (ht : fK c0 i = 0) (hfin : (cT c0 i).2.2.2 = true) (hini : isIni k = true) (hdl : cNm c0 = (yM k).cls) (hw : Cond.fieldLink (yM k).cls idx (cNm c0) (cT c0 i).2.1 (cT c0 i).2.2.1 ∈ wsG) (hd : decode (bM k) pc = .ok (.putfield idx, 3)) : Snd k pcs pc (pc + 3) (S_pi (c0 + 1) i) := by
  intro L st h cc ss nx jp Rt hs hN hJ p l e R s m args below meth c Q G H locs ls X F r o lr
  unfold S_pi at hs
  split at hs
  · rename_i x a rr
    obtain ⟨hk, hs⟩ := hs
    obtain ⟨cell, q1, q2, q3, q4⟩ := (r.2.2.1 a).1 c0 hc hk
    have h0 : a ≠ 0 := r.nz (by omega)
    have hp := r.pos (a := a) (by omega) (by omega)
    obtain ⟨hS, hfc, kC, hkC, hkind⟩ := X.2.2.2.2.2.2.1.1 c0 hc
    obtain ⟨cf, kf, fi, f, hfi, hsl⟩ := hS i hi
    have hap := X.2.2.2.2.2.2.1.apart X.2.2.2.2.1 hc
    have hlay := X.2.2.2.2.1 _ (cL c0 hc _ (u_in_lay hi))
    unfold u_lay at hlay
    rw [if_pos (by rw [hfin])] at hlay
    have hst := (u_facts hfc hkC (u_lays X.2.2.2.2.1 (cL c0 hc) hi) hfi).1
    have hty := fty_int ht (G := G) x
    rw [List.map_cons, List.map_cons, em_n h0]
    have hcf : m.cls = cf := by
      obtain ⟨_, _, c', _, _, _, -, -, hf', -, -, -, hown2, -⟩ := Cond.laysFinal_spec hlay
      have e1 : c' = cf := by have := hfi.symm.trans hf'; simp at this; exact this.1.symm
      rw [cO c0 hc i hi, hdl] at hown2
      rw [← e1]; exact Option.some.inj (X.2.2.2.1.symm.trans hown2)
    have h6 := u_fits hfc hkC hkind (Or.inr hlay) hfi (cP c0 hc i hi) hty.1 hty.2
    refine W.putFinK X.1 X.2.1 (f := f) (v := em G (.int x)) X.2.2.2.1 (X.2.2.2.2.1 _ hw) (cO c0 hc i hi ▸ hfi) hst hcf (X.2.2.2.2.2.2.2.2 hini) (by rw [q2]; exact h6) q1 q3 (by rw [hsl]; exact k2_hasslot (q4 i hi)) rfl rfl hd fun H' e1 e2 e3 => ?_
    rw [hsl] at e1 ⊢
    have r' : RP G (wi h a i x) s H' := by
      refine r.objPut hc hk hi q1 q2 q3 q4 hap e1 e2 e3 rfl rfl rfl ?_ ?_ ?_ (fun j hj => ?_)
      · intro b hb; funext j; exact up2_n (Or.inl hb)
      · intro b hb; rfl
      · intro b hb; rfl
      · unfold updV
        by_cases hji : j = i
        · subst hji
          rw [if_pos rfl]
          unfold fv
          rw [ht]
          show Value.int (up2 (mi h) a j x a j) = _
          rw [up2_s]
          rfl
        · rw [if_neg hji]
          have e4 : mi (wi h a i x) a j = mi h a j := up2_n (Or.inr hji)
          unfold fv
          split
          · rw [e4]
          · rfl
          · rfl
    exact (hN _ _ _ _ _ hs p l e R s m args below meth c Q G H' _ ls X F r' (o.put (ad_le hp.1)) lr)
  · exact hs.elim
theorem s_prF {c0 i idx : Nat} (hc : c0 < 13) (hi : i < cN c0) (ht : fK c0 i = 2) (hfin : (cT c0 i).2.2.2 = true) (hini : isIni k = true) (hdl : cNm c0 = (yM k).cls) (hw : Cond.fieldLink (yM k).cls idx (cNm c0) (cT c0 i).2.1 (cT c0 i).2.2.1 ∈ wsG) (hd : decode (bM k) pc = .ok (.putfield idx, 3)) : Snd k pcs pc (pc + 3) (S_pr (c0 + 1) i) := by
  intro L st h cc ss nx jp Rt hs hN hJ p l e R s m args below meth c Q G H locs ls X F r o lr
  unfold S_pr at hs
  split at hs
  · rename_i x a rr
    obtain ⟨hk, hs⟩ := hs
    obtain ⟨cell, q1, q2, q3, q4⟩ := (r.2.2.1 a).1 c0 hc hk
    have h0 : a ≠ 0 := r.nz (by omega)
    have hp := r.pos (a := a) (by omega) (by omega)
    obtain ⟨hS, hfc, kC, hkC, hkind⟩ := X.2.2.2.2.2.2.1.1 c0 hc
    obtain ⟨cf, kf, fi, f, hfi, hsl⟩ := hS i hi
    have hap := X.2.2.2.2.2.2.1.apart X.2.2.2.2.1 hc
    have hlay := X.2.2.2.2.1 _ (cL c0 hc _ (u_in_lay hi))
    unfold u_lay at hlay
    rw [if_pos (by rw [hfin])] at hlay
    have hst := (u_facts hfc hkC (u_lays X.2.2.2.2.1 (cL c0 hc) hi) hfi).1
    have hty := fty_ref0 hc hi ht (G := G) x
    rw [List.map_cons, List.map_cons, em_n h0]
    have hcf : m.cls = cf := by
      obtain ⟨_, _, c', _, _, _, -, -, hf', -, -, -, hown2, -⟩ := Cond.laysFinal_spec hlay
      have e1 : c' = cf := by have := hfi.symm.trans hf'; simp at this; exact this.1.symm
      rw [cO c0 hc i hi, hdl] at hown2
      rw [← e1]; exact Option.some.inj (X.2.2.2.1.symm.trans hown2)
    have h6 := u_fits hfc hkC hkind (Or.inr hlay) hfi (cP c0 hc i hi) hty.1 hty.2
    refine W.putFinK X.1 X.2.1 (f := f) (v := em G (.ref x)) X.2.2.2.1 (X.2.2.2.2.1 _ hw) (cO c0 hc i hi ▸ hfi) hst hcf (X.2.2.2.2.2.2.2.2 hini) (by rw [q2]; exact h6) q1 q3 (by rw [hsl]; exact k2_hasslot (q4 i hi)) rfl rfl hd fun H' e1 e2 e3 => ?_
    rw [hsl] at e1 ⊢
    have r' : RP G (wr h a i x) s H' := by
      refine r.objPut hc hk hi q1 q2 q3 q4 hap e1 e2 e3 rfl rfl rfl ?_ ?_ ?_ (fun j hj => ?_)
      · intro b hb; rfl
      · intro b hb; rfl
      · intro b hb; funext j; exact up2_n (Or.inl hb)
      · unfold updV
        by_cases hji : j = i
        · subst hji
          rw [if_pos rfl]
          unfold fv
          rw [ht]
          show er G (up2 (mr h) a j x a j) = _
          rw [up2_s]
          rfl
        · rw [if_neg hji]
          have e4 : mr (wr h a i x) a j = mr h a j := up2_n (Or.inr hji)
          unfold fv
          split
          · rfl
          · rfl
          · rw [e4]
    exact (hN _ _ _ _ _ hs p l e R s m args below meth c Q G H' _ ls X F r' (o.put (ad_le hp.1)) lr)
  · exact hs.elim
theorem s_iald (hd : decode (bM k) pc = .ok (.iaload, 1)) : Snd k pcs pc (pc + 1) (S_iald 20) := by
  intro L st h cc ss nx jp Rt hs hN hJ p l e R s m args below meth c Q G H locs ls X F r o lr
  unfold S_iald at hs
  split at hs
  · rename_i i a rr
    obtain ⟨hk, hi, hs⟩ := hs
    obtain ⟨cell, q1, q2, q3, q4, q5⟩ := (r.2.2.1 a).2.2 20 (by decide) (by decide) hk
    have h0 : a ≠ 0 := r.nz (by omega)
    rw [List.map_cons, List.map_cons, em_n h0]
    exact W.iald X.1 X.2.1 q1 (X.2.2.2.2.2.2.1.arr (k := 20) (by decide) (by decide) q2 q3) (by rw [q3]; exact fun h => by cases h) (by rw [q4]; exact hi.vp) (q5 _ (ix_lt hi)) rfl rfl hd (hN _ _ _ _ _ hs p l e R s m args below meth c Q G H locs ls X F r o lr)
  · exact hs.elim
theorem s_lald (hd : decode (bM k) pc = .ok (.laload, 1)) : Snd k pcs pc (pc + 1) (S_lald) := by
  intro L st h cc ss nx jp Rt hs hN hJ p l e R s m args below meth c Q G H locs ls X F r o lr
  unfold S_lald at hs
  split at hs
  · rename_i i a rr
    obtain ⟨hk, hi, hs⟩ := hs
    obtain ⟨cell, q1, q2, q3, q4, q5⟩ := (r.2.2.1 a).2.2 21 (by decide) (by decide) hk
    have h0 : a ≠ 0 := r.nz (by omega)
    rw [List.map_cons, List.map_cons, em_n h0]
    exact W.lald X.1 X.2.1 q1 (X.2.2.2.2.2.2.1.arr (k := 21) (by decide) (by decide) q2 q3) (by rw [q3]; exact fun h => by cases h) (by rw [q4]; exact hi.vp) (q5 _ (ix_lt hi)) rfl rfl hd (hN _ _ _ _ _ hs p l e R s m args below meth c Q G H locs ls X F r o lr)
  · exact hs.elim
theorem s_zald (hd : decode (bM k) pc = .ok (.baload, 1)) : Snd k pcs pc (pc + 1) (S_iald 22) := by
  intro L st h cc ss nx jp Rt hs hN hJ p l e R s m args below meth c Q G H locs ls X F r o lr
  unfold S_iald at hs
  split at hs
  · rename_i i a rr
    obtain ⟨hk, hi, hs⟩ := hs
    obtain ⟨cell, q1, q2, q3, q4, q5⟩ := (r.2.2.1 a).2.2 22 (by decide) (by decide) hk
    have h0 : a ≠ 0 := r.nz (by omega)
    rw [List.map_cons, List.map_cons, em_n h0]
    exact W.zald X.1 X.2.1 q1 (X.2.2.2.2.2.2.1.arr (k := 22) (by decide) (by decide) q2 q3) (by rw [q3]; exact fun h => by cases h) (by rw [q4]; exact hi.vp) (q5 _ (ix_lt hi)) rfl rfl hd (hN _ _ _ _ _ hs p l e R s m args below meth c Q G H locs ls X F r o lr)
  · exact hs.elim
theorem s_cald (hd : decode (bM k) pc = .ok (.caload, 1)) : Snd k pcs pc (pc + 1) (S_iald 23) := by
  intro L st h cc ss nx jp Rt hs hN hJ p l e R s m args below meth c Q G H locs ls X F r o lr
  unfold S_iald at hs
  split at hs
  · rename_i i a rr
    obtain ⟨hk, hi, hs⟩ := hs
    obtain ⟨cell, q1, q2, q3, q4, q5⟩ := (r.2.2.1 a).2.2 23 (by decide) (by decide) hk
    have h0 : a ≠ 0 := r.nz (by omega)
    rw [List.map_cons, List.map_cons, em_n h0]
    exact W.cald X.1 X.2.1 q1 (X.2.2.2.2.2.2.1.arr (k := 23) (by decide) (by decide) q2 q3) (by rw [q3]; exact fun h => by cases h) (by rw [q4]; exact hi.vp) (q5 _ (ix_lt hi)) rfl rfl hd (hN _ _ _ _ _ hs p l e R s m args below meth c Q G H locs ls X F r o lr)
  · exact hs.elim
theorem s_aald24 (hd : decode (bM k) pc = .ok (.aaload, 1)) : Snd k pcs pc (pc + 1) (S_aald 24) := by
  intro L st h cc ss nx jp Rt hs hN hJ p l e R s m args below meth c Q G H locs ls X F r o lr
  unfold S_aald at hs
  split at hs
  · rename_i i a rr
    obtain ⟨hk, hi, hs⟩ := hs
    obtain ⟨cell, q1, q2, q3, q4, q5⟩ := (r.2.2.1 a).2.2 24 (by decide) (by decide) hk
    have h0 : a ≠ 0 := r.nz (by omega)
    rw [List.map_cons, List.map_cons, em_n h0]
    exact W.aald X.1 X.2.1 q1 (X.2.2.2.2.2.2.1.arr (k := 24) (by decide) (by decide) q2 q3) rfl (by rw [q3]; exact fun h => by cases h) (by rw [q4]; exact hi.vp) (q5 _ (ix_lt hi)) rfl rfl hd (hN _ _ _ _ _ hs p l e R s m args below meth c Q G H locs ls X F r o lr)
  · exact hs.elim
theorem s_aald25 (hd : decode (bM k) pc = .ok (.aaload, 1)) : Snd k pcs pc (pc + 1) (S_aald 25) := by
  intro L st h cc ss nx jp Rt hs hN hJ p l e R s m args below meth c Q G H locs ls X F r o lr
  unfold S_aald at hs
  split at hs
  · rename_i i a rr
    obtain ⟨hk, hi, hs⟩ := hs
    obtain ⟨cell, q1, q2, q3, q4, q5⟩ := (r.2.2.1 a).2.2 25 (by decide) (by decide) hk
    have h0 : a ≠ 0 := r.nz (by omega)
    rw [List.map_cons, List.map_cons, em_n h0]
    exact W.aald X.1 X.2.1 q1 (X.2.2.2.2.2.2.1.arr (k := 25) (by decide) (by decide) q2 q3) rfl (by rw [q3]; exact fun h => by cases h) (by rw [q4]; exact hi.vp) (q5 _ (ix_lt hi)) rfl rfl hd (hN _ _ _ _ _ hs p l e R s m args below meth c Q G H locs ls X F r o lr)
  · exact hs.elim
theorem s_aald26 (hd : decode (bM k) pc = .ok (.aaload, 1)) : Snd k pcs pc (pc + 1) (S_aald 26) := by
  intro L st h cc ss nx jp Rt hs hN hJ p l e R s m args below meth c Q G H locs ls X F r o lr
  unfold S_aald at hs
  split at hs
  · rename_i i a rr
    obtain ⟨hk, hi, hs⟩ := hs
    obtain ⟨cell, q1, q2, q3, q4, q5⟩ := (r.2.2.1 a).2.2 26 (by decide) (by decide) hk
    have h0 : a ≠ 0 := r.nz (by omega)
    rw [List.map_cons, List.map_cons, em_n h0]
    exact W.aald X.1 X.2.1 q1 (X.2.2.2.2.2.2.1.arr (k := 26) (by decide) (by decide) q2 q3) rfl (by rw [q3]; exact fun h => by cases h) (by rw [q4]; exact hi.vp) (q5 _ (ix_lt hi)) rfl rfl hd (hN _ _ _ _ _ hs p l e R s m args below meth c Q G H locs ls X F r o lr)
  · exact hs.elim
theorem s_aald27 (hd : decode (bM k) pc = .ok (.aaload, 1)) : Snd k pcs pc (pc + 1) (S_aald 27) := by
  intro L st h cc ss nx jp Rt hs hN hJ p l e R s m args below meth c Q G H locs ls X F r o lr
  unfold S_aald at hs
  split at hs
  · rename_i i a rr
    obtain ⟨hk, hi, hs⟩ := hs
    obtain ⟨cell, q1, q2, q3, q4, q5⟩ := (r.2.2.1 a).2.2 27 (by decide) (by decide) hk
    have h0 : a ≠ 0 := r.nz (by omega)
    rw [List.map_cons, List.map_cons, em_n h0]
    exact W.aald X.1 X.2.1 q1 (X.2.2.2.2.2.2.1.arr (k := 27) (by decide) (by decide) q2 q3) rfl (by rw [q3]; exact fun h => by cases h) (by rw [q4]; exact hi.vp) (q5 _ (ix_lt hi)) rfl rfl hd (hN _ _ _ _ _ hs p l e R s m args below meth c Q G H locs ls X F r o lr)
  · exact hs.elim
theorem s_aald28 (hd : decode (bM k) pc = .ok (.aaload, 1)) : Snd k pcs pc (pc + 1) (S_aald 28) := by
  intro L st h cc ss nx jp Rt hs hN hJ p l e R s m args below meth c Q G H locs ls X F r o lr
  unfold S_aald at hs
  split at hs
  · rename_i i a rr
    obtain ⟨hk, hi, hs⟩ := hs
    obtain ⟨cell, q1, q2, q3, q4, q5⟩ := (r.2.2.1 a).2.2 28 (by decide) (by decide) hk
    have h0 : a ≠ 0 := r.nz (by omega)
    rw [List.map_cons, List.map_cons, em_n h0]
    exact W.aald X.1 X.2.1 q1 (X.2.2.2.2.2.2.1.arr (k := 28) (by decide) (by decide) q2 q3) rfl (by rw [q3]; exact fun h => by cases h) (by rw [q4]; exact hi.vp) (q5 _ (ix_lt hi)) rfl rfl hd (hN _ _ _ _ _ hs p l e R s m args below meth c Q G H locs ls X F r o lr)
  · exact hs.elim
theorem s_ialdR (hd : decode (bM k) pc = .ok (.iaload, 1)) : Snd k pcs pc (pc + 1) (S_iald 19) := by
  intro L st h cc ss nx jp Rt hs hN hJ p l e R s m args below meth c Q G H locs ls X F r o lr
  unfold S_iald at hs
  split at hs
  · rename_i i a rr
    obtain ⟨hk, hi, hs⟩ := hs
    obtain ⟨cell, q1, q2, q3, q4, q5⟩ := (r.2.2.1 a).2.1 hk
    have h0 : a ≠ 0 := r.nz (by omega)
    rw [List.map_cons, List.map_cons, em_n h0]
    exact W.iald X.1 X.2.1 q1 q2 q3 (by rw [q4]; exact hi.vp) (q5 _ (ix_lt hi)) rfl rfl hd (hN _ _ _ _ _ hs p l e R s m args below meth c Q G H locs ls X F r o lr)
  · exact hs.elim
theorem s_lenR (hd : decode (bM k) pc = .ok (.arraylength, 1)) : Snd k pcs pc (pc + 1) (S_len 19) := by
  intro L st h cc ss nx jp Rt hs hN hJ p l e R s m args below meth c Q G H locs ls X F r o lr
  unfold S_len at hs
  split at hs
  · rename_i a rr
    obtain ⟨hk, hs⟩ := hs
    obtain ⟨cell, q1, q2, q3, q4, q5⟩ := (r.2.2.1 a).2.1 hk
    have h0 : a ≠ 0 := r.nz (by omega)
    rw [List.map_cons, em_n h0]
    exact W.alen (n := Int32.ofNat (ln h a)) X.1 X.2.1 q1 q2 (by rw [q4] <;> rfl) rfl rfl hd (hN _ _ _ _ _ hs p l e R s m args below meth c Q G H locs ls X F r o lr)
  · exact hs.elim
theorem s_len {q : Nat} (k1 : 20 ≤ q) (k2 : q ≤ 28) (hd : decode (bM k) pc = .ok (.arraylength, 1)) : Snd k pcs pc (pc + 1) (S_len q) := by
  intro L st h cc ss nx jp Rt hs hN hJ p l e R s m args below meth c Q G H locs ls X F r o lr
  unfold S_len at hs
  split at hs
  · rename_i a rr
    obtain ⟨hk, hs⟩ := hs
    obtain ⟨cell, q1, q2, q3, q4, q5⟩ := (r.2.2.1 a).2.2 q k1 k2 hk
    have h0 : a ≠ 0 := r.nz (by omega)
    rw [List.map_cons, em_n h0]
    exact W.alen (n := Int32.ofNat (ln h a)) X.1 X.2.1 q1 (X.2.2.2.2.2.2.1.arr k1 k2 q2 q3) (by rw [q4] <;> rfl) rfl rfl hd (hN _ _ _ _ _ hs p l e R s m args below meth c Q G H locs ls X F r o lr)
  · exact hs.elim
theorem s_iast (hd : decode (bM k) pc = .ok (.iastore, 1)) : Snd k pcs pc (pc + 1) (S_iast) := by
  intro L st h cc ss nx jp Rt hs hN hJ p l e R s m args below meth c Q G H locs ls X F r o lr
  unfold S_iast at hs
  split at hs
  · rename_i x i a rr
    obtain ⟨hk, hi, hs⟩ := hs
    obtain ⟨cell, q1, q2, q3, q4, q5⟩ := (r.2.2.1 a).2.2 20 (by decide) (by decide) hk
    have h0 : a ≠ 0 := r.nz (by omega)
    have hp := r.pos (a := a) (by omega) (by omega)
    rw [List.map_cons, List.map_cons, List.map_cons, em_n h0]
    refine W.iast X.1 X.2.1 q1 (X.2.2.2.2.2.2.1.arr (k := 20) (by decide) (by decide) q2 q3) (by rw [q3]; exact fun h => by cases h) (by rw [q4]; exact hi.vp) rfl rfl hd fun H' e1 e2 e3 => ?_
    have r' : RP G (wi h a (ix i) x) s H' := by
      refine r.arrPut (k := 20) (by decide) (by decide) hk q2 q3 q4 q5 (ix_lt hi) e1 e2 e3 rfl rfl rfl ?_ ?_ ?_ (fun j hj => ?_)
      · intro b hb; funext j; exact up2_n (Or.inl hb)
      · intro b hb; rfl
      · intro b hb; rfl
      · unfold updV
        by_cases hji : j = ix i
        · subst hji
          rw [if_pos rfl]
          show Value.int (up2 (mi h) a (ix i) x a (ix i)) = _
          rw [up2_s]
        · rw [if_neg hji]
          show Value.int (up2 (mi h) a (ix i) x a j) = _
          rw [up2_n (Or.inr hji)]
          rfl
    exact (hN _ _ _ _ _ hs p l e R s m args below meth c Q G H' _ ls X F r' (o.put (ad_le hp.1)) lr)
  · exact hs.elim
theorem s_last (hd : decode (bM k) pc = .ok (.lastore, 1)) : Snd k pcs pc (pc + 1) (S_last) := by
  intro L st h cc ss nx jp Rt hs hN hJ p l e R s m args below meth c Q G H locs ls X F r o lr
  unfold S_last at hs
  split at hs
  · rename_i x i a rr
    obtain ⟨hk, hi, hs⟩ := hs
    obtain ⟨cell, q1, q2, q3, q4, q5⟩ := (r.2.2.1 a).2.2 21 (by decide) (by decide) hk
    have h0 : a ≠ 0 := r.nz (by omega)
    have hp := r.pos (a := a) (by omega) (by omega)
    rw [List.map_cons, List.map_cons, List.map_cons, em_n h0]
    refine W.last X.1 X.2.1 q1 (X.2.2.2.2.2.2.1.arr (k := 21) (by decide) (by decide) q2 q3) (by rw [q3]; exact fun h => by cases h) (by rw [q4]; exact hi.vp) rfl rfl hd fun H' e1 e2 e3 => ?_
    have r' : RP G (wl h a (ix i) x) s H' := by
      refine r.arrPut (k := 21) (by decide) (by decide) hk q2 q3 q4 q5 (ix_lt hi) e1 e2 e3 rfl rfl rfl ?_ ?_ ?_ (fun j hj => ?_)
      · intro b hb; rfl
      · intro b hb; funext j; exact up2_n (Or.inl hb)
      · intro b hb; rfl
      · unfold updV
        by_cases hji : j = ix i
        · subst hji
          rw [if_pos rfl]
          show Value.long (up2 (ml h) a (ix i) x a (ix i)) = _
          rw [up2_s]
        · rw [if_neg hji]
          show Value.long (up2 (ml h) a (ix i) x a j) = _
          rw [up2_n (Or.inr hji)]
          rfl
    exact (hN _ _ _ _ _ hs p l e R s m args below meth c Q G H' _ ls X F r' (o.put (ad_le hp.1)) lr)
  · exact hs.elim
theorem s_zast (hd : decode (bM k) pc = .ok (.bastore, 1)) : Snd k pcs pc (pc + 1) (S_zast) := by
  intro L st h cc ss nx jp Rt hs hN hJ p l e R s m args below meth c Q G H locs ls X F r o lr
  unfold S_zast at hs
  split at hs
  · rename_i x i a rr
    obtain ⟨hk, hi, hb, hs⟩ := hs
    obtain ⟨cell, q1, q2, q3, q4, q5⟩ := (r.2.2.1 a).2.2 22 (by decide) (by decide) hk
    have h0 : a ≠ 0 := r.nz (by omega)
    have hp := r.pos (a := a) (by omega) (by omega)
    rw [List.map_cons, List.map_cons, List.map_cons, em_n h0]
    refine W.zast X.1 X.2.1 q1 (X.2.2.2.2.2.2.1.arr (k := 22) (by decide) (by decide) q2 q3) (by rw [q3]; exact fun h => by cases h) (by rw [q4]; exact hi.vp) rfl rfl hd fun H' e1 e2 e3 => ?_
    rw [show narrow .boolean (.int x) = .int x by rcases hb with rfl | rfl <;> rfl] at e1
    have r' : RP G (wi h a (ix i) x) s H' := by
      refine r.arrPut (k := 22) (by decide) (by decide) hk q2 q3 q4 q5 (ix_lt hi) e1 e2 e3 rfl rfl rfl ?_ ?_ ?_ (fun j hj => ?_)
      · intro b hb; funext j; exact up2_n (Or.inl hb)
      · intro b hb; rfl
      · intro b hb; rfl
      · unfold updV
        by_cases hji : j = ix i
        · subst hji
          rw [if_pos rfl]
          show Value.int (up2 (mi h) a (ix i) x a (ix i)) = _
          rw [up2_s]
        · rw [if_neg hji]
          show Value.int (up2 (mi h) a (ix i) x a j) = _
          rw [up2_n (Or.inr hji)]
          rfl
    exact (hN _ _ _ _ _ hs p l e R s m args below meth c Q G H' _ ls X F r' (o.put (ad_le hp.1)) lr)
  · exact hs.elim
theorem s_cast (hd : decode (bM k) pc = .ok (.castore, 1)) : Snd k pcs pc (pc + 1) (S_cast) := by
  intro L st h cc ss nx jp Rt hs hN hJ p l e R s m args below meth c Q G H locs ls X F r o lr
  unfold S_cast at hs
  split at hs
  · rename_i x i a rr
    obtain ⟨hk, hi, hb, hs⟩ := hs
    obtain ⟨cell, q1, q2, q3, q4, q5⟩ := (r.2.2.1 a).2.2 23 (by decide) (by decide) hk
    have h0 : a ≠ 0 := r.nz (by omega)
    have hp := r.pos (a := a) (by omega) (by omega)
    rw [List.map_cons, List.map_cons, List.map_cons, em_n h0]
    refine W.cast X.1 X.2.1 q1 (X.2.2.2.2.2.2.1.arr (k := 23) (by decide) (by decide) q2 q3) (by rw [q3]; exact fun h => by cases h) (by rw [q4]; exact hi.vp) rfl rfl hd fun H' e1 e2 e3 => ?_
    rw [show narrow .char (.int x) = .int x from congrArg Value.int (by rw [← lg_i2c_nf]; exact lg_i2c_word hb.1 hb.2)] at e1
    have r' : RP G (wi h a (ix i) x) s H' := by
      refine r.arrPut (k := 23) (by decide) (by decide) hk q2 q3 q4 q5 (ix_lt hi) e1 e2 e3 rfl rfl rfl ?_ ?_ ?_ (fun j hj => ?_)
      · intro b hb; funext j; exact up2_n (Or.inl hb)
      · intro b hb; rfl
      · intro b hb; rfl
      · unfold updV
        by_cases hji : j = ix i
        · subst hji
          rw [if_pos rfl]
          show Value.int (up2 (mi h) a (ix i) x a (ix i)) = _
          rw [up2_s]
        · rw [if_neg hji]
          show Value.int (up2 (mi h) a (ix i) x a j) = _
          rw [up2_n (Or.inr hji)]
          rfl
    exact (hN _ _ _ _ _ hs p l e R s m args below meth c Q G H' _ ls X F r' (o.put (ad_le hp.1)) lr)
  · exact hs.elim
theorem eK_at {G : WG} {h : MH} {s : State} {H : Heap} (r : RP G h s H) (q : KN G s) {k : Nat} (k1 : 24 ≤ k) (k2 : k ≤ 28) {x : Nat} (hx : kd h x = eK k) {comp : ClassId} (h4 : 24 ≤ k → k ≤ 27 → comp = gC G (eC k)) (h5 : k = 28 → comp = gA G 21) :
    ∃ (cv : Cell) (kv : Class), H[ad G x]? = some cv ∧ cv.vm = .none ∧ s.vm.classes[cv.cls]? = some kv ∧ cv.cls = comp := by
  by_cases hk : k = 28
  · subst hk
    obtain ⟨cell, q1, q2, q3, q4, q5⟩ := (r.2.2.1 x).2.2 21 (by decide) (by decide) hx
    obtain ⟨kA, cm, a1, -⟩ := q.2.1 21 (by decide) (by decide)
    exact ⟨cell, kA, q1, q3, by rw [q2]; exact a1, by rw [q2]; exact (h5 rfl).symm⟩
  · have key : ∀ c, c < 13 → eK k = c + 1 → eC k = c → ∃ (cv : Cell) (kv : Class), H[ad G x]? = some cv ∧ cv.vm = .none ∧ s.vm.classes[cv.cls]? = some kv ∧ cv.cls = comp := by
      intro c hc e1 e2
      obtain ⟨cell, q1, q2, q3, q4⟩ := (r.2.2.1 x).1 c hc (hx.trans e1)
      obtain ⟨hS, hfc, kC, hkC, hkind⟩ := q.1 c hc
      exact ⟨cell, kC, q1, q3, by rw [q2]; exact hkC, by rw [q2, h4 k1 (by omega), e2]⟩
    have : k = 24 ∨ k = 25 ∨ k = 26 ∨ k = 27 := by omega
    rcases this with rfl | rfl | rfl | rfl
    · exact key 3 (by decide) rfl rfl
    · exact key 0 (by decide) rfl rfl
    · exact key 5 (by decide) rfl rfl
    · exact key 4 (by decide) rfl rfl
theorem aTy_ref {k : Nat} (k1 : 24 ≤ k) (k2 : k ≤ 28) : (aTy k).isReference = true := by
  have : k = 24 ∨ k = 25 ∨ k = 26 ∨ k = 27 ∨ k = 28 := by omega
  rcases this with rfl | rfl | rfl | rfl | rfl <;> rfl
theorem s_aast {q : Nat} (k1 : 24 ≤ q) (k2 : q ≤ 28) (hd : decode (bM k) pc = .ok (.aastore, 1)) : Snd k pcs pc (pc + 1) (S_aast q) := by
  intro L st h cc ss nx jp Rt hs hN hJ p l e R s m args below meth c Q G H locs ls X F r o lr
  unfold S_aast at hs
  split at hs
  · rename_i x i a rr
    obtain ⟨hk, hi, hx, hs⟩ := hs
    obtain ⟨cell, q1, q2, q3, q4, q5⟩ := (r.2.2.1 a).2.2 q (by omega) k2 hk
    have h0 : a ≠ 0 := r.nz (by omega)
    have hx0 : x ≠ 0 := r.nz (by
      rw [hx]
      have : q = 24 ∨ q = 25 ∨ q = 26 ∨ q = 27 ∨ q = 28 := by omega
      rcases this with rfl | rfl | rfl | rfl | rfl <;> decide)
    have hp := r.pos (a := a) (by omega) (by omega)
    obtain ⟨kA, comp, a1, a2, a3, a4, a5⟩ := X.2.2.2.2.2.2.1.2.1 q (by omega) k2
    obtain ⟨cv, kv, b1, b2, b3, b4⟩ := eK_at r X.2.2.2.2.2.2.1 k1 k2 hx a4 a5
    rw [List.map_cons, List.map_cons, List.map_cons, em_n h0, em_n hx0]
    refine W.aast X.1 X.2.1 q1 (fun z hz => by rw [q3] at hz; cases hz) (fun hz => by rw [q3] at hz; cases hz) (by rw [q2]; exact a1) a2 (aTy_ref k1 k2) (kcomp := kv) (by rw [← b4]; exact b3) ⟨fun z => hi.vp (Or.inl z), by rw [q4]; exact ix_lt hi⟩ b1 (fun z hz => by rw [b2] at hz; cases hz) b3 (by rw [b4]; exact va_asg _ _) rfl rfl hd fun H' e1 e2 e3 => ?_
    have r' : RP G (wr h a (ix i) x) s H' := by
      refine r.arrPut (k := q) (by omega) k2 hk q2 q3 q4 q5 (ix_lt hi) e1 e2 e3 rfl rfl rfl ?_ ?_ ?_ (fun j hj => ?_)
      · intro b hb; rfl
      · intro b hb; rfl
      · intro b hb; funext j; exact up2_n (Or.inl hb)
      · unfold updV
        by_cases hji : j = ix i
        · subst hji
          rw [if_pos rfl]
          unfold av
          rw [if_neg (by omega), if_neg (by omega)]
          show er G (up2 (mr h) a (ix i) x a (ix i)) = _
          rw [up2_s]
          exact er_n hx0
        · rw [if_neg hji]
          unfold av
          rw [if_neg (by omega), if_neg (by omega), if_neg (by omega), if_neg (by omega)]
          show er G (up2 (mr h) a (ix i) x a j) = _
          rw [up2_n (Or.inr hji)]
    exact (hN _ _ _ _ _ hs p l e R s m args below meth c Q G H' _ ls X F r' (o.put (ad_le hp.1)) lr)
  · exact hs.elim
theorem s_obj {idx : Nat} (hw : Cond.methodLink (yM k).cls idx objectInit ∈ wsG) (h1 : 1 ≤ frM k) (h2 : 20 ≤ loM k) (hd : decode (bM k) pc = .ok (.invokespecial idx, 3)) : Snd k pcs pc (pc + 3) S_obj := by
  intro L st h cc ss nx jp Rt hs hN hJ p l e R s m args below meth c Q G H locs ls X F r o lr
  unfold S_obj at hs
  split at hs
  · rename_i a rr
    have hs := gd_iff.mp hs
    obtain ⟨hg, h0, hs⟩ := hs
    rw [List.map_cons, em_n h0]
    have hz : ls.size = c.maxLocals := by rw [lr.1.1, lr.1.2, X.2.2.1]
    exact W.objInit X.1 X.2.1 X.2.2.2.1 (X.2.2.2.2.1 _ hw) (X.2.2.2.2.1 _ oi_inst) (X.2.2.2.2.1 _ oi_code) rfl hz rfl hd (Nat.le_trans h1 X.2.2.2.2.2.1.1) (by have := X.2.2.2.2.2.1.2.1; have e9 := em_sum (G := G) rr; show 2 * 0 + _ + 12 ≤ _; omega) (hN _ _ _ _ _ hs p l e R s m args below meth c Q G H locs ls X F r o lr)
  · exact hs.elim
end SH
