/-! what an instruction asks of the state, and that the machine does it -/
abbrev K5 : Type := List Value → List Value → MH → Nat → Nat → Prop
abbrev Sem : Type := List Value → List Value → MH → Nat → Nat → K5 → (Nat → K5) → (Value → MH → Prop) → Prop
def Snd (k : Nat) (pcs : Nat → Nat) (pc pc' : Nat) (sem : Sem) : Prop := ∀ (L st : List Value) (h : MH) (cc ss : Nat) (nx : K5) (jp : Nat → K5) (Rt : Value → MH → Prop), sem L st h cc ss nx jp Rt →
  (∀ L st h cc ss, nx L st h cc ss → WM k pc' L st h cc ss Rt) → (∀ i L st h cc ss, jp i L st h cc ss → WM k (pcs i) L st h cc ss Rt) → WM k pc L st h cc ss Rt
def gd (a b : Nat) (P : Prop) : Prop := match Nat.ble a b with
  | true => P
  | false => False
theorem gd_iff {a b : Nat} {P : Prop} : gd a b P ↔ a ≤ b ∧ P := by
  unfold gd
  cases h : Nat.ble a b with
  | true => exact ⟨fun q => ⟨Nat.le_of_ble_eq_true h, q⟩, fun q => q.2⟩
  | false => exact ⟨fun q => q.elim, fun q => by rw [Nat.ble_eq_true_of_le q.1] at h; cases h⟩
def ix (i : Int32) : Nat := i.toNatClampNeg
def InB (i : Int32) (n : Nat) : Prop := 0 ≤ i.toInt ∧ i.toInt < (n : Int)
theorem InB.vp {i : Int32} {n : Nat} (h : InB i n) : ¬ (i < 0 ∨ n ≤ i.toNatClampNeg) := vp_in_iff.mpr h
theorem ix_lt {i : Int32} {n : Nat} (h : InB i n) : ix i < n := Nat.not_le.mp fun q => h.vp (Or.inr q)
def irm (x y : Int32) : Int32 := x - x / y * y
def lrm (x y : Int64) : Int64 := x - x / y * y
def S_il (a : Nat) : Sem := fun L st h cc ss nx _ _ => match L.getD a Jv with
  | .int x => nx L (.int x :: st) h cc ss
  | _ => False
def S_ll (a : Nat) : Sem := fun L st h cc ss nx _ _ => match L.getD a Jv with
  | .long x => nx L (.long x :: st) h cc ss
  | _ => False
def S_al (a : Nat) : Sem := fun L st h cc ss nx _ _ => match L.getD a Jv with
  | .ref x => nx L (.ref x :: st) h cc ss
  | _ => False
def S_k (v : Value) : Sem := fun L st h cc ss nx _ _ => nx L (v :: st) h cc ss
def S_ib (f : Int32 → Int32 → Int32) : Sem := fun L st h cc ss nx _ _ => match st with
  | .int y :: .int x :: r => nx L (.int (f x y) :: r) h cc ss
  | _ => False
def S_iu (f : Int32 → Int32) : Sem := fun L st h cc ss nx _ _ => match st with
  | .int x :: r => nx L (.int (f x) :: r) h cc ss
  | _ => False
def S_lb (f : Int64 → Int64 → Int64) : Sem := fun L st h cc ss nx _ _ => match st with
  | .long y :: .long x :: r => nx L (.long (f x y) :: r) h cc ss
  | _ => False
def S_lu (f : Int64 → Int64) : Sem := fun L st h cc ss nx _ _ => match st with
  | .long x :: r => nx L (.long (f x) :: r) h cc ss
  | _ => False
def S_ls (f : Int64 → Int32 → Int64) : Sem := fun L st h cc ss nx _ _ => match st with
  | .int y :: .long x :: r => nx L (.long (f x y) :: r) h cc ss
  | _ => False
def S_i2l : Sem := fun L st h cc ss nx _ _ => match st with
  | .int x :: r => nx L (.long x.toInt64 :: r) h cc ss
  | _ => False
def S_l2i : Sem := fun L st h cc ss nx _ _ => match st with
  | .long x :: r => nx L (.int x.toInt32 :: r) h cc ss
  | _ => False
def S_lc : Sem := fun L st h cc ss nx _ _ => match st with
  | .long y :: .long x :: r => nx L (.int (lg_cmp x y) :: r) h cc ss
  | _ => False
def S_id (f : Int32 → Int32 → Int32) : Sem := fun L st h cc ss nx _ _ => match st with
  | .int y :: .int x :: r => y ≠ 0 ∧ nx L (.int (f x y) :: r) h cc ss
  | _ => False
def S_ldv (f : Int64 → Int64 → Int64) : Sem := fun L st h cc ss nx _ _ => match st with
  | .long y :: .long x :: r => y ≠ 0 ∧ nx L (.long (f x y) :: r) h cc ss
  | _ => False
def S_if (q : Int32 → Prop) (t : Nat) : Sem := fun L st h cc ss nx jp _ => match st with
  | .int x :: r => (q x → jp t L r h cc ss) ∧ (¬ q x → nx L r h cc ss)
  | _ => False
def S_in (q : Int32 → Prop) (t : Nat) : Sem := fun L st h cc ss nx jp _ => match st with
  | .int x :: r => (q x → nx L r h cc ss) ∧ (¬ q x → jp t L r h cc ss)
  | _ => False
def S_ic (q : Int32 → Int32 → Prop) (t : Nat) : Sem := fun L st h cc ss nx jp _ => match st with
  | .int y :: .int x :: r => (q x y → jp t L r h cc ss) ∧ (¬ q x y → nx L r h cc ss)
  | _ => False
def S_icn (q : Int32 → Int32 → Prop) (t : Nat) : Sem := fun L st h cc ss nx jp _ => match st with
  | .int y :: .int x :: r => (q x y → nx L r h cc ss) ∧ (¬ q x y → jp t L r h cc ss)
  | _ => False
def S_nu (t : Nat) : Sem := fun L st h cc ss nx jp _ => match st with
  | .ref a :: r => (a = 0 → jp t L r h cc ss) ∧ (¬ a = 0 → nx L r h cc ss)
  | _ => False
def S_nn (t : Nat) : Sem := fun L st h cc ss nx jp _ => match st with
  | .ref a :: r => (a = 0 → nx L r h cc ss) ∧ (¬ a = 0 → jp t L r h cc ss)
  | _ => False
def S_go (t : Nat) : Sem := fun L st h cc ss _ jp _ => jp t L st h cc ss
def swc (x : Int32) (d : Nat) (j : Nat → Prop) : List (Int32 × Nat) → Prop
  | [] => j d
  | (k, t) :: ks => (x = k → j t) ∧ (¬ x = k → swc x d j ks)
def S_sw (ks : List (Int32 × Nat)) (d : Nat) : Sem := fun L st h cc ss _ jp _ => match st with
  | .int x :: r => swc x d (fun t => jp t L r h cc ss) ks
  | _ => False
def S_inc (a : Nat) (n : Int32) : Sem := fun L st h cc ss nx _ _ => match L.getD a Jv with
  | .int x => nx (lset L a (.int (x + n))) st h cc ss
  | _ => False
def S_ist (a : Nat) : Sem := fun L st h cc ss nx _ _ => match st with
  | .int x :: r => gd (a + 1) L.length (nx (lset L a (.int x)) r h cc ss)
  | _ => False
def S_ast (a : Nat) : Sem := fun L st h cc ss nx _ _ => match st with
  | .ref x :: r => gd (a + 1) L.length (nx (lset L a (.ref x)) r h cc ss)
  | _ => False
def S_lst (a : Nat) : Sem := fun L st h cc ss nx _ _ => match st with
  | .long x :: r => gd (a + 2) L.length (nx (lset2 L a (.long x)) r h cc ss)
  | _ => False
def S_dup : Sem := fun L st h cc ss nx _ _ => match st with
  | .int x :: r => nx L (.int x :: .int x :: r) h cc ss
  | .ref x :: r => nx L (.ref x :: .ref x :: r) h cc ss
  | _ => False
def S_dup2 : Sem := fun L st h cc ss nx _ _ => match st with
  | .int x :: .ref y :: r => nx L (.int x :: .ref y :: .int x :: .ref y :: r) h cc ss
  | _ => False
def S_pop : Sem := fun L st h cc ss nx _ _ => match st with
  | .int _ :: r => nx L r h cc ss
  | .ref _ :: r => nx L r h cc ss
  | _ => False
def S_no : Sem := fun _ _ _ _ _ _ _ _ => False
def S_vret (mc ms : Nat) : Sem := fun _ st h cc ss _ _ Rt => match st with
  | [] => gd cc mc (gd ss ms (Rt .null h))
  | _ => False
def S_iret (mc ms : Nat) : Sem := fun _ st h cc ss _ _ Rt => match st with
  | [.int x] => gd cc mc (gd ss ms (Rt (.int x) h))
  | _ => False
def S_zret (mc ms : Nat) : Sem := fun _ st h cc ss _ _ Rt => match st with
  | [.int x] => (x = 0 ∨ x = 1) ∧ gd cc mc (gd ss ms (Rt (.int x) h))
  | _ => False
def S_lret (mc ms : Nat) : Sem := fun _ st h cc ss _ _ Rt => match st with
  | [.long x] => gd cc mc (gd ss ms (Rt (.long x) h))
  | _ => False
def S_aret (mc ms : Nat) : Sem := fun _ st h cc ss _ _ Rt => match st with
  | [.ref x] => gd cc mc (gd ss ms (Rt (.ref x) h))
  | _ => False
section SN
variable {k pc : Nat} {pcs : Nat → Nat}
theorem s_il {a : Nat} (hd : decode (bM k) pc = .ok (.iload a, 2)) : Snd k pcs pc (pc + 2) (S_il a) := by
  intro L st h cc ss nx jp Rt hs hN hJ p l e R s m args below meth c Q G H locs ls X F r o lr
  unfold S_il at hs
  split at hs
  · rename_i x hx
    exact lv_iload X.1 X.2.1 hd (lr.at hx (by intro q; cases q)) (hN _ _ _ _ _ hs p l e R s m args below meth c Q G H locs ls X F r o lr)
  · exact hs.elim
theorem s_iln {a : Nat} {n : Fin 4} (hd : decode (bM k) pc = .ok (.iload_n n, 1)) (hn : (n : Nat) = a) : Snd k pcs pc (pc + 1) (S_il a) := by
  intro L st h cc ss nx jp Rt hs hN hJ p l e R s m args below meth c Q G H locs ls X F r o lr
  unfold S_il at hs
  split at hs
  · rename_i x hx
    exact lv_iload_n X.1 X.2.1 hd hn (lr.at hx (by intro q; cases q)) (hN _ _ _ _ _ hs p l e R s m args below meth c Q G H locs ls X F r o lr)
  · exact hs.elim
theorem s_ll {a : Nat} (hd : decode (bM k) pc = .ok (.lload a, 2)) : Snd k pcs pc (pc + 2) (S_ll a) := by
  intro L st h cc ss nx jp Rt hs hN hJ p l e R s m args below meth c Q G H locs ls X F r o lr
  unfold S_ll at hs
  split at hs
  · rename_i x hx
    exact lv_lload X.1 X.2.1 hd (lr.at hx (by intro q; cases q)) (hN _ _ _ _ _ hs p l e R s m args below meth c Q G H locs ls X F r o lr)
  · exact hs.elim
theorem s_lln {a : Nat} {n : Fin 4} (hd : decode (bM k) pc = .ok (.lload_n n, 1)) (hn : (n : Nat) = a) : Snd k pcs pc (pc + 1) (S_ll a) := by
  intro L st h cc ss nx jp Rt hs hN hJ p l e R s m args below meth c Q G H locs ls X F r o lr
  unfold S_ll at hs
  split at hs
  · rename_i x hx
    exact lv_lload_n X.1 X.2.1 hd hn (lr.at hx (by intro q; cases q)) (hN _ _ _ _ _ hs p l e R s m args below meth c Q G H locs ls X F r o lr)
  · exact hs.elim
theorem s_al {a : Nat} (hd : decode (bM k) pc = .ok (.aload a, 2)) : Snd k pcs pc (pc + 2) (S_al a) := by
  intro L st h cc ss nx jp Rt hs hN hJ p l e R s m args below meth c Q G H locs ls X F r o lr
  unfold S_al at hs
  split at hs
  · rename_i x hx
    have q := lr.at hx (by intro q; cases q)
    by_cases h0 : x = 0
    · subst h0
      exact lv_aloadN X.1 X.2.1 hd q (hN _ _ _ _ _ hs p l e R s m args below meth c Q G H locs ls X F r o lr)
    · have ee : em G (.ref x) = .ref (ad G x) := if_neg h0
      have w := (hN _ _ _ _ _ hs p l e R s m args below meth c Q G H locs ls X F r o lr)
      rw [List.map_cons, ee] at w
      rw [ee] at q
      exact lv_aload X.1 X.2.1 hd q w
  · exact hs.elim
theorem s_aln {a : Nat} {n : Fin 4} (hd : decode (bM k) pc = .ok (.aload_n n, 1)) (hn : (n : Nat) = a) : Snd k pcs pc (pc + 1) (S_al a) := by
  intro L st h cc ss nx jp Rt hs hN hJ p l e R s m args below meth c Q G H locs ls X F r o lr
  unfold S_al at hs
  split at hs
  · rename_i x hx
    have q := lr.at hx (by intro q; cases q)
    by_cases h0 : x = 0
    · subst h0
      exact lv_aload_nN X.1 X.2.1 hd hn q (hN _ _ _ _ _ hs p l e R s m args below meth c Q G H locs ls X F r o lr)
    · have ee : em G (.ref x) = .ref (ad G x) := if_neg h0
      have w := (hN _ _ _ _ _ hs p l e R s m args below meth c Q G H locs ls X F r o lr)
      rw [List.map_cons, ee] at w
      rw [ee] at q
      exact lv_aload_n X.1 X.2.1 hd hn q w
  · exact hs.elim
theorem s_iconst {n : Int} {v : Int32} (hd : decode (bM k) pc = .ok (.iconst n, 1)) (hv : Int32.ofInt n = v) : Snd k pcs pc (pc + 1) (S_k (.int v)) := by
  intro L st h cc ss nx jp Rt hs hN hJ p l e R s m args below meth c Q G H locs ls X F r o lr
  exact lv_iconst X.1 X.2.1 hd hv (hN _ _ _ _ _ hs p l e R s m args below meth c Q G H locs ls X F r o lr)
theorem s_bipush {n : Int} {v : Int32} (hd : decode (bM k) pc = .ok (.bipush n, 2)) (hv : (Int8.ofInt n).toInt32 = v) : Snd k pcs pc (pc + 2) (S_k (.int v)) := by
  intro L st h cc ss nx jp Rt hs hN hJ p l e R s m args below meth c Q G H locs ls X F r o lr
  exact lv_bipush X.1 X.2.1 hd hv (hN _ _ _ _ _ hs p l e R s m args below meth c Q G H locs ls X F r o lr)
theorem s_sipush {n : Int} {v : Int32} (hd : decode (bM k) pc = .ok (.sipush n, 3)) (hv : (Int16.ofInt n).toInt32 = v) : Snd k pcs pc (pc + 3) (S_k (.int v)) := by
  intro L st h cc ss nx jp Rt hs hN hJ p l e R s m args below meth c Q G H locs ls X F r o lr
  exact lv_sipush X.1 X.2.1 hd hv (hN _ _ _ _ _ hs p l e R s m args below meth c Q G H locs ls X F r o lr)
theorem s_lconst {n : Fin 2} {v : Int64} (hd : decode (bM k) pc = .ok (.lconst n, 1)) (hv : Int64.ofNat (n : Nat) = v) : Snd k pcs pc (pc + 1) (S_k (.long v)) := by
  intro L st h cc ss nx jp Rt hs hN hJ p l e R s m args below meth c Q G H locs ls X F r o lr
  exact lv_lconst X.1 X.2.1 hd hv (hN _ _ _ _ _ hs p l e R s m args below meth c Q G H locs ls X F r o lr)
theorem s_ldc {n : Nat} {v : Int32} (hw : Cond.constant (yM k).cls n v ∈ wsG) (hd : decode (bM k) pc = .ok (.ldc n, 2)) : Snd k pcs pc (pc + 2) (S_k (.int v)) := by
  intro L st h cc ss nx jp Rt hs hN hJ p l e R s m args below meth c Q G H locs ls X F r o lr
  exact lv_ldc X.1 X.2.1 X.2.2.2.1 (X.2.2.2.2.1 _ hw) hd (hN _ _ _ _ _ hs p l e R s m args below meth c Q G H locs ls X F r o lr)
theorem s_ldcw {n : Nat} {v : Int32} (hw : Cond.constant (yM k).cls n v ∈ wsG) (hd : decode (bM k) pc = .ok (.ldc_w n, 3)) : Snd k pcs pc (pc + 3) (S_k (.int v)) := by
  intro L st h cc ss nx jp Rt hs hN hJ p l e R s m args below meth c Q G H locs ls X F r o lr
  exact lv_ldcw X.1 X.2.1 X.2.2.2.1 (X.2.2.2.2.1 _ hw) hd (hN _ _ _ _ _ hs p l e R s m args below meth c Q G H locs ls X F r o lr)
theorem s_ldc2 {n : Nat} {v : Int64} (hw : Cond.constantLong (yM k).cls n v ∈ wsG) (hd : decode (bM k) pc = .ok (.ldc2_w n, 3)) : Snd k pcs pc (pc + 3) (S_k (.long v)) := by
  intro L st h cc ss nx jp Rt hs hN hJ p l e R s m args below meth c Q G H locs ls X F r o lr
  exact lv_ldc2 X.1 X.2.1 X.2.2.2.1 (X.2.2.2.2.1 _ hw) hd (hN _ _ _ _ _ hs p l e R s m args below meth c Q G H locs ls X F r o lr)
theorem s_null (hd : decode (bM k) pc = .ok (.aconst_null, 1)) : Snd k pcs pc (pc + 1) (S_k (.ref 0)) := by
  intro L st h cc ss nx jp Rt hs hN hJ p l e R s m args below meth c Q G H locs ls X F r o lr
  exact lv_null X.1 X.2.1 hd (hN _ _ _ _ _ hs p l e R s m args below meth c Q G H locs ls X F r o lr)
theorem s_iadd (hd : decode (bM k) pc = .ok (.iadd, 1)) : Snd k pcs pc (pc + 1) (S_ib (fun x y => x + y)) := by
  intro L st h cc ss nx jp Rt hs hN hJ p l e R s m args below meth c Q G H locs ls X F r o lr
  unfold S_ib at hs
  split at hs
  · exact lv_iadd X.1 X.2.1 hd (hN _ _ _ _ _ hs p l e R s m args below meth c Q G H locs ls X F r o lr)
  · exact hs.elim
theorem s_isub (hd : decode (bM k) pc = .ok (.isub, 1)) : Snd k pcs pc (pc + 1) (S_ib (fun x y => x - y)) := by
  intro L st h cc ss nx jp Rt hs hN hJ p l e R s m args below meth c Q G H locs ls X F r o lr
  unfold S_ib at hs
  split at hs
  · exact lv_isub X.1 X.2.1 hd (hN _ _ _ _ _ hs p l e R s m args below meth c Q G H locs ls X F r o lr)
  · exact hs.elim
theorem s_imul (hd : decode (bM k) pc = .ok (.imul, 1)) : Snd k pcs pc (pc + 1) (S_ib (fun x y => x * y)) := by
  intro L st h cc ss nx jp Rt hs hN hJ p l e R s m args below meth c Q G H locs ls X F r o lr
  unfold S_ib at hs
  split at hs
  · exact lv_imul X.1 X.2.1 hd (hN _ _ _ _ _ hs p l e R s m args below meth c Q G H locs ls X F r o lr)
  · exact hs.elim
theorem s_iand (hd : decode (bM k) pc = .ok (.iand, 1)) : Snd k pcs pc (pc + 1) (S_ib (fun x y => x &&& y)) := by
  intro L st h cc ss nx jp Rt hs hN hJ p l e R s m args below meth c Q G H locs ls X F r o lr
  unfold S_ib at hs
  split at hs
  · exact lv_iand X.1 X.2.1 hd (hN _ _ _ _ _ hs p l e R s m args below meth c Q G H locs ls X F r o lr)
  · exact hs.elim
theorem s_ior (hd : decode (bM k) pc = .ok (.ior, 1)) : Snd k pcs pc (pc + 1) (S_ib (fun x y => x ||| y)) := by
  intro L st h cc ss nx jp Rt hs hN hJ p l e R s m args below meth c Q G H locs ls X F r o lr
  unfold S_ib at hs
  split at hs
  · exact lv_ior X.1 X.2.1 hd (hN _ _ _ _ _ hs p l e R s m args below meth c Q G H locs ls X F r o lr)
  · exact hs.elim
theorem s_ixor (hd : decode (bM k) pc = .ok (.ixor, 1)) : Snd k pcs pc (pc + 1) (S_ib (fun x y => x ^^^ y)) := by
  intro L st h cc ss nx jp Rt hs hN hJ p l e R s m args below meth c Q G H locs ls X F r o lr
  unfold S_ib at hs
  split at hs
  · exact lv_ixor X.1 X.2.1 hd (hN _ _ _ _ _ hs p l e R s m args below meth c Q G H locs ls X F r o lr)
  · exact hs.elim
theorem s_ishl (hd : decode (bM k) pc = .ok (.ishl, 1)) : Snd k pcs pc (pc + 1) (S_ib (fun x y => x <<< (y &&& 31))) := by
  intro L st h cc ss nx jp Rt hs hN hJ p l e R s m args below meth c Q G H locs ls X F r o lr
  unfold S_ib at hs
  split at hs
  · exact lv_ishl X.1 X.2.1 hd (hN _ _ _ _ _ hs p l e R s m args below meth c Q G H locs ls X F r o lr)
  · exact hs.elim
theorem s_ishr (hd : decode (bM k) pc = .ok (.ishr, 1)) : Snd k pcs pc (pc + 1) (S_ib (fun x y => x >>> (y &&& 31))) := by
  intro L st h cc ss nx jp Rt hs hN hJ p l e R s m args below meth c Q G H locs ls X F r o lr
  unfold S_ib at hs
  split at hs
  · exact lv_ishr X.1 X.2.1 hd (hN _ _ _ _ _ hs p l e R s m args below meth c Q G H locs ls X F r o lr)
  · exact hs.elim
theorem s_iushr (hd : decode (bM k) pc = .ok (.iushr, 1)) : Snd k pcs pc (pc + 1) (S_ib (fun x y => (x.toUInt32 >>> (y.toUInt32 &&& Int32.toUInt32 31)).toInt32)) := by
  intro L st h cc ss nx jp Rt hs hN hJ p l e R s m args below meth c Q G H locs ls X F r o lr
  unfold S_ib at hs
  split at hs
  · exact lv_iushr X.1 X.2.1 hd rfl (hN _ _ _ _ _ hs p l e R s m args below meth c Q G H locs ls X F r o lr)
  · exact hs.elim
theorem s_ineg (hd : decode (bM k) pc = .ok (.ineg, 1)) : Snd k pcs pc (pc + 1) (S_iu (fun x => -x)) := by
  intro L st h cc ss nx jp Rt hs hN hJ p l e R s m args below meth c Q G H locs ls X F r o lr
  unfold S_iu at hs
  split at hs
  · exact lv_ineg X.1 X.2.1 hd (hN _ _ _ _ _ hs p l e R s m args below meth c Q G H locs ls X F r o lr)
  · exact hs.elim
theorem s_i2c (hd : decode (bM k) pc = .ok (.i2c, 1)) : Snd k pcs pc (pc + 1) (S_iu (fun x => (x.toUInt32 % 65536).toInt32)) := by
  intro L st h cc ss nx jp Rt hs hN hJ p l e R s m args below meth c Q G H locs ls X F r o lr
  unfold S_iu at hs
  split at hs
  · exact lv_i2c X.1 X.2.1 hd rfl (hN _ _ _ _ _ hs p l e R s m args below meth c Q G H locs ls X F r o lr)
  · exact hs.elim
theorem s_ladd (hd : decode (bM k) pc = .ok (.ladd, 1)) : Snd k pcs pc (pc + 1) (S_lb (fun x y => x + y)) := by
  intro L st h cc ss nx jp Rt hs hN hJ p l e R s m args below meth c Q G H locs ls X F r o lr
  unfold S_lb at hs
  split at hs
  · exact lv_ladd X.1 X.2.1 hd (hN _ _ _ _ _ hs p l e R s m args below meth c Q G H locs ls X F r o lr)
  · exact hs.elim
theorem s_lsub (hd : decode (bM k) pc = .ok (.lsub, 1)) : Snd k pcs pc (pc + 1) (S_lb (fun x y => x - y)) := by
  intro L st h cc ss nx jp Rt hs hN hJ p l e R s m args below meth c Q G H locs ls X F r o lr
  unfold S_lb at hs
  split at hs
  · exact lv_lsub X.1 X.2.1 hd (hN _ _ _ _ _ hs p l e R s m args below meth c Q G H locs ls X F r o lr)
  · exact hs.elim
theorem s_lmul (hd : decode (bM k) pc = .ok (.lmul, 1)) : Snd k pcs pc (pc + 1) (S_lb (fun x y => x * y)) := by
  intro L st h cc ss nx jp Rt hs hN hJ p l e R s m args below meth c Q G H locs ls X F r o lr
  unfold S_lb at hs
  split at hs
  · exact lv_lmul X.1 X.2.1 hd (hN _ _ _ _ _ hs p l e R s m args below meth c Q G H locs ls X F r o lr)
  · exact hs.elim
theorem s_land (hd : decode (bM k) pc = .ok (.land, 1)) : Snd k pcs pc (pc + 1) (S_lb (fun x y => x &&& y)) := by
  intro L st h cc ss nx jp Rt hs hN hJ p l e R s m args below meth c Q G H locs ls X F r o lr
  unfold S_lb at hs
  split at hs
  · exact lv_land X.1 X.2.1 hd (hN _ _ _ _ _ hs p l e R s m args below meth c Q G H locs ls X F r o lr)
  · exact hs.elim
theorem s_lor (hd : decode (bM k) pc = .ok (.lor, 1)) : Snd k pcs pc (pc + 1) (S_lb (fun x y => x ||| y)) := by
  intro L st h cc ss nx jp Rt hs hN hJ p l e R s m args below meth c Q G H locs ls X F r o lr
  unfold S_lb at hs
  split at hs
  · exact lv_lor X.1 X.2.1 hd (hN _ _ _ _ _ hs p l e R s m args below meth c Q G H locs ls X F r o lr)
  · exact hs.elim
theorem s_lxor (hd : decode (bM k) pc = .ok (.lxor, 1)) : Snd k pcs pc (pc + 1) (S_lb (fun x y => x ^^^ y)) := by
  intro L st h cc ss nx jp Rt hs hN hJ p l e R s m args below meth c Q G H locs ls X F r o lr
  unfold S_lb at hs
  split at hs
  · exact lv_lxor X.1 X.2.1 hd (hN _ _ _ _ _ hs p l e R s m args below meth c Q G H locs ls X F r o lr)
  · exact hs.elim
theorem s_lneg (hd : decode (bM k) pc = .ok (.lneg, 1)) : Snd k pcs pc (pc + 1) (S_lu (fun x => -x)) := by
  intro L st h cc ss nx jp Rt hs hN hJ p l e R s m args below meth c Q G H locs ls X F r o lr
  unfold S_lu at hs
  split at hs
  · exact lv_lneg X.1 X.2.1 hd (hN _ _ _ _ _ hs p l e R s m args below meth c Q G H locs ls X F r o lr)
  · exact hs.elim
theorem s_lshl (hd : decode (bM k) pc = .ok (.lshl, 1)) : Snd k pcs pc (pc + 1) (S_ls (fun x y => x <<< (y.toInt64 &&& 63))) := by
  intro L st h cc ss nx jp Rt hs hN hJ p l e R s m args below meth c Q G H locs ls X F r o lr
  unfold S_ls at hs
  split at hs
  · exact lv_lshl X.1 X.2.1 hd rfl (hN _ _ _ _ _ hs p l e R s m args below meth c Q G H locs ls X F r o lr)
  · exact hs.elim
theorem s_lshr (hd : decode (bM k) pc = .ok (.lshr, 1)) : Snd k pcs pc (pc + 1) (S_ls (fun x y => x >>> (y.toInt64 &&& 63))) := by
  intro L st h cc ss nx jp Rt hs hN hJ p l e R s m args below meth c Q G H locs ls X F r o lr
  unfold S_ls at hs
  split at hs
  · exact lv_lshr X.1 X.2.1 hd rfl (hN _ _ _ _ _ hs p l e R s m args below meth c Q G H locs ls X F r o lr)
  · exact hs.elim
theorem s_lushr (hd : decode (bM k) pc = .ok (.lushr, 1)) : Snd k pcs pc (pc + 1) (S_ls (fun x y => (x.toUInt64 >>> (y.toInt64.toUInt64 &&& Int64.toUInt64 63)).toInt64)) := by
  intro L st h cc ss nx jp Rt hs hN hJ p l e R s m args below meth c Q G H locs ls X F r o lr
  unfold S_ls at hs
  split at hs
  · exact lv_lushr X.1 X.2.1 hd rfl (hN _ _ _ _ _ hs p l e R s m args below meth c Q G H locs ls X F r o lr)
  · exact hs.elim
theorem s_i2l (hd : decode (bM k) pc = .ok (.i2l, 1)) : Snd k pcs pc (pc + 1) (S_i2l) := by
  intro L st h cc ss nx jp Rt hs hN hJ p l e R s m args below meth c Q G H locs ls X F r o lr
  unfold S_i2l at hs
  split at hs
  · exact lv_i2l X.1 X.2.1 hd rfl (hN _ _ _ _ _ hs p l e R s m args below meth c Q G H locs ls X F r o lr)
  · exact hs.elim
theorem s_l2i (hd : decode (bM k) pc = .ok (.l2i, 1)) : Snd k pcs pc (pc + 1) (S_l2i) := by
  intro L st h cc ss nx jp Rt hs hN hJ p l e R s m args below meth c Q G H locs ls X F r o lr
  unfold S_l2i at hs
  split at hs
  · exact lv_l2i X.1 X.2.1 hd rfl (hN _ _ _ _ _ hs p l e R s m args below meth c Q G H locs ls X F r o lr)
  · exact hs.elim
theorem s_lcmp (hd : decode (bM k) pc = .ok (.lcmp, 1)) : Snd k pcs pc (pc + 1) (S_lc) := by
  intro L st h cc ss nx jp Rt hs hN hJ p l e R s m args below meth c Q G H locs ls X F r o lr
  unfold S_lc at hs
  split at hs
  · exact W.lcmp X.1 X.2.1 hd (hN _ _ _ _ _ hs p l e R s m args below meth c Q G H locs ls X F r o lr)
  · exact hs.elim
theorem s_idiv (hd : decode (bM k) pc = .ok (.idiv, 1)) : Snd k pcs pc (pc + 1) (S_id (fun x y => x / y)) := by
  intro L st h cc ss nx jp Rt hs hN hJ p l e R s m args below meth c Q G H locs ls X F r o lr
  unfold S_id at hs
  split at hs
  · exact lv_idiv X.1 X.2.1 hd hs.1 (hN _ _ _ _ _ hs.2 p l e R s m args below meth c Q G H locs ls X F r o lr)
  · exact hs.elim
theorem s_irem (hd : decode (bM k) pc = .ok (.irem, 1)) : Snd k pcs pc (pc + 1) (S_id irm) := by
  intro L st h cc ss nx jp Rt hs hN hJ p l e R s m args below meth c Q G H locs ls X F r o lr
  unfold S_id at hs
  split at hs
  · exact lv_irem X.1 X.2.1 hd hs.1 (hN _ _ _ _ _ hs.2 p l e R s m args below meth c Q G H locs ls X F r o lr)
  · exact hs.elim
theorem s_ldiv (hd : decode (bM k) pc = .ok (.ldiv, 1)) : Snd k pcs pc (pc + 1) (S_ldv (fun x y => x / y)) := by
  intro L st h cc ss nx jp Rt hs hN hJ p l e R s m args below meth c Q G H locs ls X F r o lr
  unfold S_ldv at hs
  split at hs
  · exact lv_ldiv X.1 X.2.1 hd hs.1 (hN _ _ _ _ _ hs.2 p l e R s m args below meth c Q G H locs ls X F r o lr)
  · exact hs.elim
theorem s_lrem (hd : decode (bM k) pc = .ok (.lrem, 1)) : Snd k pcs pc (pc + 1) (S_ldv lrm) := by
  intro L st h cc ss nx jp Rt hs hN hJ p l e R s m args below meth c Q G H locs ls X F r o lr
  unfold S_ldv at hs
  split at hs
  · exact lv_lrem X.1 X.2.1 hd hs.1 (hN _ _ _ _ _ hs.2 p l e R s m args below meth c Q G H locs ls X F r o lr)
  · exact hs.elim
theorem s_ifeq {off : Int} {t : Nat} (hd : decode (bM k) pc = .ok (.ifCond .eq off, 3)) (ht : (pc : Int) + off = (pcs t : Int)) : Snd k pcs pc (pc + 3) (S_if (fun x => x = 0) t) := by
  intro L st h cc ss nx jp Rt hs hN hJ p l e R s m args below meth c Q G H locs ls X F r o lr
  unfold S_if at hs
  split at hs
  · exact lv_if_eq X.1 X.2.1 hd ht (fun q => (hJ _ _ _ _ _ _ (hs.1 q) p l e R s m args below meth c Q G H locs ls X F r o lr)) (fun q => (hN _ _ _ _ _ (hs.2 q) p l e R s m args below meth c Q G H locs ls X F r o lr))
  · exact hs.elim
theorem s_ifne {off : Int} {t : Nat} (hd : decode (bM k) pc = .ok (.ifCond .ne off, 3)) (ht : (pc : Int) + off = (pcs t : Int)) : Snd k pcs pc (pc + 3) (S_in (fun x => x = 0) t) := by
  intro L st h cc ss nx jp Rt hs hN hJ p l e R s m args below meth c Q G H locs ls X F r o lr
  unfold S_in at hs
  split at hs
  · exact lv_if_ne X.1 X.2.1 hd ht (fun q => (hJ _ _ _ _ _ _ (hs.2 q) p l e R s m args below meth c Q G H locs ls X F r o lr)) (fun q => (hN _ _ _ _ _ (hs.1 q) p l e R s m args below meth c Q G H locs ls X F r o lr))
  · exact hs.elim
theorem s_iflt {off : Int} {t : Nat} (hd : decode (bM k) pc = .ok (.ifCond .lt off, 3)) (ht : (pc : Int) + off = (pcs t : Int)) : Snd k pcs pc (pc + 3) (S_if (fun x => x.toInt < 0) t) := by
  intro L st h cc ss nx jp Rt hs hN hJ p l e R s m args below meth c Q G H locs ls X F r o lr
  unfold S_if at hs
  split at hs
  · exact lv_if_lt X.1 X.2.1 hd ht (fun q => (hJ _ _ _ _ _ _ (hs.1 (Int32.lt_iff_toInt_lt.mp q)) p l e R s m args below meth c Q G H locs ls X F r o lr)) (fun q => (hN _ _ _ _ _ (hs.2 (fun z => q (Int32.lt_iff_toInt_lt.mpr z))) p l e R s m args below meth c Q G H locs ls X F r o lr))
  · exact hs.elim
theorem s_ifge {off : Int} {t : Nat} (hd : decode (bM k) pc = .ok (.ifCond .ge off, 3)) (ht : (pc : Int) + off = (pcs t : Int)) : Snd k pcs pc (pc + 3) (S_in (fun x => x.toInt < 0) t) := by
  intro L st h cc ss nx jp Rt hs hN hJ p l e R s m args below meth c Q G H locs ls X F r o lr
  unfold S_in at hs
  split at hs
  · exact lv_if_ge X.1 X.2.1 hd ht (fun q => (hJ _ _ _ _ _ _ (hs.2 (Int.not_lt.mpr (Int32.le_iff_toInt_le.mp q))) p l e R s m args below meth c Q G H locs ls X F r o lr)) (fun q => (hN _ _ _ _ _ (hs.1 (Int.not_le.mp (fun z => q (Int32.le_iff_toInt_le.mpr z)))) p l e R s m args below meth c Q G H locs ls X F r o lr))
  · exact hs.elim
theorem s_ifgt {off : Int} {t : Nat} (hd : decode (bM k) pc = .ok (.ifCond .gt off, 3)) (ht : (pc : Int) + off = (pcs t : Int)) : Snd k pcs pc (pc + 3) (S_if (fun x => 0 < x.toInt) t) := by
  intro L st h cc ss nx jp Rt hs hN hJ p l e R s m args below meth c Q G H locs ls X F r o lr
  unfold S_if at hs
  split at hs
  · exact lv_if_gt X.1 X.2.1 hd ht (fun q => (hJ _ _ _ _ _ _ (hs.1 (Int32.lt_iff_toInt_lt.mp q)) p l e R s m args below meth c Q G H locs ls X F r o lr)) (fun q => (hN _ _ _ _ _ (hs.2 (fun z => q (Int32.lt_iff_toInt_lt.mpr z))) p l e R s m args below meth c Q G H locs ls X F r o lr))
  · exact hs.elim
theorem s_ifle {off : Int} {t : Nat} (hd : decode (bM k) pc = .ok (.ifCond .le off, 3)) (ht : (pc : Int) + off = (pcs t : Int)) : Snd k pcs pc (pc + 3) (S_in (fun x => 0 < x.toInt) t) := by
  intro L st h cc ss nx jp Rt hs hN hJ p l e R s m args below meth c Q G H locs ls X F r o lr
  unfold S_in at hs
  split at hs
  · exact lv_if_le X.1 X.2.1 hd ht (fun q => (hJ _ _ _ _ _ _ (hs.2 (Int.not_lt.mpr (Int32.le_iff_toInt_le.mp q))) p l e R s m args below meth c Q G H locs ls X F r o lr)) (fun q => (hN _ _ _ _ _ (hs.1 (Int.not_le.mp (fun z => q (Int32.le_iff_toInt_le.mpr z)))) p l e R s m args below meth c Q G H locs ls X F r o lr))
  · exact hs.elim
theorem s_iceq {off : Int} {t : Nat} (hd : decode (bM k) pc = .ok (.if_icmp .eq off, 3)) (ht : (pc : Int) + off = (pcs t : Int)) : Snd k pcs pc (pc + 3) (S_ic (fun x y => x = y) t) := by
  intro L st h cc ss nx jp Rt hs hN hJ p l e R s m args below meth c Q G H locs ls X F r o lr
  unfold S_ic at hs
  split at hs
  · exact lv_icmp_eq X.1 X.2.1 hd ht (fun q => (hJ _ _ _ _ _ _ (hs.1 q) p l e R s m args below meth c Q G H locs ls X F r o lr)) (fun q => (hN _ _ _ _ _ (hs.2 q) p l e R s m args below meth c Q G H locs ls X F r o lr))
  · exact hs.elim
theorem s_icne {off : Int} {t : Nat} (hd : decode (bM k) pc = .ok (.if_icmp .ne off, 3)) (ht : (pc : Int) + off = (pcs t : Int)) : Snd k pcs pc (pc + 3) (S_icn (fun x y => x = y) t) := by
  intro L st h cc ss nx jp Rt hs hN hJ p l e R s m args below meth c Q G H locs ls X F r o lr
  unfold S_icn at hs
  split at hs
  · exact lv_icmp_ne X.1 X.2.1 hd ht (fun q => (hJ _ _ _ _ _ _ (hs.2 q) p l e R s m args below meth c Q G H locs ls X F r o lr)) (fun q => (hN _ _ _ _ _ (hs.1 q) p l e R s m args below meth c Q G H locs ls X F r o lr))
  · exact hs.elim
theorem s_iclt {off : Int} {t : Nat} (hd : decode (bM k) pc = .ok (.if_icmp .lt off, 3)) (ht : (pc : Int) + off = (pcs t : Int)) : Snd k pcs pc (pc + 3) (S_ic (fun x y => x.toInt < y.toInt) t) := by
  intro L st h cc ss nx jp Rt hs hN hJ p l e R s m args below meth c Q G H locs ls X F r o lr
  unfold S_ic at hs
  split at hs
  · exact lv_icmp_lt X.1 X.2.1 hd ht (fun q => (hJ _ _ _ _ _ _ (hs.1 (Int32.lt_iff_toInt_lt.mp q)) p l e R s m args below meth c Q G H locs ls X F r o lr)) (fun q => (hN _ _ _ _ _ (hs.2 (fun z => q (Int32.lt_iff_toInt_lt.mpr z))) p l e R s m args below meth c Q G H locs ls X F r o lr))
  · exact hs.elim
theorem s_icge {off : Int} {t : Nat} (hd : decode (bM k) pc = .ok (.if_icmp .ge off, 3)) (ht : (pc : Int) + off = (pcs t : Int)) : Snd k pcs pc (pc + 3) (S_icn (fun x y => x.toInt < y.toInt) t) := by
  intro L st h cc ss nx jp Rt hs hN hJ p l e R s m args below meth c Q G H locs ls X F r o lr
  unfold S_icn at hs
  split at hs
  · exact lv_icmp_ge X.1 X.2.1 hd ht (fun q => (hJ _ _ _ _ _ _ (hs.2 (Int.not_lt.mpr (Int32.le_iff_toInt_le.mp q))) p l e R s m args below meth c Q G H locs ls X F r o lr)) (fun q => (hN _ _ _ _ _ (hs.1 (Int.not_le.mp (fun z => q (Int32.le_iff_toInt_le.mpr z)))) p l e R s m args below meth c Q G H locs ls X F r o lr))
  · exact hs.elim
theorem s_icgt {off : Int} {t : Nat} (hd : decode (bM k) pc = .ok (.if_icmp .gt off, 3)) (ht : (pc : Int) + off = (pcs t : Int)) : Snd k pcs pc (pc + 3) (S_ic (fun x y => y.toInt < x.toInt) t) := by
  intro L st h cc ss nx jp Rt hs hN hJ p l e R s m args below meth c Q G H locs ls X F r o lr
  unfold S_ic at hs
  split at hs
  · exact lv_icmp_gt X.1 X.2.1 hd ht (fun q => (hJ _ _ _ _ _ _ (hs.1 (Int32.lt_iff_toInt_lt.mp q)) p l e R s m args below meth c Q G H locs ls X F r o lr)) (fun q => (hN _ _ _ _ _ (hs.2 (fun z => q (Int32.lt_iff_toInt_lt.mpr z))) p l e R s m args below meth c Q G H locs ls X F r o lr))
  · exact hs.elim
theorem s_icle {off : Int} {t : Nat} (hd : decode (bM k) pc = .ok (.if_icmp .le off, 3)) (ht : (pc : Int) + off = (pcs t : Int)) : Snd k pcs pc (pc + 3) (S_icn (fun x y => y.toInt < x.toInt) t) := by
  intro L st h cc ss nx jp Rt hs hN hJ p l e R s m args below meth c Q G H locs ls X F r o lr
  unfold S_icn at hs
  split at hs
  · exact lv_icmp_le X.1 X.2.1 hd ht (fun q => (hJ _ _ _ _ _ _ (hs.2 (Int.not_lt.mpr (Int32.le_iff_toInt_le.mp q))) p l e R s m args below meth c Q G H locs ls X F r o lr)) (fun q => (hN _ _ _ _ _ (hs.1 (Int.not_le.mp (fun z => q (Int32.le_iff_toInt_le.mpr z)))) p l e R s m args below meth c Q G H locs ls X F r o lr))
  · exact hs.elim
theorem s_goto {off : Int} {t : Nat} (hd : decode (bM k) pc = .ok (.goto off, 3)) (ht : (pc : Int) + off = (pcs t : Int)) : Snd k pcs pc (pc + 3) (S_go t) := by
  intro L st h cc ss nx jp Rt hs hN hJ p l e R s m args below meth c Q G H locs ls X F r o lr
  exact lv_goto X.1 X.2.1 hd ht (hJ _ _ _ _ _ _ hs p l e R s m args below meth c Q G H locs ls X F r o lr)
theorem s_ifnull {off : Int} {t : Nat} (hd : decode (bM k) pc = .ok (.ifnull off, 3)) (ht : (pc : Int) + off = (pcs t : Int)) : Snd k pcs pc (pc + 3) (S_nu t) := by
  intro L st h cc ss nx jp Rt hs hN hJ p l e R s m args below meth c Q G H locs ls X F r o lr
  unfold S_nu at hs
  split at hs
  · rename_i a rr
    by_cases h0 : a = 0
    · subst h0
      exact lv_ifnullN X.1 X.2.1 hd ht (hJ _ _ _ _ _ _ (hs.1 rfl) p l e R s m args below meth c Q G H locs ls X F r o lr)
    · have ee : em G (.ref a) = .ref (ad G a) := if_neg h0
      rw [List.map_cons, ee]
      exact lv_ifnull X.1 X.2.1 hd (hN _ _ _ _ _ (hs.2 h0) p l e R s m args below meth c Q G H locs ls X F r o lr)
  · exact hs.elim
theorem s_ifnonnull {off : Int} {t : Nat} (hd : decode (bM k) pc = .ok (.ifnonnull off, 3)) (ht : (pc : Int) + off = (pcs t : Int)) : Snd k pcs pc (pc + 3) (S_nn t) := by
  intro L st h cc ss nx jp Rt hs hN hJ p l e R s m args below meth c Q G H locs ls X F r o lr
  unfold S_nn at hs
  split at hs
  · rename_i a rr
    by_cases h0 : a = 0
    · subst h0
      exact lv_ifnonnullN X.1 X.2.1 hd (hN _ _ _ _ _ (hs.1 rfl) p l e R s m args below meth c Q G H locs ls X F r o lr)
    · have ee : em G (.ref a) = .ref (ad G a) := if_neg h0
      rw [List.map_cons, ee]
      exact lv_ifnonnull X.1 X.2.1 hd ht (hJ _ _ _ _ _ _ (hs.2 h0) p l e R s m args below meth c Q G H locs ls X F r o lr)
  · exact hs.elim
theorem s_iinc {a : Nat} {n : Int} {v : Int32} (hd : decode (bM k) pc = .ok (.iinc a n, 3)) (hv : Int32.ofInt n = v) : Snd k pcs pc (pc + 3) (S_inc a v) := by
  intro L st h cc ss nx jp Rt hs hN hJ p l e R s m args below meth c Q G H locs ls X F r o lr
  unfold S_inc at hs
  split at hs
  · rename_i x hx
    subst hv
    have hlt := lr.lt hx (by intro q; cases q)
    have hh := lr.has
    have hm : (a, Value.int x) ∈ prs G L := by
      rw [List.getD_eq_getElem?_getD] at hx
      cases q : L[a]? with
      | none => rw [q] at hx; cases hx
      | some w =>
        rw [q] at hx
        have hx : w = .int x := hx
        subst hx
        exact prs_mem q (by intro q; cases q)
    obtain ⟨i, hi⟩ := List.getElem?_of_mem hm
    exact lv_iinc X.1 X.2.1 hd hh (k := i) hi rfl hlt rfl (fun ls' h' => (hN _ _ _ _ _ hs p l e R s m args below meth c Q G H locs ls' X F r o (LR.st1 (v := .int _) lr h')))
  · exact hs.elim
theorem s_ist {a : Nat} (hd : decode (bM k) pc = .ok (.istore a, 2)) : Snd k pcs pc (pc + 2) (S_ist a) := by
  intro L st h cc ss nx jp Rt hs hN hJ p l e R s m args below meth c Q G H locs ls X F r o lr
  unfold S_ist at hs
  split at hs
  · have hs := gd_iff.mp hs
    exact lv_istore X.1 X.2.1 hd lr.has hs.1 rfl (fun ls' h' => (hN _ _ _ _ _ hs.2 p l e R s m args below meth c Q G H locs ls' X F r o (LR.st1 (v := .int _) lr h')))
  · exact hs.elim
theorem s_lst {a : Nat} (hd : decode (bM k) pc = .ok (.lstore a, 2)) : Snd k pcs pc (pc + 2) (S_lst a) := by
  intro L st h cc ss nx jp Rt hs hN hJ p l e R s m args below meth c Q G H locs ls X F r o lr
  unfold S_lst at hs
  split at hs
  · have hs := gd_iff.mp hs
    exact lv_lstore X.1 X.2.1 hd lr.has hs.1 rfl (fun ls' h' => (hN _ _ _ _ _ hs.2 p l e R s m args below meth c Q G H locs ls' X F r o (LR.st2 (v := .long _) lr hs.1 h')))
  · exact hs.elim
theorem s_ast {a : Nat} (hd : decode (bM k) pc = .ok (.astore a, 2)) : Snd k pcs pc (pc + 2) (S_ast a) := by
  intro L st h cc ss nx jp Rt hs hN hJ p l e R s m args below meth c Q G H locs ls X F r o lr
  unfold S_ast at hs
  split at hs
  · rename_i x rr
    have hs := gd_iff.mp hs
    by_cases h0 : x = 0
    · subst h0
      exact lv_astoreN X.1 X.2.1 hd lr.has hs.1 rfl (fun ls' h' => (hN _ _ _ _ _ hs.2 p l e R s m args below meth c Q G H locs ls' X F r o (LR.st1 (v := .ref 0) lr h')))
    · have ee : em G (.ref x) = .ref (ad G x) := if_neg h0
      rw [List.map_cons, ee]
      exact lv_astore X.1 X.2.1 hd lr.has hs.1 rfl (fun ls' h' => (hN _ _ _ _ _ hs.2 p l e R s m args below meth c Q G H locs ls' X F r o (LR.st1 (v := .ref x) lr (by rw [ee]; exact h'))))
  · exact hs.elim
theorem s_istn {a : Nat} {n : Fin 4} (hd : decode (bM k) pc = .ok (.istore_n n, 1)) (hn : (n : Nat) = a) : Snd k pcs pc (pc + 1) (S_ist a) := by
  intro L st h cc ss nx jp Rt hs hN hJ p l e R s m args below meth c Q G H locs ls X F r o lr
  unfold S_ist at hs
  split at hs
  · have hs := gd_iff.mp hs
    exact lv_istore_n X.1 X.2.1 hd hn lr.has hs.1 rfl (fun ls' h' => (hN _ _ _ _ _ hs.2 p l e R s m args below meth c Q G H locs ls' X F r o (LR.st1 (v := .int _) lr h')))
  · exact hs.elim
theorem s_lstn {a : Nat} {n : Fin 4} (hd : decode (bM k) pc = .ok (.lstore_n n, 1)) (hn : (n : Nat) = a) : Snd k pcs pc (pc + 1) (S_lst a) := by
  intro L st h cc ss nx jp Rt hs hN hJ p l e R s m args below meth c Q G H locs ls X F r o lr
  unfold S_lst at hs
  split at hs
  · have hs := gd_iff.mp hs
    exact lv_lstore_n X.1 X.2.1 hd hn lr.has hs.1 rfl (fun ls' h' => (hN _ _ _ _ _ hs.2 p l e R s m args below meth c Q G H locs ls' X F r o (LR.st2 (v := .long _) lr hs.1 h')))
  · exact hs.elim
theorem s_astn {a : Nat} {n : Fin 4} (hd : decode (bM k) pc = .ok (.astore_n n, 1)) (hn : (n : Nat) = a) : Snd k pcs pc (pc + 1) (S_ast a) := by
  intro L st h cc ss nx jp Rt hs hN hJ p l e R s m args below meth c Q G H locs ls X F r o lr
  unfold S_ast at hs
  split at hs
  · rename_i x rr
    have hs := gd_iff.mp hs
    by_cases h0 : x = 0
    · subst h0
      exact lv_astore_nN X.1 X.2.1 hd hn lr.has hs.1 rfl (fun ls' h' => (hN _ _ _ _ _ hs.2 p l e R s m args below meth c Q G H locs ls' X F r o (LR.st1 (v := .ref 0) lr h')))
    · have ee : em G (.ref x) = .ref (ad G x) := if_neg h0
      rw [List.map_cons, ee]
      exact lv_astore_n X.1 X.2.1 hd hn lr.has hs.1 rfl (fun ls' h' => (hN _ _ _ _ _ hs.2 p l e R s m args below meth c Q G H locs ls' X F r o (LR.st1 (v := .ref x) lr (by rw [ee]; exact h'))))
  · exact hs.elim
theorem s_dup (hd : decode (bM k) pc = .ok (.dup, 1)) : Snd k pcs pc (pc + 1) S_dup := by
  intro L st h cc ss nx jp Rt hs hN hJ p l e R s m args below meth c Q G H locs ls X F r o lr
  unfold S_dup at hs
  split at hs
  · exact lv_dup X.1 X.2.1 hd rfl (hN _ _ _ _ _ hs p l e R s m args below meth c Q G H locs ls X F r o lr)
  · exact lv_dup X.1 X.2.1 hd (em_cat (G := G) (.ref _)) (hN _ _ _ _ _ hs p l e R s m args below meth c Q G H locs ls X F r o lr)
  · exact hs.elim
theorem s_dup2 (hd : decode (bM k) pc = .ok (.dup2, 1)) : Snd k pcs pc (pc + 1) S_dup2 := by
  intro L st h cc ss nx jp Rt hs hN hJ p l e R s m args below meth c Q G H locs ls X F r o lr
  unfold S_dup2 at hs
  split at hs
  · exact lv_dup2_11 X.1 X.2.1 hd rfl (em_cat (G := G) (.ref _)) (hN _ _ _ _ _ hs p l e R s m args below meth c Q G H locs ls X F r o lr)
  · exact hs.elim
theorem s_pop (hd : decode (bM k) pc = .ok (.pop, 1)) : Snd k pcs pc (pc + 1) S_pop := by
  intro L st h cc ss nx jp Rt hs hN hJ p l e R s m args below meth c Q G H locs ls X F r o lr
  unfold S_pop at hs
  split at hs
  · exact lv_pop X.1 X.2.1 hd rfl (hN _ _ _ _ _ hs p l e R s m args below meth c Q G H locs ls X F r o lr)
  · exact lv_pop X.1 X.2.1 hd (em_cat (G := G) (.ref _)) (hN _ _ _ _ _ hs p l e R s m args below meth c Q G H locs ls X F r o lr)
  · exact hs.elim
theorem s_no {pc' : Nat} : Snd k pcs pc pc' S_no := fun _ _ _ _ _ _ _ _ hs => hs.elim
theorem s_vret {mc ms : Nat} (h1 : mc ≤ mcM k) (h2 : ms ≤ msM k) (hk : rK k = 0) (hd : decode (bM k) pc = .ok (.return_, 1)) : Snd k pcs pc (pc + 1) (S_vret mc ms) := by
  intro L st h cc ss nx jp Rt hs hN hJ p l e R s m args below meth c Q G H locs ls X F r o lr
  unfold S_vret at hs
  split at hs
  · have hs := gd_iff.mp hs
    have hs2 := gd_iff.mp hs.2
    exact F H locs cc ss pc ls .null h [] r o (Nat.le_trans hs.1 h1) (Nat.le_trans hs2.1 h2) hs2.2 (Or.inl ⟨hk, rfl, rfl, hd⟩)
  · exact hs.elim
theorem s_iret {mc ms : Nat} (h1 : mc ≤ mcM k) (h2 : ms ≤ msM k) (hk : rK k = 1) (hd : decode (bM k) pc = .ok (.ireturn, 1)) : Snd k pcs pc (pc + 1) (S_iret mc ms) := by
  intro L st h cc ss nx jp Rt hs hN hJ p l e R s m args below meth c Q G H locs ls X F r o lr
  unfold S_iret at hs
  split at hs
  · rename_i x
    have hs := gd_iff.mp hs
    have hs2 := gd_iff.mp hs.2
    exact F H locs cc ss pc ls (.int x) h [.int x] r o (Nat.le_trans hs.1 h1) (Nat.le_trans hs2.1 h2) hs2.2 (Or.inr (Or.inl ⟨hk, ⟨x, rfl, rfl⟩, hd⟩))
  · exact hs.elim
theorem s_lret {mc ms : Nat} (h1 : mc ≤ mcM k) (h2 : ms ≤ msM k) (hk : rK k = 2) (hd : decode (bM k) pc = .ok (.lreturn, 1)) : Snd k pcs pc (pc + 1) (S_lret mc ms) := by
  intro L st h cc ss nx jp Rt hs hN hJ p l e R s m args below meth c Q G H locs ls X F r o lr
  unfold S_lret at hs
  split at hs
  · rename_i x
    have hs := gd_iff.mp hs
    have hs2 := gd_iff.mp hs.2
    exact F H locs cc ss pc ls (.long x) h [.long x] r o (Nat.le_trans hs.1 h1) (Nat.le_trans hs2.1 h2) hs2.2 (Or.inr (Or.inr (Or.inl ⟨hk, ⟨x, rfl, rfl⟩, hd⟩)))
  · exact hs.elim
theorem s_aret {mc ms : Nat} (h1 : mc ≤ mcM k) (h2 : ms ≤ msM k) (hk : rK k = 3) (hd : decode (bM k) pc = .ok (.areturn, 1)) : Snd k pcs pc (pc + 1) (S_aret mc ms) := by
  intro L st h cc ss nx jp Rt hs hN hJ p l e R s m args below meth c Q G H locs ls X F r o lr
  unfold S_aret at hs
  split at hs
  · rename_i x
    have hs := gd_iff.mp hs
    have hs2 := gd_iff.mp hs.2
    exact F H locs cc ss pc ls (.ref x) h [er G x] r o (Nat.le_trans hs.1 h1) (Nat.le_trans hs2.1 h2) hs2.2 (Or.inr (Or.inr (Or.inr (Or.inl ⟨hk, ⟨x, rfl, rfl⟩, hd⟩))))
  · exact hs.elim
theorem s_zret {mc ms : Nat} (h1 : mc ≤ mcM k) (h2 : ms ≤ msM k) (hk : rK k = 4) (hd : decode (bM k) pc = .ok (.ireturn, 1)) : Snd k pcs pc (pc + 1) (S_zret mc ms) := by
  intro L st h cc ss nx jp Rt hs hN hJ p l e R s m args below meth c Q G H locs ls X F r o lr
  unfold S_zret at hs
  split at hs
  · rename_i x
    obtain ⟨hb, hs⟩ := hs
    have hs := gd_iff.mp hs
    have hs2 := gd_iff.mp hs.2
    exact F H locs cc ss pc ls (.int x) h [.int x] r o (Nat.le_trans hs.1 h1) (Nat.le_trans hs2.1 h2) hs2.2 (Or.inr (Or.inr (Or.inr (Or.inr ⟨hk, ⟨x, rfl, hb, rfl⟩, hd⟩))))
  · exact hs.elim
/-- the offset that a switch takes, and the row's pairs -/
theorem swc_at {x : Int32} {d : Nat} {j : Nat → Prop} : ∀ (ks : List (Int32 × Nat)), swc x d j ks → (∃ q ∈ ks, x = q.1 ∧ j q.2) ∨ ((∀ q ∈ ks, x ≠ q.1) ∧ j d)
  | [], h => Or.inr ⟨fun _ h => absurd h List.not_mem_nil, h⟩
  | (a, t) :: ks, h => by
    by_cases hx : x = a
    · exact Or.inl ⟨(a, t), List.mem_cons_self, hx, h.1 hx⟩
    · rcases swc_at ks (h.2 hx) with ⟨q, h1, h2⟩ | ⟨h1, h2⟩
      · exact Or.inl ⟨q, List.mem_cons_of_mem _ h1, h2⟩
      · refine Or.inr ⟨fun q hq => ?_, h2⟩
        rcases List.mem_cons.mp hq with rfl | hq
        · exact hx
        · exact h1 q hq
theorem s_table {dflt lo hi : Int} {offs : Array Int} {len d : Nat} {ks : List (Int32 × Nat)} (hd : decode (bM k) pc = .ok (.tableswitch dflt lo hi offs, len))
    (h1 : ∀ q ∈ ks, ¬ q.1.toInt < lo ∧ ¬ hi < q.1.toInt ∧ ∃ off, offs[(q.1.toInt - lo).toNat]? = some off ∧ (pc : Int) + off = (pcs q.2 : Int)) (h2 : (pc : Int) + dflt = (pcs d : Int)) (h3 : ∀ x : Int32, ¬ x.toInt < lo → ¬ hi < x.toInt → ∃ q ∈ ks, x = q.1) : Snd k pcs pc (pc + len) (S_sw ks d) := by
  intro L st h cc ss nx jp Rt hs hN hJ p l e R s m args below meth c Q G H locs ls X F r o lr
  unfold S_sw at hs
  split at hs
  · rename_i x rr
    rcases swc_at _ hs with ⟨q, hq, rfl, hj⟩ | ⟨hq, hj⟩
    · obtain ⟨a1, a2, off, a3, a4⟩ := h1 q hq
      exact lv_tableIn X.1 X.2.1 hd a1 a2 a3 a4 (hJ _ _ _ _ _ _ hj p l e R s m args below meth c Q G H locs ls X F r o lr)
    · refine lv_tableOut X.1 X.2.1 hd ?_ h2 (hJ _ _ _ _ _ _ hj p l e R s m args below meth c Q G H locs ls X F r o lr)
      by_cases a1 : x.toInt < lo
      · exact Or.inl a1
      · by_cases a2 : hi < x.toInt
        · exact Or.inr a2
        · obtain ⟨q, b1, b2⟩ := h3 x a1 a2
          exact absurd b2 (hq q b1)
  · exact hs.elim
def offOf (ps : List (Int × Int)) (dflt : Int) (x : Int) : Int := Op.lookupswitch.offset ps dflt x
theorem offOf_cons (a o : Int) (r : List (Int × Int)) (d x : Int) : offOf ((a, o) :: r) d x = if a = x then o else offOf r d x := Op.lookupswitch.offset_cons ..
theorem s_lookup {dflt : Int} {ps : Array (Int × Int)} {len d : Nat} {ks : List (Int32 × Nat)} (hd : decode (bM k) pc = .ok (.lookupswitch dflt ps, len)) (hp : (ps.toList.zip (ps.toList.drop 1)).all (fun (a, next) => a.1 < next.1) = true)
    (h1 : ∀ q ∈ ks, (pc : Int) + offOf ps.toList dflt q.1.toInt = (pcs q.2 : Int)) (h2 : ∀ x : Int32, (∀ q ∈ ks, x ≠ q.1) → (pc : Int) + offOf ps.toList dflt x.toInt = (pcs d : Int)) : Snd k pcs pc (pc + len) (S_sw ks d) := by
  intro L st h cc ss nx jp Rt hs hN hJ p l e R s m args below meth c Q G H locs ls X F r o lr
  unfold S_sw at hs
  split at hs
  · rename_i x rr
    rcases swc_at _ hs with ⟨q, hq, rfl, hj⟩ | ⟨hq, hj⟩
    · exact lv_lookup X.1 X.2.1 hd hp rfl (h1 q hq) (hJ _ _ _ _ _ _ hj p l e R s m args below meth c Q G H locs ls X F r o lr)
    · exact lv_lookup X.1 X.2.1 hd hp rfl (h2 x hq) (hJ _ _ _ _ _ _ hj p l e R s m args below meth c Q G H locs ls X F r o lr)
  · exact hs.elim
end SN
