/-! what stays in a heap that grows -/
def Kp (A : List Nat) (h g : MH) : Prop := SS g ∧ hn h ≤ hn g ∧ ∀ a, a < hn h → kd g a = kd h a ∧ ln g a = ln h a ∧ (a ∉ A → mi g a = mi h a ∧ ml g a = ml h a ∧ mr g a = mr h a)
theorem Kp.refl {A : List Nat} {h : MH} (H : SS h) : Kp A h h := ⟨H, Nat.le_refl _, fun _ _ => ⟨rfl, rfl, fun _ => ⟨rfl, rfl, rfl⟩⟩⟩
theorem Kp.trans {A : List Nat} {h g k : MH} (a : Kp A h g) (b : Kp A g k) : Kp A h k := ⟨b.1, Nat.le_trans a.2.1 b.2.1, fun x hx => by
  have p := a.2.2 x hx
  have q := b.2.2 x (Nat.lt_of_lt_of_le hx a.2.1)
  exact ⟨q.1.trans p.1, q.2.1.trans p.2.1, fun n => ⟨(q.2.2 n).1.trans (p.2.2 n).1, (q.2.2 n).2.1.trans (p.2.2 n).2.1, (q.2.2 n).2.2.trans (p.2.2 n).2.2⟩⟩⟩
theorem Kp.mono {A B : List Nat} {h g : MH} (a : Kp A h g) (s : ∀ x ∈ A, x ∈ B) : Kp B h g := ⟨a.1, a.2.1, fun x hx => ⟨(a.2.2 x hx).1, (a.2.2 x hx).2.1, fun n => (a.2.2 x hx).2.2 (fun q => n (s x q))⟩⟩
theorem Kp.i {A : List Nat} {h g : MH} (a : Kp A h g) {x : Nat} (hx : x < hn h) (n : x ∉ A) : mi g x = mi h x := ((a.2.2 x hx).2.2 n).1
theorem Kp.l {A : List Nat} {h g : MH} (a : Kp A h g) {x : Nat} (hx : x < hn h) (n : x ∉ A) : ml g x = ml h x := ((a.2.2 x hx).2.2 n).2.1
theorem Kp.r {A : List Nat} {h g : MH} (a : Kp A h g) {x : Nat} (hx : x < hn h) (n : x ∉ A) : mr g x = mr h x := ((a.2.2 x hx).2.2 n).2.2
theorem Kp.k {A : List Nat} {h g : MH} (a : Kp A h g) {x : Nat} (hx : x < hn h) : kd g x = kd h x := (a.2.2 x hx).1
theorem Kp.n {A : List Nat} {h g : MH} (a : Kp A h g) {x : Nat} (hx : x < hn h) : ln g x = ln h x := (a.2.2 x hx).2.1
theorem kd_sil {h : MH} {f : (Nat → Nat → Int32)} {l : (Nat → Nat → Int64)} (H : SS h) : kd (sil h f l) = kd h := sK_eq H
theorem ln_sil {h : MH} {f : (Nat → Nat → Int32)} {l : (Nat → Nat → Int64)} (H : SS h) : ln (sil h f l) = ln h := sL_eq H
theorem mr_sil {h : MH} {f : (Nat → Nat → Int32)} {l : (Nat → Nat → Int64)} (H : SS h) : mr (sil h f l) = mr h := sR_eq H
theorem Kp.si2 {A : List Nat} {h : MH} {f f' : (Nat → Nat → Int32)} {l l' : (Nat → Nat → Int64)} (H : SS h) (a : Fr A f f') (b : Fr A l l') : Kp A (sil h f l) (sil h f' l') :=
  ⟨SS_sil H, Nat.le_refl _, fun x _ => ⟨rfl, rfl, fun n => ⟨a x n, b x n, rfl⟩⟩⟩
theorem Kp.si3 {A : List Nat} {h : MH} {f' : (Nat → Nat → Int32)} {l' : (Nat → Nat → Int64)} (H : SS h) (a : Fr A (mi h) f') (b : Fr A (ml h) l') : Kp A h (sil h f' l') := by
  have := Kp.si2 H a b
  rw [← H.sil] at this
  exact this
theorem Kp.nw {A : List Nat} {h g : MH} {k n : Nat} (a : Kp A h g) : Kp A h (nw g k n) := by
  refine ⟨SS_nw a.1, Nat.le_trans a.2.1 (Nat.le_succ _), fun x hx => ?_⟩
  have ne : x ≠ hn g := by have := a.2.1; omega
  have q := a.2.2 x hx
  rw [kd_old ne, ln_old ne]
  refine ⟨q.1, q.2.1, fun nA => ⟨?_, ?_, ?_⟩⟩
  · funext j
    show (if x = hn g then 0 else mi g x j) = _
    rw [if_neg ne, (q.2.2 nA).1]
  · funext j
    show (if x = hn g then 0 else ml g x j) = _
    rw [if_neg ne, (q.2.2 nA).2.1]
  · funext j
    show (if x = hn g then 0 else mr g x j) = _
    rw [if_neg ne, (q.2.2 nA).2.2]
theorem Kp.wi {A : List Nat} {h g : MH} {a i : Nat} {x : Int32} (c : Kp A h g) (ha : a ∈ A ∨ hn h ≤ a) : Kp A h (wi g a i x) :=
  ⟨c.1, c.2.1, fun y hy => ⟨(c.2.2 y hy).1, (c.2.2 y hy).2.1, fun n => ⟨(up2_row (fun q => by rcases ha with ha | ha; exact n (by rw [q]; exact ha); omega)).trans ((c.2.2 y hy).2.2 n).1, ((c.2.2 y hy).2.2 n).2⟩⟩⟩
theorem Kp.wr {A : List Nat} {h g : MH} {a i x : Nat} (c : Kp A h g) (ha : a ∈ A ∨ hn h ≤ a) (hs : 99 ≤ a ∨ a = 29 ∨ a = 43 ∨ a = 44) : Kp A h (wr g a i x) :=
  ⟨SS_wr c.1 hs, c.2.1, fun y hy => ⟨(c.2.2 y hy).1, (c.2.2 y hy).2.1, fun n => ⟨((c.2.2 y hy).2.2 n).1, ((c.2.2 y hy).2.2 n).2.1, (up2_row (fun q => by rcases ha with ha | ha; exact n (by rw [q]; exact ha); omega)).trans ((c.2.2 y hy).2.2 n).2.2⟩⟩⟩
theorem Kp.cpI {A : List Nat} {h g : MH} {s sp d dp n : Nat} (c : Kp A h g) (hd : d ∈ A ∨ hn h ≤ d) : Kp A h (cpI g s sp d dp n) := by
  refine ⟨c.1, c.2.1, fun y hy => ⟨(c.2.2 y hy).1, (c.2.2 y hy).2.1, fun nA => ⟨?_, ((c.2.2 y hy).2.2 nA).2⟩⟩⟩
  funext j
  rw [mi_cpI, if_neg (fun q => by
    rcases hd with hd | hd
    · exact nA (by rw [q.1]; exact hd)
    · have := q.1; omega)]
  exact congrFun ((c.2.2 y hy).2.2 nA).1 j
/-! the groups of the class -/
def Alike (S : List Nat) (a b : Nat) : Prop := ∃ c ∈ S, ∃ z, Pr c a z ∧ Pr b c z
noncomputable def alikeN (S : List Nat) : Nat := ((List.range S.length).filter fun i => @decide (∀ j, j < i → ¬ Alike S (S.getD j 0) (S.getD i 0)) (Classical.propDecidable _)).length
def SidesOK (S : List Nat) (b : Nat) (s : Nat → Nat) : Prop := 2 ^ b ≤ 192 ∧ (∀ i, i < S.length → s i < 2 ^ b) ∧ (∀ i j k, i < S.length → j < S.length → k < S.length → Pr (S.getD i 0) (S.getD j 0) (S.getD k 0) → s k = s i ^^^ s j) ∧
  (∀ k, k < b → ∃ i, i < S.length ∧ s i = 2 ^ k ∧ ∀ j, j < i → s j % 2 ^ (k + 1) = 0) ∧ ∀ i, i < S.length → s i = 0 → reach (fun g => ∃ x ∈ S, Pr x x g) (S.getD i 0)
def GOk (S : List Nat) : Prop := S.Pairwise (· < ·) ∧ S.length ≤ 192 ∧ (∀ x ∈ S, isOp x) ∧ idc ∈ S ∧ ∀ x ∈ S, ∀ y ∈ S, ∃ z ∈ S, Pr x y z
/-- where a group's own cells are, and what does not change in them -/
def GrpB (h : MH) (O : Nat → Nat) (t g : Nat) (S MK : List Nat) : Prop :=
  (99 ≤ g ∧ g + 3 < hn h ∧ O g = t ∧ O (g + 1) = t ∧ O (g + 2) = t ∧ O (g + 3) = t) ∧ (kd h g = 4 ∧ mr h g 0 = g + 1 ∧ mr h g 1 = g + 3) ∧ (kd h (g + 1) = 9 ∧ mr h (g + 1) 0 = g + 2 ∧ mi h (g + 1) 1 = nI S.length) ∧
  (kd h (g + 2) = 20 ∧ ln h (g + 2) = S.length ∧ ∀ j, j < S.length → mi h (g + 2) j = nI (S.getD j 0)) ∧ (kd h (g + 3) = 20 ∧ ln h (g + 3) = MK.length ∧ ∀ j, j < MK.length → mi h (g + 3) j = nI (MK.getD j 0))
/-- what is kept when it was first asked for -/
def GrpC (h : MH) (O : Nat → Nat) (t g : Nat) (S : List Nat) : Prop := (mi h g 2 = -1 ∨ mi h g 2 = nI (alikeN S)) ∧
  (mr h g 3 = 0 ∨ ∃ b s, (99 ≤ mr h g 3 ∧ mr h g 3 < hn h ∧ O (mr h g 3) = t ∧ kd h (mr h g 3) = 20 ∧ ln h (mr h g 3) = S.length) ∧ mi h g 4 = nI b ∧ (∀ j, j < S.length → mi h (mr h g 3) j = nI (s j)) ∧ SidesOK S b s)
def HGrp (h : MH) (O : Nat → Nat) (GS : List (List Nat)) : Prop := GS.length ≤ 60 ∧ mi h 5 6 = nI GS.length ∧ ∀ i, i < GS.length → GOk (GS.getD i []) ∧ (∃ MK, GrpB h O i (mr h 29 i) (GS.getD i []) MK ∧ Closed (GS.getD i []) MK) ∧ GrpC h O i (mr h 29 i) (GS.getD i [])
theorem GrpB.kp {A : List Nat} {h k : MH} {O O' : Nat → Nat} {t g : Nat} {S MK : List Nat} (b : GrpB h O t g S MK) (c : Kp A h k) (hA : ∀ a ∈ A, a < 99 ∨ O a ≠ t) (hO : ∀ a, a < hn h → O' a = O a) : GrpB k O' t g S MK := by
  obtain ⟨⟨b1, b2, b3, b4, b5, b6⟩, ⟨b7, b8, b9⟩, ⟨b10, b11, b12⟩, ⟨b13, b14, b15⟩, b16, b17, b18⟩ := b
  have l := c.2.1
  have no : ∀ x, 99 ≤ x → O x = t → x ∉ A := fun x h1 h2 q => by
    rcases hA x q with w | w
    · omega
    · exact w h2
  have n0 := no g b1 b3
  have n1 := no (g + 1) (by omega) b4
  have n2 := no (g + 2) (by omega) b5
  have n3 := no (g + 3) (by omega) b6
  refine ⟨⟨b1, by omega, by rw [hO _ (by omega)]; exact b3, by rw [hO _ (by omega)]; exact b4, by rw [hO _ (by omega)]; exact b5, by rw [hO _ (by omega)]; exact b6⟩, ⟨by rw [c.k (by omega)]; exact b7, by rw [c.r (by omega) n0]; exact b8, by rw [c.r (by omega) n0]; exact b9⟩,
    ⟨by rw [c.k (by omega)]; exact b10, by rw [c.r (by omega) n1]; exact b11, by rw [c.i (by omega) n1]; exact b12⟩, ⟨by rw [c.k (by omega)]; exact b13, by rw [c.n (by omega)]; exact b14, fun j hj => by rw [c.i (by omega) n2]; exact b15 j hj⟩, by rw [c.k (by omega)]; exact b16, by rw [c.n (by omega)]; exact b17, fun j hj => by rw [c.i (by omega) n3]; exact b18 j hj⟩
theorem GrpC.kp {A : List Nat} {h k : MH} {O O' : Nat → Nat} {t g : Nat} {S : List Nat} (b : GrpC h O t g S) (g1 : 99 ≤ g) (g2 : g < hn h) (g3 : O g = t) (c : Kp A h k) (hA : ∀ a ∈ A, a < 99 ∨ O a ≠ t) (hO : ∀ a, a < hn h → O' a = O a) : GrpC k O' t g S := by
  have l := c.2.1
  have no : ∀ x, 99 ≤ x → O x = t → x ∉ A := fun x h1 h2 q => by
    rcases hA x q with w | w
    · omega
    · exact w h2
  have n0 := no g g1 g3
  have er := c.r g2 n0
  refine ⟨by rw [c.i g2 n0]; exact b.1, ?_⟩
  rcases b.2 with q | ⟨b', s, ⟨q1, q2, q3, q4, q5⟩, q6, q7, q8⟩
  · exact Or.inl (by rw [er]; exact q)
  · refine Or.inr ⟨b', s, ?_, by rw [c.i g2 n0]; exact q6, ?_, q8⟩
    · rw [er]
      exact ⟨q1, by omega, by rw [hO _ q2]; exact q3, by rw [c.k q2]; exact q4, by rw [c.n q2]; exact q5⟩
    · rw [er, c.i q2 (no _ q1 q3)]
      exact q7
theorem HGrp.kp {A : List Nat} {h k : MH} {O O' : Nat → Nat} {GS : List (List Nat)} (H : SS h) (b : HGrp h O GS) (c : Kp A h k) (hA : ∀ a ∈ A, (a < 99 ∧ a ≠ 29) ∨ (99 ≤ a ∧ 60 ≤ O a)) (h5 : mi k 5 6 = mi h 5 6) (hO : ∀ a, a < hn h → O' a = O a) : HGrp k O' GS := by
  have h99 := H.1
  have n29 : 29 ∉ A := fun q => by
    have := hA 29 q
    omega
  have e29 := c.r (x := 29) (by omega) n29
  refine ⟨b.1, by rw [h5]; exact b.2.1, fun i hi => ?_⟩
  have hA' : ∀ a ∈ A, a < 99 ∨ O a ≠ i := fun a ha => by
    have := b.1
    rcases hA a ha with q | q
    · exact Or.inl q.1
    · exact Or.inr (by omega)
  obtain ⟨g1, ⟨MK, g2, g3⟩, g4⟩ := b.2.2 i hi
  rw [e29]
  exact ⟨g1, ⟨MK, g2.kp c hA' hO, g3⟩, g4.kp g2.1.1 (by have := g2.1.2.1; omega) g2.1.2.2.1 c hA' hO⟩
theorem GrpB.row {h : MH} {O : Nat → Nat} {t g : Nat} {S MK : List Nat} (b : GrpB h O t g S MK) (s : S.Pairwise (· < ·)) (hl : S.length ≤ 192) (hc : ∀ x ∈ S, cOK x) : RowAt h (g + 1) S.length (fun i => (S.getD i 0 : Int)) := by
  obtain ⟨_, _, ⟨b10, b11, b12⟩, ⟨b13, b14, b15⟩, _⟩ := b
  refine ⟨b10, by rw [b11]; exact b13, b12, by rw [b11, b14]; exact Nat.le_refl _, by omega, fun i hi => ?_, fun i j h1 h2 => ?_⟩
  · have := cOK_mem hc hi
    rw [b11, b15 i hi, nI_toI (by omega)]
  · have := srt_lt s h1 h2
    show (S.getD i 0 : Int) < (S.getD j 0 : Int)
    omega
theorem sp_Row_sameAs {h : MH} {x0 x1 n0 n1 : Nat} {F0 F1 : Nat → Int} (r0 : RowAt h x0 n0 F0) (r1 : RowAt h x1 n1 F1) : SpI k_Row_sameAs [.ref x0, .ref x1] h (fun r g => g = h ∧ ((r = 1 ∧ n0 = n1 ∧ ∀ i, i < n0 → F0 i = F1 i) ∨ (r = 0 ∧ ¬ (n0 = n1 ∧ ∀ i, i < n0 → F0 i = F1 i)))) := by
  obtain ⟨a1, a2, a3, a4, a5, a6, a7⟩ := r0
  obtain ⟨b1, b2, b3, b4, b5, b6, b7⟩ := r1
  refine v_Row_sameAs _ _ _ _ ⟨a1, b1, ?_⟩
  rw [a3, b3, nI_inj (by omega) (by omega)]
  refine ⟨fun e => ?_, fun e => ⟨_, rfl, rfl, Or.inr ⟨rfl, fun q => e q.1⟩⟩⟩
  subst e
  have main : ∀ d i, n0 - i = d → i ≤ n0 → (∀ j, j < i → F0 j = F1 j) → WM k_Row_sameAs p_Row_sameAs_1 [.ref x0, .ref x1, .int (nI i)] [] h 0 0 (fun v g => ∃ r, v = .int r ∧ g = h ∧ ((r = 1 ∧ n0 = n0 ∧ ∀ i, i < n0 → F0 i = F1 i) ∨ (r = 0 ∧ ¬ (n0 = n0 ∧ ∀ i, i < n0 → F0 i = F1 i)))) := by
    intro d
    induction d with
    | zero =>
      intro i hd hi eq
      refine v_Row_sameAs_1 _ _ _ _ _ ⟨a1, ?_⟩
      rw [a3, nI_toI (by omega), nI_toI (by omega)]
      exact ⟨fun c => absurd c (by omega), fun _ => ⟨_, rfl, rfl, Or.inl ⟨rfl, rfl, fun j hj => eq j (by omega)⟩⟩⟩
    | succ d ih =>
      intro i hd hi eq
      have il : i < n0 := by omega
      have e0 := a6 i il
      have e1 := b6 i il
      refine v_Row_sameAs_1 _ _ _ _ _ ⟨a1, ?_⟩
      rw [a3, nI_toI (by omega), nI_toI (by omega), ix_nI (by omega)]
      refine ⟨fun _ => ⟨a2, InB_nI (by omega) (by omega), b1, b2, InB_nI (by omega) (by omega), fun c => ?_, fun c => ?_⟩, fun c => absurd (by omega) c⟩
      · rw [nI_1]
        refine ih (i + 1) (by omega) (by omega) (fun j hj => ?_)
        by_cases q : j = i
        · subst q; rw [← e0, ← e1, c]
        · exact eq j (by omega)
      · refine ⟨_, rfl, rfl, Or.inr ⟨rfl, fun q => c ?_⟩⟩
        have := q.2 i il
        rw [← e0, ← e1] at this
        exact hb_eq this
  exact main _ 0 rfl (Nat.zero_le _) (fun j hj => absurd hj (Nat.not_lt_zero j))
