/-! the cells of the class -/
def dotS : S6 → Int → Int → Int → Int → Int → Int → Int := fun (a, b, c, d, e, f) x y z u v w => a * x * u + b * y * v + c * z * w + d * (y * w + z * v) + e * (x * w + z * u) + f * (x * v + y * u)
def mulF (s : S6) (p q r s' t u : Int) : S6 := (dotS s p 0 0 p 0 0, dotS s q r 0 q r 0, dotS s s' t u s' t u, dotS s q r 0 s' t u, dotS s p 0 0 s' t u, dotS s p 0 0 q r 0)
def HnF (n p q r s t u : Nat) : Prop := 0 < p ∧ 0 < r ∧ p * r * u = n ∧ q < p ∧ s < p ∧ t < r
def nth6 : S6 → Nat → Int := fun (a, b, c, d, e, f) i => if i = 0 then a else if i = 1 then b else if i = 2 then c else if i = 3 then d else if i = 4 then e else f
def lx6 (t u : S6) : Prop := ∃ i, i < 6 ∧ nth6 t i < nth6 u i ∧ ∀ j, j < i → nth6 t j = nth6 u j
def MulL (s : S6) (n : Nat) (M : List S6) : Prop := M.Pairwise lx6 ∧ ∀ m, m ∈ M ↔ ∃ p q r s' t u : Nat, HnF n p q r s' t u ∧ ∃ k v, Red k (db (mulF s p q r s' t u)) v ∧ m = hf v
def lat : List Nat := [0, 1, 7, 13, 35, 31, 91, 57, 155, 130, 217, 133, 455]
/-- a matrix of -1, 0, 1 by its three columns keeps a form -/
def kpS (s : S6) (u v w : V3) : Prop := dotS s u.1 u.2.1 u.2.2 u.1 u.2.1 u.2.2 = nth6 s 0 ∧ dotS s v.1 v.2.1 v.2.2 v.1 v.2.1 v.2.2 = nth6 s 1 ∧ dotS s w.1 w.2.1 w.2.2 w.1 w.2.1 w.2.2 = nth6 s 2 ∧ dotS s v.1 v.2.1 v.2.2 w.1 w.2.1 w.2.2 = nth6 s 3 ∧ dotS s u.1 u.2.1 u.2.2 w.1 w.2.1 w.2.2 = nth6 s 4 ∧ dotS s u.1 u.2.1 u.2.2 v.1 v.2.1 v.2.2 = nth6 s 5
def colV (M : Nat → Int) (j : Nat) : V3 := (M j, M (3 + j), M (6 + j))
noncomputable def symN (s : S6) : Nat := ((List.range 19683).filter fun k => @decide (kpS s (colV (eM (13824 * k)) 0) (colV (eM (13824 * k)) 1) (colV (eM (13824 * k)) 2)) (Classical.propDecidable _)).length
def okC (s : S6) : Prop := ∃ n, cellOk n (nth6 s 0) (nth6 s 1) (nth6 s 2) (nth6 s 3) (nth6 s 4) (nth6 s 5)
def CelB (h : MH) (O : Nat → Nat) (t x : Nat) (s : S6) : Prop :=
  (99 ≤ x ∧ x + 5 < hn h ∧ ∀ j, j < 6 → O (x + j) = t) ∧ (kd h x = 1 ∧ mr h x 0 = x + 1 ∧ mr h x 1 = x + 2 ∧ mr h x 2 = x + 3 ∧ mr h x 3 = x + 4 ∧ mr h x 4 = x + 5) ∧
  (kd h (x + 1) = 3 ∧ kd h (x + 2) = 3 ∧ kd h (x + 3) = 3 ∧ kd h (x + 4) = 28 ∧ ln h (x + 4) = 13 ∧ kd h (x + 5) = 20 ∧ ln h (x + 5) = 13) ∧
  FoAt (ml h) (x + 1) (db s) ∧ ∃ k u, Red k (db s) u ∧ FoAt (ml h) (x + 2) u ∧ (mi h x 5 = -1 ∨ mi h x 5 = nI (symN (hf u)))
def MulAt (l : (Nat → Nat → Int64)) (r : Nat) (M : List S6) : Prop := ∀ k, k < M.length → ∀ i, i < 6 → l r (6 * k + i) = zL (nth6 (M.getD k (0, 0, 0, 0, 0, 0)) i)
def CelC (h : MH) (O : Nat → Nat) (t x : Nat) (s : S6) : Prop := ∀ n, n < 13 → mr h (x + 4) n = 0 ∨ ∃ M, (99 ≤ mr h (x + 4) n ∧ mr h (x + 4) n < hn h ∧ O (mr h (x + 4) n) = t ∧ kd h (mr h (x + 4) n) = 21 ∧ ln h (mr h (x + 4) n) = 6 * lat.getD n 0) ∧ M.length ≤ lat.getD n 0 ∧ mi h (x + 5) n = nI M.length ∧ MulAt (ml h) (mr h (x + 4) n) M ∧ MulL s n M
abbrev z6 : S6 := (0, 0, 0, 0, 0, 0)
def HCel (h : MH) (O : Nat → Nat) (CS : List S6) : Prop := CS.length ≤ 40 ∧ mi h 5 14 = nI CS.length ∧ ∀ j, j < CS.length → okC (CS.getD j z6) ∧ CelB h O (60 + j) (mr h 43 j) (CS.getD j z6) ∧ CelC h O (60 + j) (mr h 43 j) (CS.getD j z6)
theorem CelB.kp {A : List Nat} {h k : MH} {O O' : Nat → Nat} {t x : Nat} {s : S6} (b : CelB h O t x s) (c : Kp A h k) (hA : ∀ a ∈ A, a < 99 ∨ O a ≠ t) (hO : ∀ a, a < hn h → O' a = O a) : CelB k O' t x s := by
  obtain ⟨⟨b1, b2, b3⟩, ⟨c1, c2, c3, c4, c5, c6⟩, ⟨d1, d2, d3, d4, d5, d6, d7⟩, e1, n, u, e2, e3, e4⟩ := b
  have l := c.2.1
  have no : ∀ j, j < 6 → x + j ∉ A := fun j hj q => by
    rcases hA _ q with w | w
    · omega
    · exact w (b3 j hj)
  have n0 := no 0 (by omega)
  rw [Nat.add_zero] at n0
  have r0 := c.r (x := x) (by omega) n0
  refine ⟨⟨b1, by omega, fun j hj => by rw [hO _ (by omega)]; exact b3 j hj⟩, ⟨by rw [c.k (by omega)]; exact c1, by rw [r0]; exact c2, by rw [r0]; exact c3, by rw [r0]; exact c4, by rw [r0]; exact c5, by rw [r0]; exact c6⟩, ⟨by rw [c.k (by omega)]; exact d1, by rw [c.k (by omega)]; exact d2, by rw [c.k (by omega)]; exact d3, by rw [c.k (by omega)]; exact d4, by rw [c.n (by omega)]; exact d5, by rw [c.k (by omega)]; exact d6, by rw [c.n (by omega)]; exact d7⟩, e1.fr (c.l (by omega) (no 1 (by omega))), n, u, e2, e3.fr (c.l (by omega) (no 2 (by omega))), by rw [c.i (by omega) n0]; exact e4⟩
theorem CelC.kp {A : List Nat} {h k : MH} {O O' : Nat → Nat} {t x : Nat} {s : S6} (b : CelC h O t x s) (bb : CelB h O t x s) (c : Kp A h k) (hA : ∀ a ∈ A, a < 99 ∨ O a ≠ t) (hO : ∀ a, a < hn h → O' a = O a) : CelC k O' t x s := by
  have l := c.2.1
  have b2 := bb.1.2.1
  have no : ∀ y, 99 ≤ y → O y = t → y ∉ A := fun y h1 h2 q => by
    rcases hA y q with w | w
    · omega
    · exact w h2
  have b1 := bb.1.1
  have n4 := no (x + 4) (by omega) (bb.1.2.2 4 (by omega))
  have n5 := no (x + 5) (by omega) (bb.1.2.2 5 (by omega))
  have e4 := c.r (x := x + 4) (by omega) n4
  have e5 := c.i (x := x + 5) (by omega) n5
  intro n hn
  rw [e4, e5]
  rcases b n hn with q | ⟨M, ⟨q1, q2, q3, q4, q5⟩, q6, q7, q8, q9⟩
  · exact Or.inl q
  · refine Or.inr ⟨M, ⟨q1, by omega, by rw [hO _ q2]; exact q3, by rw [c.k q2]; exact q4, by rw [c.n q2]; exact q5⟩, q6, q7, ?_, q9⟩
    unfold MulAt
    rw [c.l q2 (no _ q1 q3)]
    exact q8
theorem HCel.kp {A : List Nat} {h k : MH} {O O' : Nat → Nat} {CS : List S6} (H : SS h) (b : HCel h O CS) (c : Kp A h k) (hA : ∀ a ∈ A, (a < 99 ∧ a ≠ 43) ∨ (99 ≤ a ∧ (O a < 60 ∨ 100 ≤ O a))) (h5 : mi k 5 14 = mi h 5 14) (hO : ∀ a, a < hn h → O' a = O a) : HCel k O' CS := by
  have h99 := H.1
  have n43 : 43 ∉ A := fun q => by
    have := hA 43 q
    omega
  have e43 := c.r (x := 43) (by omega) n43
  refine ⟨b.1, by rw [h5]; exact b.2.1, fun j hj => ?_⟩
  have hA' : ∀ a ∈ A, a < 99 ∨ O a ≠ 60 + j := fun a ha => by
    have := b.1
    rcases hA a ha with q | q
    · exact Or.inl q.1
    · exact Or.inr (by omega)
  obtain ⟨g1, g2, g3⟩ := b.2.2 j hj
  rw [e43]
  exact ⟨g1, g2.kp c hA' hO, g3.kp g2 c hA' hO⟩
theorem fo_init {h : MH} {a : Nat} (h0 : a ≠ 0) (hk : kd h a = 3) : SpV k_Form_init [.ref a] h (fun g => ∃ l', g = sl h l' ∧ Fr [a] (ml h) l') := by
  have m : a ∈ [a] := List.mem_cons_self
  refine v_Form_init _ _ _ ⟨h0, hk, ?_⟩
  rintro _ rfl
  refine v_Form_init_1 _ _ _ ⟨hk, ?_⟩
  rintro _ rfl
  rintro _ rfl
  refine v_Form_init_2 _ _ _ ⟨hk, ?_⟩
  rintro _ rfl
  rintro _ rfl
  refine v_Form_init_3 _ _ _ ⟨hk, ?_⟩
  rintro _ rfl
  exact ⟨_, rfl, (((((Fr.refl.up m).up m).up m).up m).up m).up m⟩
theorem Kp.sl {A : List Nat} {h g : MH} {l : (Nat → Nat → Int64)} {a : Nat} (c : Kp A h g) (fr : Fr [a] (ml g) l) (ha : a ∈ A ∨ hn h ≤ a) : Kp A h (sl g l) :=
  ⟨c.1, c.2.1, fun y hy => ⟨(c.2.2 y hy).1, (c.2.2 y hy).2.1, fun n => ⟨((c.2.2 y hy).2.2 n).1, (fr y (fun q => by
    have q := List.mem_singleton.mp q
    rcases ha with ha | ha
    · exact n (by rw [q]; exact ha)
    · omega)).trans ((c.2.2 y hy).2.2 n).2.1, ((c.2.2 y hy).2.2 n).2.2⟩⟩⟩
/-- a form that a new field holds -/
theorem cel_field {g : MH} {l : (Nat → Nat → Int64)} {x j : Nat} (G : SS g) (hx : 99 ≤ x) (hl : x < hn g) (fr : Fr [hn g] (ml (nw g 3 0)) l) : Kp [x] g (wr (sl (nw g 3 0) l) x j (hn g)) ∧ hn (wr (sl (nw g 3 0) l) x j (hn g)) = hn g + 1 ∧ kd (wr (sl (nw g 3 0) l) x j (hn g)) (hn g) = 3 ∧ mr (wr (sl (nw g 3 0) l) x j (hn g)) x j = hn g ∧ (∀ i, i ≠ j → mr (wr (sl (nw g 3 0) l) x j (hn g)) x i = mr g x i) := by
  refine ⟨((Kp.refl G).nw.sl fr (Or.inr (Nat.le_refl _))).wr (Or.inl List.mem_cons_self) (Or.inl hx), rfl, kd_new (n := 0), up2_s, fun i hi => ?_⟩
  show up2 (mr (nw g 3 0)) x j (hn g) x i = _
  rw [up2_ni hi, mr_old (by omega)]
theorem mr_new {h : MH} {k n : Nat} : ∀ j, mr (nw h k n) (hn h) j = 0 := fun j => by
  show (if hn h = hn h then 0 else mr h (hn h) j) = 0
  rw [if_pos rfl]
theorem sp_Cell_init2 {h : MH} {x : Nat} (H : SS h) (hx : 99 ≤ x) (e : hn h = x + 1) (hk : kd h x = 1) :
    SpV k_Cell_init [.ref x] h (fun g => Kp [x] h g ∧ hn g = x + 6 ∧ (kd g x = 1 ∧ mr g x 0 = x + 1 ∧ mr g x 1 = x + 2 ∧ mr g x 2 = x + 3 ∧ mr g x 3 = x + 4 ∧ mr g x 4 = x + 5) ∧ (kd g (x + 1) = 3 ∧ kd g (x + 2) = 3 ∧ kd g (x + 3) = 3 ∧ kd g (x + 4) = 28 ∧ ln g (x + 4) = 13 ∧ kd g (x + 5) = 20 ∧ ln g (x + 5) = 13) ∧ mi g x 5 = -1 ∧ ∀ j, mr g (x + 4) j = 0) := by
  have t13 : ix (13 : Int32) = 13 := rfl
  refine v_Cell_init _ _ _ ⟨by omega, ?_⟩
  rintro _ rfl
  refine ⟨kd_new, SpV.mono (fo_init (by omega) kd_new) ?_⟩
  rintro _ ⟨l1, rfl, f1⟩
  obtain ⟨K1, n1, k1, r1, o1⟩ := cel_field (j := 0) H hx (by omega) f1
  refine ⟨kd_oldS (by omega) hk, ?_⟩
  rintro _ rfl
  generalize wr (sl (nw h 3 0) l1) x 0 (hn h) = g1 at *
  have kx1 : kd g1 x = 1 := (K1.k (by omega)).trans hk
  rw [e] at n1 k1 r1
  refine v_Cell_init_1 _ _ _ _ _ (gd_i rfl (gd_i rfl ?_))
  rintro _ rfl
  refine ⟨kd_new, gd_i rfl (gd_i rfl (SpV.mono (fo_init (by omega) kd_new) ?_))⟩
  rintro _ ⟨l2, rfl, f2⟩
  obtain ⟨K2, n2, k2, r2, o2⟩ := cel_field (j := 1) K1.1 hx (by omega) f2
  refine ⟨kd_oldS (by omega) kx1, ?_⟩
  rintro _ rfl
  generalize wr (sl (nw g1 3 0) l2) x 1 (hn g1) = g2 at *
  have kx2 : kd g2 x = 1 := (K2.k (by omega)).trans kx1
  rw [n1] at n2 k2 r2
  refine v_Cell_init_2 _ _ _ _ _ (gd_i rfl (gd_i rfl ?_))
  rintro _ rfl
  refine ⟨kd_new, gd_i rfl (gd_i rfl (SpV.mono (fo_init (by omega) kd_new) ?_))⟩
  rintro _ ⟨l3, rfl, f3⟩
  obtain ⟨K3, n3, k3, r3, o3⟩ := cel_field (j := 2) K2.1 hx (by omega) f3
  refine ⟨kd_oldS (by omega) kx2, ?_⟩
  rintro _ rfl
  generalize wr (sl (nw g2 3 0) l3) x 2 (hn g2) = g3 at *
  have kx3 : kd g3 x = 1 := (K3.k (by omega)).trans kx2
  rw [n2] at n3 k3 r3
  refine v_Cell_init_3 _ _ _ _ _ (gd_i rfl (gd_i rfl ?_))
  rintro _ rfl
  rw [t13]
  refine ⟨(kd_old (by omega)).trans kx3, ?_⟩
  rintro _ rfl
  have ex4 : x + 4 = hn g3 := by omega
  have K4 : Kp [x] g3 (wr (nw g3 28 13) x 3 (hn g3)) := (Kp.refl K3.1).nw.wr (Or.inl List.mem_cons_self) (Or.inl hx)
  have n4 : hn (wr (nw g3 28 13) x 3 (hn g3)) = x + 5 := by show hn g3 + 1 = _; omega
  have k4 : kd (wr (nw g3 28 13) x 3 (hn g3)) (x + 4) = 28 := by rw [kd_wr, ex4]; exact kd_new
  have l4 : ln (wr (nw g3 28 13) x 3 (hn g3)) (x + 4) = 13 := by rw [ln_wr, ex4]; exact ln_new
  have m4 : ∀ j, mr (wr (nw g3 28 13) x 3 (hn g3)) (x + 4) j = 0 := fun j => by
    rw [mr_wr, up2_ne (by omega), ex4]; exact mr_new j
  have r4 : mr (wr (nw g3 28 13) x 3 (hn g3)) x 3 = x + 4 := by rw [mr_wr, up2_s]; omega
  have o4 : ∀ i, i ≠ 3 → mr (wr (nw g3 28 13) x 3 (hn g3)) x i = mr g3 x i := fun i hi => by rw [mr_wr, up2_ni hi, mr_old (by omega)]
  have kx4 : kd (wr (nw g3 28 13) x 3 (hn g3)) x = 1 := (K4.k (by omega)).trans kx3
  generalize wr (nw g3 28 13) x 3 (hn g3) = g4 at *
  refine v_Cell_init_4 _ _ _ _ _ (gd_i rfl (gd_i rfl ?_))
  rintro _ rfl
  rw [t13]
  refine ⟨(kd_old (by omega)).trans kx4, ?_⟩
  rintro _ rfl
  have ex5 : x + 5 = hn g4 := by omega
  have K5 : Kp [x] g4 (wr (nw g4 20 13) x 4 (hn g4)) := (Kp.refl K4.1).nw.wr (Or.inl List.mem_cons_self) (Or.inl hx)
  have n5 : hn (wr (nw g4 20 13) x 4 (hn g4)) = x + 6 := by show hn g4 + 1 = _; omega
  have k5 : kd (wr (nw g4 20 13) x 4 (hn g4)) (x + 5) = 20 := by rw [kd_wr, ex5]; exact kd_new
  have l5 : ln (wr (nw g4 20 13) x 4 (hn g4)) (x + 5) = 13 := by rw [ln_wr, ex5]; exact ln_new
  have r5 : mr (wr (nw g4 20 13) x 4 (hn g4)) x 4 = x + 5 := by rw [mr_wr, up2_s]; omega
  have o5 : ∀ i, i ≠ 4 → mr (wr (nw g4 20 13) x 4 (hn g4)) x i = mr g4 x i := fun i hi => by rw [mr_wr, up2_ni hi, mr_old (by omega)]
  have kx5 : kd (wr (nw g4 20 13) x 4 (hn g4)) x = 1 := (K5.k (by omega)).trans kx4
  generalize wr (nw g4 20 13) x 4 (hn g4) = g5 at *
  refine v_Cell_init_5 _ _ _ _ _ ⟨kx5, ?_⟩
  rintro _ rfl
  have K6 : Kp [x] g5 (wi g5 x 5 (-1)) := (Kp.refl K5.1).wi (Or.inl List.mem_cons_self)
  have x1 : ∀ i, 0 < i → x + i ∉ [x] := fun i hi q => by have := List.mem_singleton.mp q; omega
  refine gd_i rfl (gd_i rfl ⟨((((K1.trans K2).trans K3).trans K4).trans K5).trans K6, by rw [hn_wi]; exact n5, ⟨by rw [kd_wi]; exact kx5, ?_, ?_, ?_, ?_, by rw [mr_wi]; exact r5⟩, ⟨?_, ?_, ?_, ?_, ?_, by rw [kd_wi]; exact k5, by rw [ln_wi]; exact l5⟩, ?_, fun j => ?_⟩)
  · rw [mr_wi, o5 0 (by decide), o4 0 (by decide), o3 0 (by decide), o2 0 (by decide)]; exact r1
  · rw [mr_wi, o5 1 (by decide), o4 1 (by decide), o3 1 (by decide)]; exact r2
  · rw [mr_wi, o5 2 (by decide), o4 2 (by decide)]; exact r3
  · rw [mr_wi, o5 3 (by decide)]; exact r4
  · rw [kd_wi, K5.k (by omega), K4.k (by omega), K3.k (by omega), K2.k (by omega)]; exact k1
  · rw [kd_wi, K5.k (by omega), K4.k (by omega), K3.k (by omega)]; exact k2
  · rw [kd_wi, K5.k (by omega), K4.k (by omega)]; exact k3
  · rw [kd_wi, K5.k (by omega)]; exact k4
  · rw [ln_wi, K5.n (by omega)]; exact l4
  · rw [mi_wi, up2_s]
  · rw [mr_wi, K5.r (by omega) (x1 4 (by decide))]; exact m4 j
