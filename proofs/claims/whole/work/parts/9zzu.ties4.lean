/-! at most four rounds for each unit of a + b + c -/
theorem tie_s {a b c x y z : Int} (s : Srt a b c x y z) (ha : 0 < a) (hx : x ≤ 0) (hy : y ≤ 0) (hz : z ≤ 0) (n1 : Nxl b x y z) (n2 : Nxl a y x z) (n3 : Nxl a z x y) (e : x + y + z + a + b = 0) (h : 0 < 2 * (a + y) + z) (ho : OKs (a, b, c, 2 * b + x + z, 2 * a + y + z, z)) : St2 (a, b, c, 2 * b + x + z, 2 * a + y + z, z) := by
  intro u hu
  obtain ⟨⟨s1, s2⟩, s3, s4⟩ := s
  have e5 : sz x = -x := szn hx
  have e6 : sz y = -y := szn hy
  have e3 : sz z = -z := szn hz
  rw [e5, e6] at s2
  rw [e6, e3] at s4
  have lx : -b ≤ x ∧ (x = -b → z = 0) := by omega
  have ly : -a ≤ y ∧ (y = -a → z = 0) := by omega
  have lz' : -a ≤ z ∧ (z = -a → y = 0) := by omega
  clear n1 n2 n3
  have ab : a < b := by
    rcases Int.lt_or_eq_of_le s1 with q | q
    · exact q
    · have := s2 q; omega
  have e1 : sz (2 * b + x + z) = 2 * b + x + z := szp (by omega)
  have e2 : sz (2 * a + y + z) = 2 * a + y + z := szp (by omega)
  rcases nx ho hu with q | ⟨a1, b1, x1, y1, sg, q⟩
  · exact Or.inl q
  · rcases sg with ⟨p, _⟩ | ⟨p, r1, r2, r3, r4⟩
    · exfalso; clear q; omega
    · replace r1 := r1.symm
      replace r2 := r2.symm
      replace r3 := r3.symm
      replace r4 := r4.symm
      subst r1 r2 r3 r4
      rcases q with ⟨p2, eu⟩ | ⟨p2, x2, y2, z2, al, o2, x', y', z', eu, t⟩
      · rw [e2, e3] at p2
        have bc : b = c ∧ -z < 2 * a + y + z := by omega
        have yz := s4 bc.1
        obtain ⟨rfl, zl⟩ := bc
        right
        have ho2 : OKs u := by rw [eu]; exact OK_s2 ho
        subst eu
        intro w hw
        rcases nx ho2 hw with q | ⟨a3, b3, x3, y3, sg, q⟩
        · exact q
        · exfalso
          rcases sg with ⟨p, _⟩ | ⟨_, r1, r2, r3, r4⟩
          · clear q; omega
          · replace r1 := r1.symm
            replace r2 := r2.symm
            replace r3 := r3.symm
            replace r4 := r4.symm
            subst r1 r2 r3 r4
            rcases q with ⟨p, _⟩ | ⟨_, x2, y2, z2, al, _, x', y', z', _, t⟩
            · rw [e2, e3] at p; omega
            · obtain ⟨_, f1, f2, f3⟩ := neg_al al (by unfold posi; omega)
              rw [e1] at f1
              rw [e3] at f2
              rw [e2] at f3
              replace f1 := f1.symm
              replace f2 := f2.symm
              replace f3 := f3.symm
              subst f1 f2 f3
              unfold TieN at t
              rcases t with t | t | t | t | t | t | t <;> omega
      · exfalso
        obtain ⟨_, f1, f2, f3⟩ := neg_al al (by unfold posi; omega)
        rw [e1] at f1
        rw [e2] at f2
        rw [e3] at f3
        replace f1 := f1.symm
        replace f2 := f2.symm
        replace f3 := f3.symm
        subst f1 f2 f3
        unfold TieN at t
        rcases t with t | t | t | t | t | t | t <;> omega
theorem tie_all {a b c x y z x' y' z' : Int} (so : Srt a b c x y z) (al : (0 < x ∧ 0 < y ∧ 0 < z) ∨ (x ≤ 0 ∧ y ≤ 0 ∧ z ≤ 0)) (o : OKs (a, b, c, x, y, z)) (o' : OKs (a, b, c, x', y', z')) (t : TieN a b x y z x' y' z') : St2 (a, b, c, x', y', z') := by
  have bd := o.bd
  have ha := bd.1.1
  unfold TieN at t
  rcases t with ⟨t1, t2, t3, t4, t5, t6⟩ | ⟨t1, t2, t3, t4, t5⟩ | ⟨n, t1, t2, t3, t4, t5, t6⟩ | ⟨n, t1, t2, t3, t4, t5⟩ | ⟨n, n2, t1, t2, t3, t4, t5, t6⟩ | ⟨n, n2, t1, t2, t3, t4, t5⟩ | ⟨n, n2, n3, t1, t2, t3, t4, t5⟩
  · have hy : 0 < y := by omega
    rw [t4, t5, t6]
    exact (px_of so o t1 hy t2 t3).s2
  · have hy : y ≤ 0 := by omega
    rw [t3, t4, t5] at o' ⊢
    rw [t1] at so
    exact tie_nx so ha hy t2 o'
  · have hx : 0 < x := by clear n; omega
    have hb : x ≤ b := by omega
    rw [t4, t5, t6] at o' ⊢
    rw [t2] at so
    exact tie_py so ha hx t3 hb (by clear n; omega) o'
  · have hx : x ≤ 0 := by clear n; omega
    have hb : -x < b := by omega
    rw [t3, t4, t5] at o' ⊢
    rw [t1] at so
    exact tie_ny so ha hx t2 hb o'
  · have hx : 0 < x := by clear n n2; omega
    have hy : y ≤ a := by clear n; omega
    rw [t4, t5, t6] at o' ⊢
    exact (tie_pz so.1.1 so.2.1 hx t3 hy o').s2
  · have hx : x ≤ 0 := by clear n n2; omega
    have hb : -x < b := by clear n2; omega
    have hy : -y < a := by clear n; omega
    rw [t3, t4, t5] at o' ⊢
    rw [t1] at so
    exact tie_nz so ha hx t2 hb hy o'
  · have h0 : x ≤ 0 ∧ y ≤ 0 ∧ z ≤ 0 := by clear n n2 n3; omega
    rw [t3, t4, t5] at o' ⊢
    exact tie_s so ha h0.1 h0.2.1 h0.2.2 n n2 n3 t1 t2 o'
theorem srt_of {a b c x y z a1 b1 x1 y1 x2 y2 z2 : Int} (s : Sg1 a b x y a1 b1 x1 y1) (p : ¬ (c < b1 ∨ (b1 = c ∧ sz z < sz y1))) (f1 : sz x2 = sz x1) (f2 : sz y2 = sz y1) (f3 : sz z2 = sz z) : Srt a1 b1 c x2 y2 z2 := by
  unfold Srt
  rw [f1, f2, f3]
  generalize sz z = Z at *
  rcases s with ⟨q, r1, r2, r3, r4⟩ | ⟨q, r1, r2, r3, r4⟩ <;> subst r1 r2 r3 r4
  · generalize sz x1 = X at *
    generalize sz y1 = Y at *
    omega
  · generalize sz x1 = X at *
    generalize sz y1 = Y at *
    omega
theorem swsw {a b c X Y Z a1 b1 X1 Y1 a3 b3 X3 Y3 : Int} (s : ((b < a ∨ (a = b ∧ Y < X)) ∧ a1 = b ∧ b1 = a ∧ X1 = Y ∧ Y1 = X) ∨ (¬ (b < a ∨ (a = b ∧ Y < X)) ∧ a1 = a ∧ b1 = b ∧ X1 = X ∧ Y1 = Y)) (p : c < b1 ∨ (b1 = c ∧ Z < Y1)) (s' : ((c < a1 ∨ (a1 = c ∧ Z < X1)) ∧ a3 = c ∧ b3 = a1 ∧ X3 = Z ∧ Y3 = X1) ∨ (¬ (c < a1 ∨ (a1 = c ∧ Z < X1)) ∧ a3 = a1 ∧ b3 = c ∧ X3 = X1 ∧ Y3 = Z)) (p' : b1 < b3 ∨ (b3 = b1 ∧ Y1 < Y3)) : False := by
  omega
theorem st4 {t : S6} (ho : OKs t) : St4 t := by
  obtain ⟨a, b, c, x, y, z⟩ := t
  intro u hu
  have hou := (stR_ok hu ho).1
  rcases nx ho hu with q | ⟨a1, b1, x1, y1, sg, q⟩
  · exact Or.inl q
  · right
    rcases q with ⟨p, eu⟩ | ⟨p, x2, y2, z2, ⟨al, f1, f2, f3⟩, o2, x', y', z', eu, t⟩
    · subst eu
      intro w hw
      have how := (stR_ok hw hou).1
      rcases nx hou hw with q | ⟨a3, b3, x3, y3, sg', q⟩
      · exact Or.inl q
      · right
        rcases q with ⟨p', _⟩ | ⟨p', x2, y2, z2, ⟨al, f1, f2, f3⟩, o2, x', y', z', eu, t⟩
        · exfalso
          refine swsw (X := sz x) (Y := sz y) (Z := sz z) (X1 := sz x1) (Y1 := sz y1) (X3 := sz x3) (Y3 := sz y3) (sg.imp (fun ⟨q, r1, r2, r3, r4⟩ => ⟨q, r1, r2, by rw [r3], by rw [r4]⟩) (fun ⟨q, r1, r2, r3, r4⟩ => ⟨q, r1, r2, by rw [r3], by rw [r4]⟩)) p (sg'.imp (fun ⟨q, r1, r2, r3, r4⟩ => ⟨q, r1, r2, by rw [r3], by rw [r4]⟩) (fun ⟨q, r1, r2, r3, r4⟩ => ⟨q, r1, r2, by rw [r3], by rw [r4]⟩)) p'
        · subst eu
          exact tie_all (srt_of sg' p' f1 f2 f3) (al.imp (fun h => h.2) (fun h => h.2)) o2 how t
    · subst eu
      exact (tie_all (srt_of sg p f1 f2 f3) (al.imp (fun h => h.2) (fun h => h.2)) o2 hou t).s3
theorem tT_pos {t : S6} (ho : OKs t) : 0 < tT t := by
  obtain ⟨a, b, c, x, y, z⟩ := t
  have := ho.bd
  show 0 < a + b + c
  omega
theorem red4 : ∀ (n : Nat) (t u : S6), OKs t → Red n t u → ((n : Int) ≤ 4 * tT t) ∧ (St3 t → (n : Int) ≤ 4 * tT t - 1) ∧ (St2 t → (n : Int) ≤ 4 * tT t - 2) ∧ (NoS t → (n : Int) ≤ 4 * tT t - 3)
  | 0, t, u, ho, _ => by
    have := tT_pos ho
    refine ⟨?_, fun _ => ?_, fun _ => ?_, fun _ => ?_⟩ <;> omega
  | n + 1, t, u, ho, ⟨v, h, r⟩ => by
    have hv := stR_ok h ho
    obtain ⟨i1, i2, i3, i4⟩ := red4 n v u hv.1 r
    have le := hv.2.1
    refine ⟨?_, fun q => ?_, fun q => ?_, fun q => ?_⟩
    · rcases st4 ho v h with w | w
      · omega
      · have := i2 w; omega
    · rcases q v h with w | w
      · omega
      · have := i3 w; omega
    · rcases q v h with w | w
      · omega
      · have := i4 w; omega
    · have := q v h
      omega
theorem rnd_small {t u : S6} {n : Nat} (ho : OKs t) (hT : tT t ≤ 249999) (h : Red n t u) : n < 1000000 := by
  have := (red4 n t u ho h).1
  omega
theorem rnd0 : RND0 := fun t n u ho _ hT h => rnd_small ho (by omega) h
