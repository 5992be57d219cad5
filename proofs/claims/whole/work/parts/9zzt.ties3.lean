/-! ties: at most one more -/
theorem szn {v : Int} (h : v ≤ 0) : sz v = -v := by have := sz_c v; omega
theorem szp {v : Int} (h : 0 ≤ v) : sz v = v := by have := sz_c v; omega
theorem tie_pz {a b c x y : Int} (s1 : a ≤ b) (s3 : b ≤ c) (hx : 0 < x) (h : 2 * x < y) (hy : y ≤ a) (ho : OKs (a, b, c, x - y, y, -a)) : NoS (a, b, c, x - y, y, -a) := by
  intro u hu
  have e1 : sz (x - y) = y - x := by rw [szn (by omega)]; omega
  have e2 : sz y = y := szp (by omega)
  have e3 : sz (-a) = a := by rw [szn (by omega)]; omega
  rcases nx ho hu with q | ⟨a1, b1, x1, y1, sg, q⟩
  · exact q
  · exfalso
    rcases sg with ⟨p, _⟩ | ⟨_, r1, r2, r3, r4⟩
    · rw [e1, e2] at p; omega
    · replace r1 := r1.symm
      replace r2 := r2.symm
      replace r3 := r3.symm
      replace r4 := r4.symm
      subst r1 r2 r3 r4
      rcases q with ⟨p, _⟩ | ⟨_, x2, y2, z2, al, _, x', y', z', _, t⟩
      · rw [e2, e3] at p; omega
      · obtain ⟨_, f1, f2, f3⟩ := pos_al al ⟨by omega, by omega, by omega, by omega⟩
        rw [e1] at f1
        rw [e2] at f2
        rw [e3] at f3
        replace f1 := f1.symm
        replace f2 := f2.symm
        replace f3 := f3.symm
        subst f1 f2 f3
        unfold TieN at t
        rcases t with t | t | t | t | t | t | t <;> omega
theorem tie_nx {a b c y z : Int} (s : Srt a b c (-b) y z) (ha : 0 < a) (hy : y ≤ 0) (hz : z < 0) (ho : OKs (a, b, c, b, y + z, z)) : St2 (a, b, c, b, y + z, z) := by
  intro u hu
  obtain ⟨⟨s1, s2⟩, s3, s4⟩ := s
  have e0 : sz (-b) = b := by rw [szn (by omega)]; omega
  have e1 : sz b = b := szp (by omega)
  have e2 : sz (y + z) = -(y + z) := szn (by omega)
  have e3 : sz z = -z := szn (by omega)
  have e4 : sz y = -y := szn hy
  rw [e0, e4] at s2
  rw [e4, e3] at s4
  rcases nx ho hu with q | ⟨a1, b1, x1, y1, sg, q⟩
  · exact Or.inl q
  · rcases sg with ⟨p, _⟩ | ⟨_, r1, r2, r3, r4⟩
    · rw [e1, e2] at p
      exfalso
      rcases p with p | ⟨p1, p2⟩
      · omega
      · have := s2 p1; omega
    · replace r1 := r1.symm
      replace r2 := r2.symm
      replace r3 := r3.symm
      replace r4 := r4.symm
      subst r1 r2 r3 r4
      rcases q with ⟨p, eu⟩ | ⟨_, x2, y2, z2, al, _, x', y', z', _, t⟩
      · rw [e2, e3] at p
        have pc : b = c ∧ y < 0 := by omega
        have yz := s4 pc.1
        obtain ⟨rfl, ny⟩ := pc
        right
        subst eu
        have ho2 : OKs (a, b, b, b, z, y + z) := OK_s2 ho
        intro w hw
        rcases nx ho2 hw with q | ⟨a3, b3, x3, y3, sg, q⟩
        · exact q
        · exfalso
          rcases sg with ⟨p, _⟩ | ⟨_, r1, r2, r3, r4⟩
          · rw [e1, e3] at p
            rcases p with p | ⟨p1, p2⟩
            · omega
            · have := s2 p1; omega
          · replace r1 := r1.symm
            replace r2 := r2.symm
            replace r3 := r3.symm
            replace r4 := r4.symm
            subst r1 r2 r3 r4
            rcases q with ⟨p, _⟩ | ⟨_, x2, y2, z2, al, _, x', y', z', _, t⟩
            · rw [e2, e3] at p; omega
            · obtain ⟨_, f1, f2, f3⟩ := pos_al al ⟨by omega, by omega, by omega, by omega⟩
              rw [e1] at f1
              rw [e3] at f2
              rw [e2] at f3
              replace f1 := f1.symm
              replace f2 := f2.symm
              replace f3 := f3.symm
              subst f1 f2 f3
              unfold TieN at t
              rcases t with t | t | t | t | t | t | t <;> omega
      · exfalso
        obtain ⟨_, f1, f2, f3⟩ := pos_al al ⟨by omega, by omega, by omega, by omega⟩
        rw [e1] at f1
        rw [e2] at f2
        rw [e3] at f3
        replace f1 := f1.symm
        replace f2 := f2.symm
        replace f3 := f3.symm
        subst f1 f2 f3
        unfold TieN at t
        rcases t with t | t | t | t | t | t | t <;> omega
theorem tie_py {a b c x z : Int} (s : Srt a b c x a z) (ha : 0 < a) (hx : 0 < x) (h : 2 * x < z) (hb : x ≤ b) (hz : z < a + b) (ho : OKs (a, b, c, x - z, -a, z)) : St2 (a, b, c, x - z, -a, z) := by
  intro u hu
  obtain ⟨⟨s1, s2⟩, s3, s4⟩ := s
  have e1 : sz (x - z) = z - x := by rw [szn (by omega)]; omega
  have e2 : sz (-a) = a := by rw [szn (by omega)]; omega
  have e3 : sz z = z := szp (by omega)
  have e4 : sz a = a := szp (by omega)
  rw [e4, e3] at s4
  rcases nx ho hu with q | ⟨a1, b1, x1, y1, sg, q⟩
  · exact Or.inl q
  · rcases sg with ⟨p, r1, r2, r3, r4⟩ | ⟨p, r1, r2, r3, r4⟩
    · replace r1 := r1.symm
      replace r2 := r2.symm
      replace r3 := r3.symm
      replace r4 := r4.symm
      subst r1 r2 r3 r4
      rw [e1, e2] at p
      exfalso
      rcases q with ⟨p2, _⟩ | ⟨_, x2, y2, z2, al, _, x', y', z', _, t⟩
      · rw [e1, e3] at p2; omega
      · obtain ⟨_, f1, f2, f3⟩ := pos_al al ⟨by omega, by omega, by omega, by omega⟩
        rw [e2] at f1
        rw [e1] at f2
        rw [e3] at f3
        replace f1 := f1.symm
        replace f2 := f2.symm
        replace f3 := f3.symm
        subst f1 f2 f3
        unfold TieN at t
        rcases t with t | t | t | t | t | t | t <;> omega
    · replace r1 := r1.symm
      replace r2 := r2.symm
      replace r3 := r3.symm
      replace r4 := r4.symm
      subst r1 r2 r3 r4
      rw [e1, e2] at p
      rcases q with ⟨p2, _⟩ | ⟨p2, x2, y2, z2, al, o2, x', y', z', eu, t⟩
      · exfalso; rw [e2, e3] at p2
        rcases p2 with p2 | ⟨p3, p4⟩
        · omega
        · have := s4 p3; omega
      · obtain ⟨_, f1, f2, f3⟩ := pos_al al ⟨by omega, by omega, by omega, by omega⟩
        rw [e1] at f1
        rw [e2] at f2
        rw [e3] at f3
        replace f1 := f1.symm
        replace f2 := f2.symm
        replace f3 := f3.symm
        subst f1 f2 f3
        unfold TieN at t
        rcases t with ⟨t1, t2, t3, t4, t5, t6⟩ | t | t | t | t | t | t
        · right
          rw [t4, t5, t6] at eu
          subst eu
          have so : Srt a b c b a z := ⟨⟨s1, fun q => by rw [q]; exact Int.le_refl _⟩, s3, fun q => by rw [e4, e3]; exact s4 q⟩
          have ox := OK_x o2
          have : xF (a, b, c, z - x, a, z) = (a, b, c, -b, a - z, z) := by
            show (a, b, b + c - sg (z - x) * (z - x), z - x - 2 * sg (z - x) * b, a - sg (z - x) * z, z) = _
            rw [show sg (z - x) = 1 from if_neg (by omega), t2]
            simp only [Prod.mk.injEq]
            refine ⟨trivial, trivial, ?_, ?_, ?_, trivial⟩ <;> omega
          rw [this] at ox
          exact tie_px so ha t3 ha hz ox
        all_goals (exfalso; omega)
theorem px_of {a b c x2 y2 z2 : Int} (so : Srt a b c x2 y2 z2) (o : OKs (a, b, c, x2, y2, z2)) (hx : 0 < x2) (hy : 0 < y2) (e : x2 = b) (h : 2 * y2 < z2) : NoS (a, b, c, -b, y2 - z2, z2) := by
  have bd := o.bd
  have ox := OK_x o
  have : xF (a, b, c, x2, y2, z2) = (a, b, c, -b, y2 - z2, z2) := by
    show (a, b, b + c - sg x2 * x2, x2 - 2 * sg x2 * b, y2 - sg x2 * z2, z2) = _
    rw [show sg x2 = 1 from if_neg (by omega)]
    simp only [Prod.mk.injEq]
    refine ⟨trivial, trivial, ?_, ?_, ?_, trivial⟩ <;> omega
  rw [this] at ox
  rw [e] at so
  exact tie_px so hy h bd.1.1 (by omega) ox
theorem tie_ny {a b c x z : Int} (s : Srt a b c x (-a) z) (ha : 0 < a) (hx : x ≤ 0) (hz : z < 0) (hb : -x < b) (ho : OKs (a, b, c, x + z, a, z)) : St2 (a, b, c, x + z, a, z) := by
  intro u hu
  obtain ⟨⟨s1, s2⟩, s3, s4⟩ := s
  have e1 : sz (x + z) = -(x + z) := szn (by omega)
  have e2 : sz (-a) = a := by rw [szn (by omega)]; omega
  have e3 : sz z = -z := szn (by omega)
  have e4 : sz a = a := szp (by omega)
  have e5 : sz x = -x := szn hx
  rw [e5, e2] at s2
  rw [e2, e3] at s4
  rcases nx ho hu with q | ⟨a1, b1, x1, y1, sg, q⟩
  · exact Or.inl q
  · rcases sg with ⟨p, r1, r2, r3, r4⟩ | ⟨p, r1, r2, r3, r4⟩
    · replace r1 := r1.symm
      replace r2 := r2.symm
      replace r3 := r3.symm
      replace r4 := r4.symm
      subst r1 r2 r3 r4
      rw [e1, e4] at p
      have ab : a = b ∧ a < -(x + z) := by clear q; omega
      have xa := s2 ab.1
      rcases q with ⟨p2, eu⟩ | ⟨_, x2, y2, z2, al, _, x', y', z', _, t⟩
      · rw [e1, e3] at p2
        have ac : a = c ∧ x < 0 := by omega
        have az := s4 (by omega)
        right
        have ho2 : OKs u := by rw [eu]; exact OK_s2 (OK_s1 ho)
        obtain ⟨rfl, ab2⟩ := ab
        obtain ⟨rfl, nx0⟩ := ac
        subst eu
        intro w hw
        rcases nx ho2 hw with q | ⟨a3, b3, x3, y3, sg, q⟩
        · exact q
        · exfalso
          rcases sg with ⟨p, _⟩ | ⟨_, r1, r2, r3, r4⟩
          · rw [e3, e4] at p; omega
          · replace r1 := r1.symm
            replace r2 := r2.symm
            replace r3 := r3.symm
            replace r4 := r4.symm
            subst r1 r2 r3 r4
            rcases q with ⟨p, _⟩ | ⟨_, x2, y2, z2, al, _, x', y', z', _, t⟩
            · rw [e1, e3] at p; omega
            · obtain ⟨_, f1, f2, f3⟩ := pos_al al ⟨by omega, by omega, by omega, by omega⟩
              rw [e4] at f1
              rw [e3] at f2
              rw [e1] at f3
              replace f1 := f1.symm
              replace f2 := f2.symm
              replace f3 := f3.symm
              subst f1 f2 f3
              unfold TieN at t
              rcases t with t | t | t | t | t | t | t <;> omega
      · exfalso
        obtain ⟨_, f1, f2, f3⟩ := pos_al al ⟨by omega, by omega, by omega, by omega⟩
        rw [e4] at f1
        rw [e1] at f2
        rw [e3] at f3
        replace f1 := f1.symm
        replace f2 := f2.symm
        replace f3 := f3.symm
        subst f1 f2 f3
        unfold TieN at t
        rcases t with t | t | t | t | t | t | t <;> omega
    · replace r1 := r1.symm
      replace r2 := r2.symm
      replace r3 := r3.symm
      replace r4 := r4.symm
      subst r1 r2 r3 r4
      rw [e1, e4] at p
      rcases q with ⟨p2, _⟩ | ⟨p2, x2, y2, z2, al, o2, x', y', z', eu, t⟩
      · exfalso
        rw [e4, e3] at p2
        rcases p2 with p2 | ⟨p3, p4⟩
        · omega
        · have := s4 p3; omega
      · obtain ⟨_, f1, f2, f3⟩ := pos_al al ⟨by omega, by omega, by omega, by omega⟩
        rw [e1] at f1
        rw [e4] at f2
        rw [e3] at f3
        replace f1 := f1.symm
        replace f2 := f2.symm
        replace f3 := f3.symm
        subst f1 f2 f3
        unfold TieN at t
        rcases t with ⟨t1, t2, t3, t4, t5, t6⟩ | t | t | t | t | t | t
        · right
          rw [t4, t5, t6] at eu
          rw [eu]
          have e6 : sz (-(x + z)) = -(x + z) := szp (by omega)
          have e7 : sz (-z) = -z := szp (by omega)
          refine px_of (x2 := -(x + z)) (y2 := a) (z2 := -z) ⟨⟨s1, fun q => ?_⟩, s3, fun q => ?_⟩ o2 t1 ha t2 t3
          · rw [e6, e4]; omega
          · rw [e4, e7]; exact s4 q
        all_goals (exfalso; omega)
theorem tie_nz {a b c x y : Int} (s : Srt a b c x y (-a)) (ha : 0 < a) (hx : x ≤ 0) (hy : y < 0) (hb : -x < b) (hya : -y < a) (ho : OKs (a, b, c, x + y, y, a)) : St2 (a, b, c, x + y, y, a) := by
  intro u hu
  obtain ⟨⟨s1, s2⟩, s3, s4⟩ := s
  have e1 : sz (x + y) = -(x + y) := szn (by omega)
  have e2 : sz y = -y := szn (by omega)
  have e4 : sz a = a := szp (by omega)
  have e5 : sz x = -x := szn hx
  rw [e5, e2] at s2
  rcases nx ho hu with q | ⟨a1, b1, x1, y1, sg, q⟩
  · exact Or.inl q
  · rcases sg with ⟨p, r1, r2, r3, r4⟩ | ⟨p, r1, r2, r3, r4⟩
    · replace r1 := r1.symm
      replace r2 := r2.symm
      replace r3 := r3.symm
      replace r4 := r4.symm
      subst r1 r2 r3 r4
      rw [e1, e2] at p
      have ab : a = b ∧ x < 0 := by clear q; omega
      have xa := s2 ab.1
      rcases q with ⟨p2, eu⟩ | ⟨_, x2, y2, z2, al, _, x', y', z', _, t⟩
      · rw [e1, e4] at p2
        have ac : a = c ∧ a < -(x + y) := by omega
        right
        have ho2 : OKs u := by rw [eu]; exact OK_s2 (OK_s1 ho)
        obtain ⟨rfl, ab2⟩ := ab
        obtain ⟨rfl, nx0⟩ := ac
        subst eu
        intro w hw
        rcases nx ho2 hw with q | ⟨a3, b3, x3, y3, sg, q⟩
        · exact q
        · exfalso
          rcases sg with ⟨p, _⟩ | ⟨_, r1, r2, r3, r4⟩
          · rw [e2, e4] at p; omega
          · replace r1 := r1.symm
            replace r2 := r2.symm
            replace r3 := r3.symm
            replace r4 := r4.symm
            subst r1 r2 r3 r4
            rcases q with ⟨p, _⟩ | ⟨_, x2, y2, z2, al, _, x', y', z', _, t⟩
            · rw [e1, e4] at p; omega
            · obtain ⟨_, f1, f2, f3⟩ := pos_al al ⟨by omega, by omega, by omega, by omega⟩
              rw [e2] at f1
              rw [e4] at f2
              rw [e1] at f3
              replace f1 := f1.symm
              replace f2 := f2.symm
              replace f3 := f3.symm
              subst f1 f2 f3
              unfold TieN at t
              rcases t with t | t | t | t | t | t | t <;> omega
      · exfalso
        obtain ⟨_, f1, f2, f3⟩ := pos_al al ⟨by omega, by omega, by omega, by omega⟩
        rw [e2] at f1
        rw [e1] at f2
        rw [e4] at f3
        replace f1 := f1.symm
        replace f2 := f2.symm
        replace f3 := f3.symm
        subst f1 f2 f3
        unfold TieN at t
        rcases t with t | t | t | t | t | t | t <;> omega
    · replace r1 := r1.symm
      replace r2 := r2.symm
      replace r3 := r3.symm
      replace r4 := r4.symm
      subst r1 r2 r3 r4
      rw [e1, e2] at p
      rcases q with ⟨p2, _⟩ | ⟨p2, x2, y2, z2, al, o2, x', y', z', eu, t⟩
      · exfalso
        rw [e2, e4] at p2
        omega
      · obtain ⟨_, f1, f2, f3⟩ := pos_al al ⟨by omega, by omega, by omega, by omega⟩
        rw [e1] at f1
        rw [e2] at f2
        rw [e4] at f3
        replace f1 := f1.symm
        replace f2 := f2.symm
        replace f3 := f3.symm
        subst f1 f2 f3
        unfold TieN at t
        rcases t with ⟨t1, t2, t3, t4, t5, t6⟩ | t | t | t | t | t | t
        · right
          rw [t4, t5, t6] at eu
          rw [eu]
          have e6 : sz (-(x + y)) = -(x + y) := szp (by omega)
          have e7 : sz (-y) = -y := szp (by omega)
          refine px_of (x2 := -(x + y)) (y2 := -y) (z2 := a) ⟨⟨s1, fun q => ?_⟩, s3, fun q => ?_⟩ o2 t1 (by omega) t2 t3
          · rw [e6, e7]; omega
          · rw [e7, e4]; omega
        all_goals (exfalso; omega)
