/-! the last stretch: a < b, no x-step at hand -/
theorem y_sq {a y y' : Int} (hd : (0 < y ∧ y' = y - 2 * a) ∨ (y < 0 ∧ y' = y + 2 * a)) : y' * y' = y * y - 4 * (a * (sz y - a)) := by
  rcases hd with ⟨g, e⟩ | ⟨g, e⟩
  · rw [szp (by omega), e]; grind
  · rw [szn (by omega), e]; grind
theorem stepB {u : S6} {n : Nat} (ihS : ∀ k, k < n → clS u k) (ihB : ∀ k, k < n → clB u k) : clB u n := by
  intro a b c x y z N q G h ab ncx r N0 hN hq hG hG4
  have a0 := h.1.bd.1.1
  have D0 : tT u ≤ a + b + c := (Red.k r h.1).2.1
  by_cases far : a + b + c - tT u ≤ 60000
  · have := near_n h.1 r far; omega
  obtain ⟨fr, bc, f0⟩ := sm_far h r far
  obtain ⟨k, a', b', c', x', y', z', rfl, L, r', o', e'⟩ := sm_rnd h bc f0 r
  have a1 := h.2.2.2.2.1
  have b1 := h.2.2.2.2.2.1
  rcases ls_cases h L with ⟨w, _⟩ | ⟨_, hx, hcy, hy, ea, eb, ec, ez, hd⟩ | ⟨_, ncy, hx, hy, ea, eb, ec⟩ | ⟨_, ncy, hx, hy, hz⟩
  · exact absurd w ncx
  · subst ea eb ec ez
    have hNy := hN hcy
    have N1 : 0 < N := by
      apply mlt (a := a') (by omega)
      omega
    rcases nxS o' e' r' (by omega) (by omega) (by omega) with w | ⟨a2, b2, x1, y1, z1, h1, r1, sw, sz1, sg1⟩
    · omega
    rcases sw with ⟨_, e1, e2, e3, e4⟩ | ⟨w, _⟩
    · subst e1 e2
      have ysq : y' * y' = y * y - 4 * (a2 * (sz y - a2)) := y_sq (by omega)
      by_cases q1 : cx (a2, b2, a2 + c - sz y, x1, y1, z1)
      · -- an x-step follows
        by_cases far1 : a2 + b2 + (a2 + c - sz y) - tT u ≤ 60000
        · have := near_n h1.1 r1 far1
          omega
        obtain ⟨_, bc1, f1⟩ := sm_far h1 r1 far1
        obtain ⟨k2, a'', b'', c'', x'', y'', z'', rfl, L2, r'', o'', e''⟩ := sm_rnd h1 bc1 f1 r1
        rcases ls_cases h1 L2 with ⟨_, hx1, ea, eb, ec, ez, hd2⟩ | ⟨w, _⟩ | ⟨w, _⟩ | ⟨w, _⟩
        · subst ea eb ec ez
          rcases nxS o'' e'' r'' (by omega) (by omega) (by omega) with w | ⟨a3, b3, x2, y2, z2, h2, r2, sw2, sz2, sg2⟩
          · omega
          rcases sw2 with ⟨_, e1, e2, e5, e6⟩ | ⟨w, _⟩
          · subst e1 e2
            obtain ⟨gA, gW⟩ := yx_geo a0 ab hx hy hd e3 e4 sz1 sg1 hx1 hd2
            have hP : 0 < 4 * (a3 * b3) - z' * z' := by have ho : PD a3 b3 c x y z' := h.1; have := ho.2.2.2.1; omega
            have Z0 := sz_0 z'
            have zb : sz z' < 2 * b3 := by
              refine Int.not_le.mp fun w => ?_
              have s1 := sq_le (show 0 ≤ 2 * b3 by omega) w
              have s2 : a3 * b3 ≤ b3 * b3 := Int.mul_le_mul_of_nonneg_right (by omega) (by omega)
              have s3 : 2 * b3 * (2 * b3) = 4 * (b3 * b3) := by grind
              rw [sz_mul z'] at hP
              omega
            have szx := sz_c x; have szy := sz_c y; have szz := sz_c z'
            have X1b : sz x1 ≤ sz x + sz z' := by omega
            have ncx2 : ¬ cx (a3, b3, b3 + (a3 + c - sz y) - sz x1, x2, y2, z2) := by
              by_cases t : sz x1 = b3
              · exact tieX (by omega) q1 t hd2 e5 e6 sz2 sg2
              · have sx2 := sz_c x''; have sx1 := sz_c x1; have sx3 := sz_c x2
                have : sz x'' < b3 := by omega
                intro w
                have w : b3 < sz x2 ∨ (x2 = b3 ∧ 2 * y2 < z2) ∨ (x2 = -b3 ∧ z2 < 0) := w
                omega
            obtain ⟨q2, k1, k3⟩ := fl_ex (y2 * y2) (a := a3) (by omega)
            obtain ⟨N2, n1, n2⟩ := fl2_ex (sz y2 + a3) (a := a3) (by omega)
            have N20 : 0 ≤ N2 := by
              have : (0 : Int) < N2 + 1 := by
                apply mlt (a := a3) (by omega)
                have e : a3 * (N2 + 1) = a3 * N2 + a3 := by grind
                have := sz_0 y2
                omega
              omega
            obtain ⟨ζ, zev⟩ : ∃ ζ, sz z' = 2 * ζ := ⟨sz z' / 2, by have := (sz_ev h.2.1.2.2).1; omega⟩
            have W : sz y2 = sz y + sz z' - 2 * a3 ∨ sz y2 = -(sz y + sz z' - 2 * a3) := by omega
            have WW : sz y2 * sz y2 = (sz y + sz z' - 2 * a3) * (sz y + sz z' - 2 * a3) := by
              rcases W with e | e <;> rw [e] <;> grind
            have f4 := Int.mul_le_mul_of_nonneg_left fr (show 0 ≤ 4 * a3 by omega)
            have ef : 4 * a3 * (b3 * (y * y) + a3 * (x * x) - x * y * z') = (4 * (a3 * b3) - z' * z') * (y * y) + (2 * (a3 * x) - y * z') * (2 * (a3 * x) - y * z') := by grind
            have ef2 : 4 * a3 * ((4 * (a3 * b3) - z' * z') * 54400) = (4 * (a3 * b3) - z' * z') * (217600 * a3) := by grind
            have ef3 : (4 * (a3 * b3) - z' * z') * (217600 * a3 - y * y) = (4 * (a3 * b3) - z' * z') * (217600 * a3) - (4 * (a3 * b3) - z' * z') * (y * y) := by grind
            have fk : (4 * (a3 * b3) - z' * z') * (217600 * a3 - y * y) ≤ (2 * (a3 * x) - y * z') * (2 * (a3 * x) - y * z') := by omega
            have fin : ∃ G2, G2 ≤ q2 - 7 * N2 ∧ G2 ≤ 400 ∧ G + 14 ≤ (sz y - a3 + (sz x1 - b3)) + G2 := by
              rw [sz_mul y, sz_mul z'] at fk
              rw [sz_mul z'] at hP
              rw [sz_mul y2] at k3
              rw [sz_mul y] at hq
              rcases gA with ⟨g1, g2, g3, eX⟩ | ⟨g1, g2, g3, eX⟩
              · have hR : (2 * (a3 * x) - y * z') * (2 * (a3 * x) - y * z') = (y * z' - 2 * (a3 * x)) * (y * z' - 2 * (a3 * x)) := by grind
                rw [hR] at fk
                have R0 : 0 ≤ y * z' - 2 * (a3 * x) := by
                  have h1 : a3 * z' ≤ y * z' := Int.mul_le_mul_of_nonneg_right (by omega) (by omega)
                  have h2 : 0 ≤ a3 * (z' - 2 * x) := Int.mul_nonneg (by omega) (by omega)
                  have e : a3 * (z' - 2 * x) = a3 * z' - 2 * (a3 * x) := by grind
                  omega
                refine kx (R := y * z' - 2 * (a3 * x)) (W := sz y2) (by omega) a1 ab b1 hy zev Z0 rfl hP R0 fk ?_ (by omega) W (sz_0 _) hq k3 hNy n1 N0 hG hG4
                rw [WW, eX, szp (by omega : 0 ≤ y), szp (by omega : 0 ≤ z')]
                grind
              · have hR : (2 * (a3 * x) - y * z') * (2 * (a3 * x) - y * z') = (y * z' - 2 * (a3 * x)) * (y * z' - 2 * (a3 * x)) := by grind
                rw [hR] at fk
                have R0 : 0 ≤ y * z' - 2 * (a3 * x) := by
                  have h1 : 0 ≤ -y * -z' := Int.mul_nonneg (by omega) (by omega)
                  have h2 : 0 ≤ a3 * -x := Int.mul_nonneg (by omega) (by omega)
                  have e : -y * -z' = y * z' := by grind
                  have e2 : a3 * -x = -(a3 * x) := by grind
                  omega
                refine kx (R := y * z' - 2 * (a3 * x)) (W := sz y2) (by omega) a1 ab b1 hy zev Z0 rfl hP R0 fk ?_ (by omega) W (sz_0 _) hq k3 hNy n1 N0 hG hG4
                rw [WW, eX, szn (by omega : y ≤ 0), szn (by omega : z' ≤ 0)]
                grind
            obtain ⟨G2, g1, g2, g3⟩ := fin
            have s := ihB k2 (by omega) a3 b3 _ x2 y2 z2 N2 q2 G2 h2 ab ncx2 r2 N20 (fun _ => n2) k1 g1 g2
            omega
          · omega
        · exact absurd q1 w
        · exact absurd q1 w
        · exact absurd q1 w
      · -- a y-step alone
        have y1sq : y1 * y1 = y * y - 4 * (a2 * (sz y - a2)) := by rw [← ysq, sz_mul y1, e4, ← sz_mul y']
        have eq : a2 * (q - (sz y - a2)) = a2 * q - a2 * (sz y - a2) := by grind
        have eN : a2 * (N - 1) = a2 * N - a2 := by grind
        have use : ∀ G', G' ≤ q - (sz y - a2) - 7 * (N - 1) → G' ≤ 400 → 7 * (k : Int) + G' ≤ a2 + b2 + (a2 + c - sz y) - tT u + 1680021 + 150 * (a2 + b2) := fun G' w1 w2 => by
          refine ihB k (by omega) a2 b2 _ x1 y1 z1 (N - 1) (q - (sz y - a2)) G' h1 ab q1 r1 (by omega) (fun w => ?_) (by omega) w1 w2
          by_cases t : sz y = a2
          · exact absurd w (tieY a0 hcy t hd e3 e4 sz1 sg1)
          · have w : a2 < sz y1 ∨ (y1 = a2 ∧ 2 * x1 < z1) ∨ (y1 = -a2 ∧ z1 < 0) := w
            have s1 := sz_c y; have s2 := sz_c y'; have s3 := sz_c y1
            omega
        by_cases t : q - (sz y - a2) - 7 * (N - 1) ≤ 400
        · have := use _ (Int.le_refl _) t
          omega
        · have := use 400 (by omega) (Int.le_refl _)
          by_cases d7 : 7 ≤ sz y - a2
          · omega
          · have h1 := sq_le (sz_0 y) (show sz y ≤ a2 + 6 by omega)
            rw [← sz_mul y] at h1
            have e : (a2 + 6) * (a2 + 6) = a2 * a2 + 12 * a2 + 36 := by grind
            have h4 : a2 * a2 ≤ a2 * 1299 := Int.mul_le_mul_of_nonneg_left (by omega) (by omega)
            have : q < 401 := by
              apply mlt (a := a2) (by omega)
              omega
            omega
    · omega
  · have hz := stepZ ihS (by omega) h fr hx hy ea eb ec f0 r' o' e'
    have s := sq_le (sz_0 y) hy
    rw [← sz_mul y] at s
    have h4 : a * a ≤ a * 1299 := Int.mul_le_mul_of_nonneg_left (by omega) (by omega)
    have : q < 326 := by
      apply mlt (a := a) (by omega)
      omega
    omega
  · have := sm_z h fr hx hy
    omega
