/-! the class's lines: a new object -/
def LiP (h : MH) (y m : Nat) (g : MH) : Prop := Kp [y] h g ∧ hn g = y + 3 ∧ (kd g y = 5 ∧ mi g y 0 = nI m ∧ mr g y 1 = y + 1 ∧ mr g y 2 = y + 2 ∧ mi g y 4 = 0 ∧ mi g y 3 = 0) ∧ kd g (y + 1) = 21 ∧ ln g (y + 1) = 6 * (bN m / 2) ∧ kd g (y + 2) = 20 ∧ ln g (y + 2) = bN m / 2
theorem half_le {m : Nat} (hm : m < 7) : bN m / 2 ≤ 1098 := by have := bN_le hm; omega
theorem sp_Lines_init {h : MH} {y m : Nat} (H : SS h) (hy : 99 ≤ y) (e : hn h = y + 1) (hk : kd h y = 5) (hm : m < 7) : SpV k_Lines_init [.ref y, .int (nI m)] h (LiP h y m) := by
  have hl := half_le hm
  have hb := bN_le hm
  have me : y ∈ [y] := List.mem_cons_self
  refine v_Lines_init _ _ _ _ ⟨by omega, hk, ?_⟩
  rintro _ rfl
  refine v_Lines_init_1 _ _ _ _ _ _ ⟨by rw [kd_wi]; exact hk, ?_⟩
  rintro _ rfl
  rintro _ rfl
  have K0 : Kp [y] h (wi (wi (wi h y 3 0) y 4 0) y 0 (nI m)) := (((Kp.refl H).wi (Or.inl me)).wi (Or.inl me)).wi (Or.inl me)
  have n0 : hn (wi (wi (wi h y 3 0) y 4 0) y 0 (nI m)) = y + 1 := by rw [hn_wi, hn_wi, hn_wi]; exact e
  have k0 : kd (wi (wi (wi h y 3 0) y 4 0) y 0 (nI m)) y = 5 := by rw [kd_wi, kd_wi, kd_wi]; exact hk
  have i0 : mi (wi (wi (wi h y 3 0) y 4 0) y 0 (nI m)) y 0 = nI m := by rw [mi_wi, up2_s]
  have i4 : mi (wi (wi (wi h y 3 0) y 4 0) y 0 (nI m)) y 4 = 0 := by rw [mi_wi, up2_ni (by decide), mi_wi, up2_s]
  have i3 : mi (wi (wi (wi h y 3 0) y 4 0) y 0 (nI m)) y 3 = 0 := by rw [mi_wi, up2_ni (by decide), mi_wi, up2_ni (by decide), mi_wi, up2_s]
  generalize wi (wi (wi h y 3 0) y 4 0) y 0 (nI m) = g0 at *
  have es : (((((2 : Int32) * nI m) + (1 : Int32)) * (((2 : Int32) * nI m) + (1 : Int32))) * (((2 : Int32) * nI m) + (1 : Int32))) / (2 : Int32) = nI (bN m / 2) := by
    rw [show (2 : Int32) = nI 2 from rfl, nI_mul, nI_1, nI_mul, nI_mul]
    exact div_nI (d := 2) (show bN m < 2147483648 by omega) (by decide) (by decide)
  refine v_Lines_init_2 _ _ _ _ _ _ (gd_t (by omega) (gd_t (by omega) ?_))
  rw [es]
  refine SpI.mono (sp_maxI _ _) ?_
  rintro _ g ⟨eg, rfl⟩
  subst g
  have t0 : (0 : Int32).toInt = 0 := rfl
  have e6 : (6 : Int32) * nI (bN m / 2) = nI (6 * (bN m / 2)) := nI_mul 6 _
  rw [if_neg (by rw [nI_toI (by omega), t0]; omega), e6, ix_nI (by omega), nI_toI (by omega)]
  refine ⟨by omega, gd_t (by omega) (gd_t (by omega) ?_)⟩
  rintro _ rfl
  refine ⟨(kd_old (by omega)).trans k0, ?_⟩
  rintro _ rfl
  obtain ⟨K1, n1, k1, l1, r1, o1, j1, -⟩ := arr_field (g := g0) (x := y) (j := 1) (k := 21) (n := 6 * (bN m / 2)) K0.1 hy (by omega)
  generalize wr (nw g0 21 (6 * (bN m / 2))) y 1 (hn g0) = g1 at *
  rw [n0] at n1 k1 l1 r1
  have kx1 := (K1.k (x := y) (by omega)).trans k0
  refine v_Lines_init_3 _ _ _ _ _ _ ⟨by rw [nI_toI (by omega)]; omega, ?_⟩
  rw [ix_nI (by omega)]
  refine gd_t (by omega) (gd_t (by omega) ?_)
  rintro _ rfl
  refine ⟨(kd_old (by omega)).trans kx1, ?_⟩
  rintro _ rfl
  obtain ⟨K2, n2, k2, l2, r2, o2, j2, -⟩ := arr_field (g := g1) (x := y) (j := 2) (k := 20) (n := bN m / 2) K1.1 hy (by omega)
  generalize wr (nw g1 20 (bN m / 2)) y 2 (hn g1) = g2 at *
  rw [n1] at n2 k2 l2 r2
  refine v_Lines_init_4 _ _ _ _ (gd_t (by omega) (gd_t (by omega) ?_))
  exact ⟨K0.trans (K1.trans K2), n2, ⟨by rw [K2.k (by omega)]; exact kx1, by rw [j2, j1]; exact i0, by rw [o2 1 (by decide)]; exact r1, r2, by rw [j2, j1]; exact i4, by rw [j2, j1]; exact i3⟩, by rw [K2.k (by omega)]; exact k1, by rw [K2.n (by omega)]; exact l1, k2, l2⟩
