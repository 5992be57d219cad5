/-! the site of a place is a group -/
theorem mvC_d {c p : Nat} (h : mvC c p = p) : mvN c 0 p = p / 576 ∧ mvN c 1 p = p / 24 % 24 ∧ mvN c 2 p = p % 24 := by
  have a0 := mvN_lt c 0 p; have a1 := mvN_lt c 1 p; have a2 := mvN_lt c 2 p
  unfold mvC at h
  omega
theorem mvN_pr {x y z p : Nat} (h : Pr x y z) (hy : mvC y p = p) {i : Nat} (hi : i < 3) : mvN z i p = mvN x i p := by
  obtain ⟨y0, y1, y2⟩ := mvC_d hy
  have z0 := mvN_z (c := y) (i := 0) (p := p)
  have z1 := mvN_z (c := y) (i := 1) (p := p)
  have z2 := mvN_z (c := y) (i := 2) (p := p)
  rw [y0] at z0
  rw [y1] at z1
  rw [y2] at z2
  unfold mvN
  congr 1
  unfold mvV at *
  generalize ((p / 576 : Nat) : Int) = p0 at *
  generalize ((p / 24 % 24 : Nat) : Int) = p1 at *
  generalize ((p % 24 : Nat) : Int) = p2 at *
  have Mv : ∀ i, i < 9 → eM z i = mul9 (eM x) (eM y) i := h.2.2.2.1
  have ev := h.2.2.2.2 i hi
  unfold mulS at ev
  rw [ev, Mv _ (by omega), Mv _ (by omega), Mv _ (by omega)]
  have g0 := mul9_at3 (eM x) (eM y) i 0 (by decide)
  have g1 := mul9_at3 (eM x) (eM y) i 1 (by decide)
  have g2 := mul9_at3 (eM x) (eM y) i 2 (by decide)
  rw [Nat.add_zero] at g0
  rw [g0, g1, g2]
  simp only [Nat.mul_zero, Nat.zero_add, Nat.mul_one, Nat.reduceAdd, Nat.reduceMul, Nat.add_zero] at *
  obtain ⟨k0, e0⟩ := mod24 (eM x (3 * i) * eZ y 0 + eM x (3 * i + 1) * eZ y 1 + eM x (3 * i + 2) * eZ y 2 + eZ x i)
  obtain ⟨k1, e1⟩ := mod24 (eM y 0 * p0 + eM y 1 * p1 + eM y 2 * p2 + eZ y 0)
  obtain ⟨k2, e2⟩ := mod24 (eM y 3 * p0 + eM y 4 * p1 + eM y 5 * p2 + eZ y 1)
  obtain ⟨k3, e3⟩ := mod24 (eM y 6 * p0 + eM y 7 * p1 + eM y 8 * p2 + eZ y 2)
  rw [e0]
  rw [e1] at z0
  rw [e2] at z1
  rw [e3] at z2
  apply emod_cong
  refine ⟨k0 - (eM x (3 * i) * k1 + eM x (3 * i + 1) * k2 + eM x (3 * i + 2) * k3), ?_⟩
  clear e0 e1 e2 e3 ev Mv g0 g1 g2 h hy y0 y1 y2
  generalize eM x (3 * i) = a at *
  generalize eM x (3 * i + 1) = b at *
  generalize eM x (3 * i + 2) = c at *
  generalize eM y 0 = m0 at *
  generalize eM y 1 = m1 at *
  generalize eM y 2 = m2 at *
  generalize eM y 3 = m3 at *
  generalize eM y 4 = m4 at *
  generalize eM y 5 = m5 at *
  generalize eM y 6 = m6 at *
  generalize eM y 7 = m7 at *
  generalize eM y 8 = m8 at *
  grind
theorem mvC_id {p : Nat} (hp : p < 13824) : mvC idc p = p := by
  have e : ∀ i, i < 3 → mvN idc i p = (if i = 0 then p / 576 else if i = 1 then p / 24 % 24 else p % 24) := fun i hi => by
    unfold mvN mvV
    rw [id_M _ (by omega), id_M _ (by omega), id_M _ (by omega), id_S i hi]
    have : i = 0 ∨ i = 1 ∨ i = 2 := by omega
    rcases this with rfl | rfl | rfl <;> simp <;> omega
  unfold mvC
  rw [e 0 (by decide), e 1 (by decide), e 2 (by decide)]
  simp
  omega
theorem keepL_g {S : List Nat} {p : Nat} (ok : GOk S) (hp : p < 13824) : GOk (keepL S p) := by
  have mem : ∀ x, x ∈ keepL S p ↔ x ∈ S ∧ mvC x p = p := fun x => (kpK_mem S.length x).trans ⟨fun ⟨j, hj, e, h⟩ => ⟨by rw [e]; exact getD_mem hj, h⟩, fun ⟨hx, h⟩ => by obtain ⟨j, hj, e⟩ := mem_getD hx; exact ⟨j, hj, e.symm, h⟩⟩
  refine ⟨kpK_srt ok.1 S.length (Nat.le_refl _), Nat.le_trans (kpK_len _) ok.2.1, keepL_op ok, (mem _).mpr ⟨ok.2.2.2.1, mvC_id hp⟩, fun x hx y hy => ?_⟩
  obtain ⟨x1, x2⟩ := (mem x).mp hx
  obtain ⟨y1, y2⟩ := (mem y).mp hy
  obtain ⟨z, hz, pr⟩ := ok.2.2.2.2 x x1 y y1
  refine ⟨z, (mem z).mpr ⟨hz, ?_⟩, pr⟩
  obtain ⟨a0, a1, a2⟩ := mvC_d x2
  unfold mvC
  rw [mvN_pr pr y2 (by decide), mvN_pr pr y2 (by decide), mvN_pr pr y2 (by decide), a0, a1, a2]
  omega
theorem site_all {S : List Nat} (ok : GOk S) {p : Nat} (hp : p < 13824) : ∃ i, CtOK (keepL S p) i := by
  have := cls_all (keepL_g ok hp)
  rw [keepL_br ok] at this
  exact this
