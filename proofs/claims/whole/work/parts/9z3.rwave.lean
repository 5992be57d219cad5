/-! the reference's wave of a model -/
def sqW (n : Nat → Int) (a j : Nat) : Int := if 8 ≤ j then n j + pw1 (fun i => n (a + i)) (j - 8) else n j
theorem sq_ext {n : Nat → Int} {a : Nat} : ∀ j, j < 12 → (if j = 11 then n 11 + (2 * n a * n (a + 3) + 2 * n (a + 1) * n (a + 2)) else if j = 10 then n 10 + (2 * n a * n (a + 2) + 4 * n (a + 1) * n (a + 3)) else if j = 9 then n 9 + (2 * n a * n (a + 1) + 6 * n (a + 2) * n (a + 3)) else if j = 8 then n 8 + (n a * n a + 2 * n (a + 1) * n (a + 1) + 3 * n (a + 2) * n (a + 2) + 6 * n (a + 3) * n (a + 3)) else n j) = sqW n a j := by
  intro j hj
  unfold sqW pw1
  have : j < 8 ∨ j = 8 ∨ j = 9 ∨ j = 10 ∨ j = 11 := by omega
  rcases this with q | rfl | rfl | rfl | rfl
  · rw [if_neg (by omega), if_neg (by omega), if_neg (by omega), if_neg (by omega), if_neg (by omega)]
  · simp
  · simp
  · simp
  · simp
theorem sp_Ref_addSquare {h : MH} {f : (Nat → Nat → Int32)} {l : (Nat → Nat → Int64)} {n : Nat → Int} {a : Nat} (wa : Wv12 l n) (ha : a = 0 ∨ a = 4) : SpV k_Ref_addSquare [.ref 54, .int (nI a)] (sil h f l) (fun g => ∃ l', g = sil h f l' ∧ Fr [88] l l' ∧ Wv12 l' (sqW n a)) := by
  have a1 : nI a + (1 : Int32) = nI (a + 1) := nI_add a 1
  have a2 : nI a + (2 : Int32) = nI (a + 2) := nI_add a 2
  have a3 : nI a + (3 : Int32) = nI (a + 3) := nI_add a 3
  have m : 88 ∈ [88] := List.mem_cons_self
  have ib : ∀ i, i < 12 → InB (nI i) 12 := fun i hi => InB_nI hi (by omega)
  have c8 : ix (8 : Int32) = 8 := rfl
  have c9 : ix (9 : Int32) = 9 := rfl
  have c10 : ix (10 : Int32) = 10 := rfl
  have c11 : ix (11 : Int32) = 11 := rfl
  have l2 : (2 : Int64) = zL 2 := rfl
  have l3 : (3 : Int64) = zL 3 := rfl
  have l4 : (4 : Int64) = zL 4 := rfl
  have l6 : (6 : Int64) = zL 6 := rfl
  refine v_Ref_addSquare _ _ _ _ ⟨K54, ?_⟩
  rw [R54_46, a1, a2, a3, ix_nI (a := a) (by omega), ix_nI (a := a + 1) (by omega), ix_nI (a := a + 2) (by omega), ix_nI (a := a + 3) (by omega), ml_sil, wa a (by omega), wa (a + 1) (by omega), wa (a + 2) (by omega), wa (a + 3) (by omega), c8, wa 8 (by decide), c9, l2, l3, l6]
  simp only [zL_mul, zL_add]
  refine ⟨K88, by rw [L88]; exact ib a (by omega), by rw [L88]; exact ib _ (by omega), by rw [L88]; exact ib _ (by omega), by rw [L88]; exact ib _ (by omega), by rw [L88]; exact ib 8 (by decide), ?_⟩
  rintro _ rfl
  rw [wl_sil, ml_sil, up2_ni (by decide), wa 9 (by decide), zL_add]
  refine ⟨by rw [L88]; exact ib 9 (by decide), ?_⟩
  rintro _ rfl
  rw [wl_sil]
  refine v_Ref_addSquare_1 _ _ _ _ _ _ _ ⟨K54, ?_⟩
  rw [R54_46, ml_sil, c10, c11, up2_ni (by decide), up2_ni (by decide), wa 10 (by decide), l2, l4]
  simp only [zL_mul, zL_add]
  refine ⟨K88, by rw [L88]; exact ib 10 (by decide), ?_⟩
  rintro _ rfl
  rw [wl_sil, ml_sil, up2_ni (by decide), up2_ni (by decide), up2_ni (by decide), wa 11 (by decide), zL_add]
  refine ⟨by rw [L88]; exact ib 11 (by decide), ?_⟩
  rintro _ rfl
  rw [wl_sil]
  exact ⟨_, rfl, (((Fr.refl.up m).up m).up m).up m, ((((wa.up 8 _).up 9 _).up 10 _).up 11 _).ext sq_ext⟩
def wvF (P : List Pl) (v : V3) (a i k : Nat) : Int := (P.getD k zp).2.1 * csT.getD (4 * (((tn (P.getD k zp).1 v).toNat + a) % 24) + i) 0
theorem wvA_F (P : List Pl) (v : V3) (a i : Nat) : wvA P v a i = sZ (wvF P v a i) P.length := rfl
def wv12 (P : List Pl) (v : V3) (j : Nat) : Int := if j < 4 then wvA P v 0 j else if j < 8 then wvA P v 18 (j - 4) else pwA P v (j - 8)
def wvN (P : List Pl) (v : V3) (i j : Nat) : Int := if j < 4 then sZ (wvF P v 0 j) i else if j < 8 then sZ (wvF P v 18 (j - 4)) i else 0
theorem tn_lt (p : Nat) (v : V3) : (tn p v).toNat < 24 := by unfold tn; omega
theorem tn_sum {p : Nat} {v : V3} (hv : wB v 60) (hp : p < 13824) : Ab (v.1 * ((p / 576 : Nat) : Int) + v.2.1 * ((p / 24 % 24 : Nat) : Int) + v.2.2 * ((p % 24 : Nat) : Int)) 4140 := by
  obtain ⟨⟨a, b⟩, ⟨c, d⟩, e, f⟩ := hv
  exact ((((Ab.of (a := 60) (by omega) (by omega)).mul (Ab.of (a := 23) (by omega) (by omega))).add ((Ab.of (a := 60) (by omega) (by omega)).mul (Ab.of (a := 23) (by omega) (by omega)))).add ((Ab.of (a := 60) (by omega) (by omega)).mul (Ab.of (a := 23) (by omega) (by omega)))).wk (by decide)
theorem wvN_st {P : List Pl} {v : V3} {i : Nat} : ∀ j, j < 12 → ac (ac (wvN P v i) 0 (fun q => (P.getD i zp).2.1 * csT.getD (4 * (tn (P.getD i zp).1 v).toNat + q) 0)) 4 (fun q => (P.getD i zp).2.1 * csT.getD (4 * (((tn (P.getD i zp).1 v).toNat + 18) % 24) + q) 0) j = wvN P v (i + 1) j := by
  intro j hj
  have t := tn_lt (P.getD i zp).1 v
  unfold ac wvN
  by_cases a : j < 4
  · rw [if_neg (by omega), if_pos (by omega), if_pos a, if_pos a]
    show _ = sZ (wvF P v 0 j) i + wvF P v 0 j i
    unfold wvF
    rw [Nat.add_zero, Nat.mod_eq_of_lt t, Nat.sub_zero]
  · by_cases b : j < 8
    · rw [if_pos (by omega), if_neg (by omega), if_neg a, if_pos b, if_neg a, if_pos b]
      rfl
    · rw [if_neg (by omega), if_neg (by omega), if_neg a, if_neg b, if_neg a, if_neg b]
theorem wvN_fin {P : List Pl} {v : V3} : ∀ j, j < 12 → sqW (sqW (wvN P v P.length) 0) 4 j = wv12 P v j := by
  have e0 : ∀ i, i < 4 → wvN P v P.length (0 + i) = wvA P v 0 i := fun i hi => by unfold wvN; rw [if_pos (by omega), Nat.zero_add]; rfl
  have e4 : ∀ i, i < 4 → wvN P v P.length (4 + i) = wvA P v 18 i := fun i hi => by unfold wvN; rw [if_neg (by omega), if_pos (by omega), show 4 + i - 4 = i by omega]; rfl
  have e8 : ∀ i, i < 4 → sqW (wvN P v P.length) 0 (4 + i) = wvA P v 18 i := fun i hi => by unfold sqW; rw [if_neg (by omega)]; exact e4 i hi
  have px : ∀ (n n' : Nat → Int) q, n 0 = n' 0 → n 1 = n' 1 → n 2 = n' 2 → n 3 = n' 3 → pw1 n q = pw1 n' q := fun n n' q h0 h1 h2 h3 => by unfold pw1; rw [h0, h1, h2, h3]
  intro j hj
  by_cases a : j < 8
  · unfold sqW wv12
    rw [if_neg (by omega), if_neg (by omega)]
    unfold wvN
    by_cases b : j < 4
    · rw [if_pos b, if_pos b]; rfl
    · rw [if_neg b, if_pos a, if_neg b, if_pos a]; rfl
  · have w : wvN P v P.length j = 0 := by unfold wvN; rw [if_neg (by omega), if_neg a]
    have s : sqW (wvN P v P.length) 0 j = pw1 (wvA P v 0) (j - 8) := by
      unfold sqW
      rw [if_pos (by omega), w, px (fun i => wvN P v P.length (0 + i)) (wvA P v 0) (j - 8) (e0 0 (by decide)) (e0 1 (by decide)) (e0 2 (by decide)) (e0 3 (by decide)), Int.zero_add]
    show (if 8 ≤ j then sqW (wvN P v P.length) 0 j + pw1 (fun i => sqW (wvN P v P.length) 0 (4 + i)) (j - 8) else _) = _
    rw [if_pos (by omega), s, px (fun i => sqW (wvN P v P.length) 0 (4 + i)) (wvA P v 18) (j - 8) (e8 0 (by decide)) (e8 1 (by decide)) (e8 2 (by decide)) (e8 3 (by decide))]
    unfold wv12 pwA
    rw [if_neg (by omega), if_neg a]
