/-! the reference's waves: addCosine, addSquare -/
def Wv12 (l : (Nat → Nat → Int64)) (n : Nat → Int) : Prop := ∀ j, j < 12 → l 88 j = zL (n j)
theorem Wv12.ext {l : (Nat → Nat → Int64)} {n n' : Nat → Int} (h : Wv12 l n) (e : ∀ j, j < 12 → n j = n' j) : Wv12 l n' := fun j hj => by rw [h j hj, e j hj]
theorem Wv12.up {l : (Nat → Nat → Int64)} {n : Nat → Int} (h : Wv12 l n) (p : Nat) (q : Int) : Wv12 (up2 l 88 p (zL q)) (fun j => if j = p then q else n j) := fun j hj => by
  by_cases e : j = p
  · subst e; rw [up2_s]; simp only [if_true]
  · rw [up2_ni e]; simp only [if_neg e]; exact h j hj
def cB (v : Nat) (w : Int) (i : Nat) : Int := if v = 0 then (if i = 0 then 4 * w else 0) else if v = 1 then (if i = 1 ∨ i = 3 then w else 0) else if v = 2 then (if i = 2 then 2 * w else 0) else if v = 3 then (if i = 1 then 2 * w else 0) else if v = 4 then (if i = 0 then 2 * w else 0) else if v = 5 then (if i = 1 then -w else if i = 3 then w else 0) else 0
def ac (n : Nat → Int) (a : Nat) (c : Nat → Int) (j : Nat) : Int := if a ≤ j ∧ j < a + 4 then n j + c (j - a) else n j
theorem ac_0 {n : Nat → Int} {a : Nat} {w : Int} (ha : a = 0 ∨ a = 4) : ∀ j, j < 12 → (if j = a then n a + 4 * w else n j) = ac n a (cB 0 w) j := by
  intro j hj
  unfold ac cB
  rcases ha with rfl | rfl <;> (have : j = 0 ∨ j = 1 ∨ j = 2 ∨ j = 3 ∨ j = 4 ∨ j = 5 ∨ j = 6 ∨ j = 7 ∨ j = 8 ∨ j = 9 ∨ j = 10 ∨ j = 11 := by omega) <;> rcases this with rfl | rfl | rfl | rfl | rfl | rfl | rfl | rfl | rfl | rfl | rfl | rfl <;> simp
theorem ac_1 {n : Nat → Int} {a : Nat} {w : Int} (ha : a = 0 ∨ a = 4) : ∀ j, j < 12 → (if j = a + 3 then n (a + 3) + w else if j = a + 1 then n (a + 1) + w else n j) = ac n a (cB 1 w) j := by
  intro j hj
  unfold ac cB
  rcases ha with rfl | rfl <;> (have : j = 0 ∨ j = 1 ∨ j = 2 ∨ j = 3 ∨ j = 4 ∨ j = 5 ∨ j = 6 ∨ j = 7 ∨ j = 8 ∨ j = 9 ∨ j = 10 ∨ j = 11 := by omega) <;> rcases this with rfl | rfl | rfl | rfl | rfl | rfl | rfl | rfl | rfl | rfl | rfl | rfl <;> simp
theorem ac_2 {n : Nat → Int} {a : Nat} {w : Int} (ha : a = 0 ∨ a = 4) : ∀ j, j < 12 → (if j = a + 2 then n (a + 2) + 2 * w else n j) = ac n a (cB 2 w) j := by
  intro j hj
  unfold ac cB
  rcases ha with rfl | rfl <;> (have : j = 0 ∨ j = 1 ∨ j = 2 ∨ j = 3 ∨ j = 4 ∨ j = 5 ∨ j = 6 ∨ j = 7 ∨ j = 8 ∨ j = 9 ∨ j = 10 ∨ j = 11 := by omega) <;> rcases this with rfl | rfl | rfl | rfl | rfl | rfl | rfl | rfl | rfl | rfl | rfl | rfl <;> simp
theorem ac_3 {n : Nat → Int} {a : Nat} {w : Int} (ha : a = 0 ∨ a = 4) : ∀ j, j < 12 → (if j = a + 1 then n (a + 1) + 2 * w else n j) = ac n a (cB 3 w) j := by
  intro j hj
  unfold ac cB
  rcases ha with rfl | rfl <;> (have : j = 0 ∨ j = 1 ∨ j = 2 ∨ j = 3 ∨ j = 4 ∨ j = 5 ∨ j = 6 ∨ j = 7 ∨ j = 8 ∨ j = 9 ∨ j = 10 ∨ j = 11 := by omega) <;> rcases this with rfl | rfl | rfl | rfl | rfl | rfl | rfl | rfl | rfl | rfl | rfl | rfl <;> simp
theorem ac_4 {n : Nat → Int} {a : Nat} {w : Int} (ha : a = 0 ∨ a = 4) : ∀ j, j < 12 → (if j = a then n a + 2 * w else n j) = ac n a (cB 4 w) j := by
  intro j hj
  unfold ac cB
  rcases ha with rfl | rfl <;> (have : j = 0 ∨ j = 1 ∨ j = 2 ∨ j = 3 ∨ j = 4 ∨ j = 5 ∨ j = 6 ∨ j = 7 ∨ j = 8 ∨ j = 9 ∨ j = 10 ∨ j = 11 := by omega) <;> rcases this with rfl | rfl | rfl | rfl | rfl | rfl | rfl | rfl | rfl | rfl | rfl | rfl <;> simp
theorem ac_5 {n : Nat → Int} {a : Nat} {w : Int} (ha : a = 0 ∨ a = 4) : ∀ j, j < 12 → (if j = a + 3 then n (a + 3) + w else if j = a + 1 then n (a + 1) - w else n j) = ac n a (cB 5 w) j := by
  intro j hj
  unfold ac cB
  rcases ha with rfl | rfl <;> (have : j = 0 ∨ j = 1 ∨ j = 2 ∨ j = 3 ∨ j = 4 ∨ j = 5 ∨ j = 6 ∨ j = 7 ∨ j = 8 ∨ j = 9 ∨ j = 10 ∨ j = 11 := by omega) <;> rcases this with rfl | rfl | rfl | rfl | rfl | rfl | rfl | rfl | rfl | rfl | rfl | rfl <;> simp <;> omega
theorem ac_6 {n : Nat → Int} {a : Nat} {w : Int} : ∀ j, j < 12 → (if j = a then n a + 0 else n j) = ac n a (cB 6 w) j := by
  intro j hj
  unfold ac cB
  simp only [Nat.reduceEqDiff, if_false, Int.add_zero]
  by_cases e : j = a
  · subst e; simp
  · simp [e]
theorem cos_2 {h : MH} {f : (Nat → Nat → Int32)} {l : (Nat → Nat → Int64)} {n : Nat → Int} {a v : Nat} {w : Int} (wa : Wv12 l n) (ha : a = 0 ∨ a = 4) (hv : v ≤ 6) :
    WM k_Ref_addCosine p_Ref_addCosine_2 [.ref 54, .int (nI a), Jv, Jv, Jv, Jv, .long (zL w), Jv, Jv] [.int (nI v)] (sil h f l) 0 0 (fun _ g => ∃ l', g = sil h f l' ∧ Fr [88] l l' ∧ Wv12 l' (ac n a (cB v w))) := by
  have a1 : nI a + (1 : Int32) = nI (a + 1) := nI_add a 1
  have a2 : nI a + (2 : Int32) = nI (a + 2) := nI_add a 2
  have a3 : nI a + (3 : Int32) = nI (a + 3) := nI_add a 3
  have m : 88 ∈ [88] := List.mem_cons_self
  have ib : ∀ i, i < 4 → InB (nI (a + i)) 12 := fun i hi => InB_nI (by omega) (by omega)
  have ix' : ∀ i, i < 4 → ix (nI (a + i)) = a + i := fun i hi => ix_nI (by omega)
  have i0 := ix' 0 (by decide)
  have b0 := ib 0 (by decide)
  rw [Nat.add_zero] at i0 b0
  have w0 := wa a (by omega)
  have w1 := wa (a + 1) (by omega)
  have w2 := wa (a + 2) (by omega)
  have w3 := wa (a + 3) (by omega)
  refine v_Ref_addCosine_2 _ _ _ _ _ _ ?_
  rw [R54_46, a1, a2, a3, i0, ix' 1 (by decide), ix' 2 (by decide), ix' 3 (by decide), ml_sil, w0, w1, w2, show (4 : Int64) = zL 4 from rfl, show (2 : Int64) = zL 2 from rfl, show (0 : Int64) = zL 0 from rfl]
  simp only [zL_mul, zL_add, zL_sub]
  refine ⟨fun c => ⟨K54, K88, by rw [L88]; exact b0, ?_⟩, fun c0 => ⟨fun c => ⟨K54, K88, by rw [L88]; exact ib 1 (by decide), ?_⟩, fun c1 => ⟨fun c => ⟨K54, K88, by rw [L88]; exact ib 2 (by decide), ?_⟩, fun c2 => ⟨fun c => ⟨K54, K88, by rw [L88]; exact ib 1 (by decide), ?_⟩, fun c3 => ⟨fun c => ⟨K54, K88, by rw [L88]; exact b0, ?_⟩, fun c4 => ⟨fun c => ⟨K54, K88, by rw [L88]; exact ib 1 (by decide), ?_⟩, fun c5 => ⟨K54, K88, by rw [L88]; exact b0, ?_⟩⟩⟩⟩⟩⟩⟩
  · have e : v = 0 := (nI_inj (x := v) (y := 0) (by omega) (by omega)).mp c
    subst e
    rintro _ rfl
    rw [wl_sil]
    exact ⟨_, rfl, Fr.refl.up m, (wa.up a _).ext (ac_0 ha)⟩
  · have e : v = 1 := (nI_inj (x := v) (y := 1) (by omega) (by omega)).mp c
    subst e
    rintro _ rfl
    refine ⟨by rw [L88]; exact ib 3 (by decide), ?_⟩
    rw [wl_sil, ml_sil, up2_ni (by omega), w3, zL_add]
    rintro _ rfl
    rw [wl_sil]
    exact ⟨_, rfl, (Fr.refl.up m).up m, ((wa.up (a + 1) _).up (a + 3) _).ext (ac_1 ha)⟩
  · have e : v = 2 := (nI_inj (x := v) (y := 2) (by omega) (by omega)).mp c
    subst e
    rintro _ rfl
    rw [wl_sil]
    exact v_Ref_addCosine_3 _ _ ⟨_, rfl, Fr.refl.up m, (wa.up (a + 2) _).ext (ac_2 ha)⟩
  · have e : v = 3 := (nI_inj (x := v) (y := 3) (by omega) (by omega)).mp c
    subst e
    rintro _ rfl
    rw [wl_sil]
    exact ⟨_, rfl, Fr.refl.up m, (wa.up (a + 1) _).ext (ac_3 ha)⟩
  · have e : v = 4 := (nI_inj (x := v) (y := 4) (by omega) (by omega)).mp c
    subst e
    rintro _ rfl
    rw [wl_sil]
    exact ⟨_, rfl, Fr.refl.up m, (wa.up a _).ext (ac_4 ha)⟩
  · have e : v = 5 := (nI_inj (x := v) (y := 5) (by omega) (by omega)).mp c
    subst e
    rintro _ rfl
    refine ⟨by rw [L88]; exact ib 3 (by decide), ?_⟩
    rw [wl_sil, ml_sil, up2_ni (by omega), w3, zL_add]
    rintro _ rfl
    rw [wl_sil]
    exact v_Ref_addCosine_4 _ _ ⟨_, rfl, (Fr.refl.up m).up m, ((wa.up (a + 1) _).up (a + 3) _).ext (ac_5 ha)⟩
  · have e : v = 6 := by
      have e0 : v ≠ 0 := fun e => c0 (by rw [e]; rfl)
      have e1 : v ≠ 1 := fun e => c1 (by rw [e]; rfl)
      have e2 : v ≠ 2 := fun e => c2 (by rw [e]; rfl)
      have e3 : v ≠ 3 := fun e => c3 (by rw [e]; rfl)
      have e4 : v ≠ 4 := fun e => c4 (by rw [e]; rfl)
      have e5 : v ≠ 5 := fun e => c5 (by rw [e]; rfl)
      omega
    subst e
    rintro _ rfl
    rw [wl_sil]
    exact ⟨_, rfl, Fr.refl.up m, (wa.up a _).ext ac_6⟩
def cU (t : Nat) : Nat := if 12 < t then 24 - t else t
def cV (t : Nat) : Nat := if 6 < cU t then 12 - cU t else cU t
theorem cs_eq {t i : Nat} {w : Int} (ht : t < 24) (hi : i < 4) : cB (cV t) (if 6 < cU t then -w else w) i = w * csT.getD (4 * t + i) 0 := by
  have : t = 0 ∨ t = 1 ∨ t = 2 ∨ t = 3 ∨ t = 4 ∨ t = 5 ∨ t = 6 ∨ t = 7 ∨ t = 8 ∨ t = 9 ∨ t = 10 ∨ t = 11 ∨ t = 12 ∨ t = 13 ∨ t = 14 ∨ t = 15 ∨ t = 16 ∨ t = 17 ∨ t = 18 ∨ t = 19 ∨ t = 20 ∨ t = 21 ∨ t = 22 ∨ t = 23 := by omega
  have hi : i = 0 ∨ i = 1 ∨ i = 2 ∨ i = 3 := by omega
  rcases this with rfl | rfl | rfl | rfl | rfl | rfl | rfl | rfl | rfl | rfl | rfl | rfl | rfl | rfl | rfl | rfl | rfl | rfl | rfl | rfl | rfl | rfl | rfl | rfl <;> rcases hi with rfl | rfl | rfl | rfl <;> simp [cB, cV, cU, csT] <;> omega
theorem sp_Ref_addCosine {h : MH} {f : (Nat → Nat → Int32)} {l : (Nat → Nat → Int64)} {n : Nat → Int} {a t : Nat} {w : Int} (wa : Wv12 l n) (ha : a = 0 ∨ a = 4) (ht : t < 24) :
    SpV k_Ref_addCosine [.ref 54, .int (nI a), .int (nI t), .long (zL w)] (sil h f l) (fun g => ∃ l', g = sil h f l' ∧ Fr [88] l l' ∧ Wv12 l' (ac n a (fun i => w * csT.getD (4 * t + i) 0))) := by
  have t12 : (12 : Int32).toInt = 12 := rfl
  have t6 : (6 : Int32).toInt = 6 := rfl
  have one : ∀ u w', u ≤ 12 → (u = cU t) → (w' = if 6 < cU t then -w else w) → WM k_Ref_addCosine p_Ref_addCosine_1 [.ref 54, .int (nI a), Jv, Jv, Jv, .int (nI u), Jv, Jv, Jv] [.long (zL w')] (sil h f l) 0 0 (fun _ g => ∃ l', g = sil h f l' ∧ Fr [88] l l' ∧ Wv12 l' (ac n a (fun i => w * csT.getD (4 * t + i) 0))) := by
    intro u w' hu eu ew
    have fin : ∀ v, v = cV t → v ≤ 6 → WM k_Ref_addCosine p_Ref_addCosine_2 [.ref 54, .int (nI a), Jv, Jv, Jv, Jv, .long (zL w'), Jv, Jv] [.int (nI v)] (sil h f l) 0 0 (fun _ g => ∃ l', g = sil h f l' ∧ Fr [88] l l' ∧ Wv12 l' (ac n a (fun i => w * csT.getD (4 * t + i) 0))) := fun v ev hv => by
      refine WM.mono' (cos_2 (w := w') wa ha hv) ?_
      rintro _ g ⟨l', e1, e2, e3⟩
      refine ⟨l', e1, e2, e3.ext (fun j hj => ?_)⟩
      unfold ac
      by_cases q : a ≤ j ∧ j < a + 4
      · rw [if_pos q, if_pos q, ev, ew, cs_eq ht (by omega)]
      · rw [if_neg q, if_neg q]
    refine v_Ref_addCosine_1 _ _ _ _ _ _ ?_
    rw [t6, nI_toI (by omega)]
    refine ⟨fun c => ?_, fun c => fin u (by unfold cV; rw [← eu, if_neg (by omega)]) (by omega)⟩
    rw [show (12 : Int32) = nI 12 from rfl, nI_sub (by omega)]
    exact fin (12 - u) (by unfold cV; rw [← eu, if_pos (by omega)]) (by omega)
  refine v_Ref_addCosine _ _ _ _ _ _ ?_
  rw [t12, t6, nI_toI (by omega)]
  have neg : -(zL w) = zL (-w) := zL_neg w
  rw [neg]
  refine ⟨fun c => ?_, fun c => ?_⟩
  · have cu : 24 - t = cU t := by unfold cU; rw [if_pos (by omega)]
    rw [show (24 : Int32) = nI 24 from rfl, nI_sub (by omega), nI_toI (by omega)]
    exact ⟨fun c' => one _ _ (by omega) cu (by rw [← cu, if_pos (by omega)]), fun c' => one _ _ (by omega) cu (by rw [← cu, if_neg (by omega)])⟩
  · have cu : t = cU t := by unfold cU; rw [if_neg (by omega)]
    exact ⟨fun c' => one _ _ (by omega) cu (by rw [← cu, if_pos (by omega)]), fun c' => one _ _ (by omega) cu (by rw [← cu, if_neg (by omega)])⟩
