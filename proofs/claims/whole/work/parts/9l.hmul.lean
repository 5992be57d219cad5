/-! the class's multiples -/
theorem hf_abT {u : S6} (ho : OKs u) (hT : tT u ≤ 10000000) : S6b (hf u) := by
  have bb := OK_BB ho hT
  obtain ⟨a, b, c, x, y, z⟩ := u
  obtain ⟨⟨a1, a2⟩, ⟨b1, b2⟩, ⟨d1, d2⟩, ⟨x1, x2⟩, ⟨y1, y2⟩, ⟨z1, z2⟩⟩ := bb
  intro i hi
  have : i = 0 ∨ i = 1 ∨ i = 2 ∨ i = 3 ∨ i = 4 ∨ i = 5 := by omega
  rcases this with rfl | rfl | rfl | rfl | rfl | rfl
  · exact Ab.of (show _ ≤ a by omega) (show a ≤ _ by omega)
  · exact Ab.of (show _ ≤ b by omega) (show b ≤ _ by omega)
  · exact Ab.of (show _ ≤ c by omega) (show c ≤ _ by omega)
  · exact Ab.of (show _ ≤ x / 2 by omega) (show x / 2 ≤ _ by omega)
  · exact Ab.of (show _ ≤ y / 2 by omega) (show y / 2 ≤ _ by omega)
  · exact Ab.of (show _ ≤ z / 2 by omega) (show z / 2 ≤ _ by omega)
theorem MulP.b {S : S6} (oks : okC S) {n p r q s t : Nat} (hn : n ≤ 12) (n1 : 1 ≤ n) {M : List S6} (h : MulP S n p r q s t M) : ∀ m ∈ M, S6b m := fun m hm => by
  obtain ⟨p', q', r', s', t', u', a, _, k, v, rd, e⟩ := (h.2 m).mp hm
  obtain ⟨u0, _⟩ := hn_le hn n1 a
  have kk := rd.k (mul_OK oks (by have := a.1; omega) (by have := a.2.1; omega) (by omega))
  have := mul_T oks hn n1 a
  rw [e]; exact hf_abT kk.1 (by omega)
def MdAt (h : MH) (x R N : Nat) : Prop := kd h x = 1 ∧ mr h x 2 = x + 3 ∧ kd h (x + 3) = 3 ∧ kd h R = 21 ∧ ln h R = 6 * N ∧ N ≤ 455 ∧ x + 3 < R
theorem cmp_z {a b : Int} (h1 : Ab a 100000000) (h2 : Ab b 100000000) : (lg_cmp (zL a) (zL b) = 0) = (a = b) ∧ ((lg_cmp (zL a) (zL b)).toInt < 0) = (a < b) := by
  have l1 := h1.lo; have l2 := h1.hi; have l3 := h2.lo; have l4 := h2.hi
  exact ⟨lz_eq (by omega) (by omega) (by omega) (by omega), lz_lt (by omega) (by omega) (by omega) (by omega)⟩
theorem sp_compareMade {h : MH} {l : (Nat → Nat → Int64)} {x R N k : Nat} {m : S6} {M : List S6} (hm : MdAt h x R N) (ft : FoAt l (x + 3) (db m)) (mb : S6b m) (ma : MulAt l R M) (ml' : M.length ≤ N) (hb : ∀ y ∈ M, S6b y) (hk : k < M.length) :
    SpI k_Cell_compareMade [.ref x, .ref R, .int (nI k)] (sl h l) (fun r g => g = sl h l ∧ ((r = 0 ∧ m = M.getD k z6) ∨ (r = -1 ∧ lx6 m (M.getD k z6)) ∨ (r = 1 ∧ lx6 (M.getD k z6) m))) := by
  have t6 : (6 : Int32) = nI 6 := rfl
  have t6' : (6 : Int32).toInt = 6 := rfl
  obtain ⟨h1, h2, h3, h4, h5, h6, h7⟩ := hm
  have yb := hb _ (gMem (d := z6) hk)
  have main : ∀ d i, 6 - i = d → i ≤ 6 → (∀ j, j < i → nth6 m j = nth6 (M.getD k z6) j) → WM k_Cell_compareMade p_Cell_compareMade_1 [.ref x, .ref R, .int (nI k), .int (nI i), Jv] [] (sl h l) 0 0 (fun v g => ∃ r, v = .int r ∧ g = sl h l ∧ ((r = 0 ∧ m = M.getD k z6) ∨ (r = -1 ∧ lx6 m (M.getD k z6)) ∨ (r = 1 ∧ lx6 (M.getD k z6) m))) := by
    intro d
    induction d with
    | zero =>
      intro i hd hi eq
      exact v_Cell_compareMade_1 _ _ _ _ _ _ ⟨fun q => absurd q (by rw [nI_toI (by omega), t6']; omega), fun _ => ⟨_, rfl, rfl, Or.inl ⟨rfl, s6_ext (fun j hj => eq j (by omega))⟩⟩⟩
    | succ d ih =>
      intro i hd hi eq
      have il : i < 6 := by omega
      have c := cmp_z (mb i il) (yb i il)
      refine v_Cell_compareMade_1 _ _ _ _ _ _ ⟨fun _ => ⟨h1, ?_⟩, fun q => absurd (by rw [nI_toI (by omega), t6']; omega) q⟩
      rw [sl_mr, h2]
      refine ⟨h3, SpL.mono (fo_number (h := sl h l) h3 ft mb il) ?_⟩
      rintro _ _ ⟨rfl, rfl⟩
      rw [show ln (sl h l) R = 6 * N from h5, t6, nI_mul, nI_add, ix_nI (by omega), sl_ml, ma k hk i il, nI_1]
      refine ⟨h4, InB_nI (by omega) (by omega), v_Long_compare _ _ _ _ ?_⟩
      rw [c.1, c.2]
      refine ⟨fun lt => ⟨_, rfl, fun q => absurd q (by decide), fun _ => ⟨_, rfl, rfl, Or.inr (Or.inl ⟨rfl, i, il, lt, eq⟩)⟩⟩, fun nl => ⟨fun e => ⟨_, rfl, fun _ => ih (i + 1) (by omega) (by omega) (fun j hj => ?_), fun q => absurd rfl q⟩, fun ne => ⟨_, rfl, fun q => absurd q (by decide), fun _ => ⟨_, rfl, rfl, Or.inr (Or.inr ⟨rfl, i, il, by omega, fun j hj => (eq j hj).symm⟩)⟩⟩⟩⟩
      by_cases q : j = i
      · subst q; exact e
      · exact eq j (by omega)
  exact v_Cell_compareMade _ _ _ _ _ (main _ 0 rfl (Nat.zero_le _) (fun j hj => absurd hj (Nat.not_lt_zero j)))
theorem sp_seatOfMade {h : MH} {l : (Nat → Nat → Int64)} {x R N : Nat} {m : S6} {M : List S6} (hm : MdAt h x R N) (ft : FoAt l (x + 3) (db m)) (mb : S6b m) (ma : MulAt l R M) (ml' : M.length ≤ N) (hb : ∀ y ∈ M, S6b y) (pw : M.Pairwise lx6) :
    SpI k_Cell_seatOfMade [.ref x, .ref R, .int (nI M.length)] (sl h l) (fun r g => g = sl h l ∧ ∃ k, k ≤ M.length ∧ r = nI k ∧ (∀ i, i < k → lx6 (M.getD i z6) m) ∧ ∀ i, k ≤ i → i < M.length → ¬ lx6 (M.getD i z6) m) := by
  have N6 := hm.2.2.2.2.2.1
  have loop : ∀ (d low high i : Nat), high - low ≤ d → low ≤ high → high ≤ M.length → i ≤ 32 → high - low < 2 ^ (32 - i) → (∀ j, j < low → lx6 (M.getD j z6) m) → (∀ j, high ≤ j → j < M.length → ¬ lx6 (M.getD j z6) m) →
      WM k_Cell_seatOfMade p_Cell_seatOfMade_1 [.ref x, .ref R, Jv, .int (nI low), .int (nI high), .int (nI i), Jv] [] (sl h l) 0 0 (fun v g => ∃ r, v = .int r ∧ g = sl h l ∧ ∃ k, k ≤ M.length ∧ r = nI k ∧ (∀ i, i < k → lx6 (M.getD i z6) m) ∧ ∀ i, k ≤ i → i < M.length → ¬ lx6 (M.getD i z6) m) := by
    intro d
    induction d with
    | zero =>
      intro low high i h1 h2 h3 h4 h5 h6 h7
      have e : low = high := by omega
      subst e
      refine v_Cell_seatOfMade_1 _ _ _ _ _ _ _ ⟨fun c1 => ⟨fun c2 => absurd c2 (by omega), fun c2 => ⟨_, rfl, rfl, low, h3, rfl, h6, h7⟩⟩, fun c1 => ⟨_, rfl, rfl, low, h3, rfl, h6, h7⟩⟩
    | succ d ih =>
      intro low high i h1 h2 h3 h4 h5 h6 h7
      have t1 : (nI low).toInt = (low : Int) := nI_toI (by omega)
      have t2 : (nI high).toInt = (high : Int) := nI_toI (by omega)
      have t3 : (nI i).toInt = (i : Int) := nI_toI (by omega)
      have t32 : (32 : Int32).toInt = 32 := rfl
      refine v_Cell_seatOfMade_1 _ _ _ _ _ _ _ ?_
      rw [mid_nI (by omega) (by omega), t1, t2, t3, t32]
      refine ⟨fun c1 => ⟨fun c2 => ?_, fun c2 => ⟨_, rfl, rfl, low, by omega, rfl, h6, fun j q1 q2 => h7 j (by omega) q2⟩⟩, fun c1 => ?_⟩
      · have hm1 : (low + high) / 2 < high := by omega
        have hm2 : low ≤ (low + high) / 2 := by omega
        have hi : i < 32 := by omega
        have hp : 2 ^ (32 - i) = 2 * 2 ^ (32 - (i + 1)) := by rw [show 32 - i = (32 - (i + 1)) + 1 by omega, Nat.pow_succ]; omega
        have lo : lx6 (M.getD ((low + high) / 2) z6) m → ∀ j, j < (low + high) / 2 + 1 → lx6 (M.getD j z6) m := fun c j hj => by
          by_cases e : j = (low + high) / 2
          · rw [e]; exact c
          · exact (gPw (d := z6) pw (show j < (low + high) / 2 by omega) (by omega)).tr c
        have hi' : ¬ lx6 (M.getD ((low + high) / 2) z6) m → ∀ j, (low + high) / 2 ≤ j → j < M.length → ¬ lx6 (M.getD j z6) m := fun c j q1 q2 w => by
          by_cases e : j = (low + high) / 2
          · rw [e] at w; exact c w
          · exact c ((gPw (d := z6) pw (show (low + high) / 2 < j by omega) q2).tr w)
        refine ⟨hm.1, SpI.mono (sp_compareMade hm ft mb ma ml' hb (by omega)) ?_⟩
        rintro r g ⟨rfl, c⟩
        rw [nI_1, nI_1]
        rcases c with ⟨rfl, c⟩ | ⟨rfl, c⟩ | ⟨rfl, c⟩
        · refine ⟨fun q => absurd q (by decide), fun _ => ih _ _ _ (by omega) (by omega) (by omega) (by omega) (by omega) h6 (hi' (fun w => ?_))⟩
          rw [← c] at w; exact lx6.as w w
        · exact ⟨fun q => absurd q (by decide), fun _ => ih _ _ _ (by omega) (by omega) (by omega) (by omega) (by omega) h6 (hi' (fun w => lx6.as w c))⟩
        · exact ⟨fun _ => ih _ _ _ (by omega) (by omega) h3 (by omega) (by omega) (lo c) h7, fun q => absurd (by decide) q⟩
      · have hi : i = 32 := by omega
        subst hi
        exact ⟨_, rfl, rfl, low, by omega, rfl, h6, fun j q1 q2 => h7 j (by simp at h5; omega) q2⟩
  exact v_Cell_seatOfMade _ _ _ _ _ (loop M.length 0 M.length 0 (by omega) (by omega) (by omega) (by omega) (by simp; omega) (fun j hj => by omega) (fun j h1 h2 => by omega))
theorem lx6.tot {a b : S6} (ne : a ≠ b) : lx6 a b ∨ lx6 b a := by
  have : ∃ i, i < 6 ∧ nth6 a i ≠ nth6 b i := Classical.byContradiction fun n => ne (s6_ext fun i hi => Classical.byContradiction fun q => n ⟨i, hi, q⟩)
  obtain ⟨i, hi, q⟩ := this
  induction i using Nat.strongRecOn with
  | _ i ih =>
    by_cases w : ∃ j, j < i ∧ nth6 a j ≠ nth6 b j
    · obtain ⟨j, hj, nj⟩ := w
      exact ih j hj (by omega) nj
    · have eq : ∀ j, j < i → nth6 a j = nth6 b j := fun j hj => Classical.byContradiction fun z => w ⟨j, hj, z⟩
      rcases Int.lt_trichotomy (nth6 a i) (nth6 b i) with c | c | c
      · exact Or.inl ⟨i, hi, c, eq⟩
      · exact absurd c q
      · exact Or.inr ⟨i, hi, c, fun j hj => (eq j hj).symm⟩
def PmP (h : MH) (l : (Nat → Nat → Int64)) (R : Nat) (m : S6) (M : List S6) (r : Int32) (g : MH) : Prop := ∃ l' M', g = sl h l' ∧ Fr [R] l l' ∧ MulAt l' R M' ∧ M'.Pairwise lx6 ∧ (∀ y, y ∈ M' ↔ y = m ∨ y ∈ M) ∧ M'.length ≤ M.length + 1 ∧ r = nI M'.length
theorem sp_putMade {h : MH} {l : (Nat → Nat → Int64)} {x R N : Nat} {m : S6} {M : List S6} (hm : MdAt h x R N) (ft : FoAt l (x + 3) (db m)) (mb : S6b m) (ma : MulAt l R M) (lt : M.length < N) (hb : ∀ y ∈ M, S6b y) (pw : M.Pairwise lx6) :
    SpI k_Cell_putMade [.ref x, .ref R, .int (nI M.length)] (sl h l) (fun r g => PmP h l R m M r g) := by
  have t6 : (6 : Int32) = nI 6 := rfl
  have t6' : (6 : Int32).toInt = 6 := rfl
  have hm0 := hm
  obtain ⟨h1, h2, h3, h4, h5, h6, h7⟩ := hm
  -- it is not there
  have ins : ∀ k, k ≤ M.length → (∀ i, i < k → lx6 (M.getD i z6) m) → (∀ i, k ≤ i → i < M.length → lx6 m (M.getD i z6)) → WM k_Cell_putMade p_Cell_putMade_1 [.ref x, .ref R, .int (nI M.length), .int (nI k), Jv] [] (sl h l) 0 0 (fun v g => ∃ r, v = .int r ∧ PmP h l R m M r g) := by
    intro k hk lo hi
    have sub : nI M.length - nI k = nI (M.length - k) := by rw [nI_subN, ← zI_nat]; congr 1; omega
    have tl : (Int32.ofNat (6 * N)).toInt = ((6 * N : Nat) : Int) := nI_toI (by omega)
    refine v_Cell_putMade_1 _ _ _ _ _ _ ⟨h4, ?_⟩
    rw [show ln (sl h l) R = 6 * N from h5, sub, t6, nI_mul, nI_mul, nI_mul, nI_add, nI_add, tl, nI_toI (by omega), nI_toI (by omega), nI_toI (by omega), nI_toI (by omega), ix_nI (by omega), ix_nI (by omega), ix_nI (by omega)]
    refine ⟨fun q => absurd q (by omega), fun _ => ⟨⟨by omega, by omega, by omega, by omega, by omega⟩, ?_⟩⟩
    rintro _ rfl
    rw [show cpL (sl h l) R (6 * k) R (6 * k + 6) (6 * (M.length - k)) = sl h (fun b j => if b = R ∧ 6 * k + 6 ≤ j ∧ j < 6 * k + 6 + 6 * (M.length - k) then l R (6 * k + (j - (6 * k + 6))) else l b j) from rfl]
    generalize hl1 : (fun b j => if b = R ∧ 6 * k + 6 ≤ j ∧ j < 6 * k + 6 + 6 * (M.length - k) then l R (6 * k + (j - (6 * k + 6))) else l b j) = l1
    have o1 : Fr [R] l l1 := fun b hb' => by
      rw [← hl1]
      funext j
      exact if_neg (fun q => hb' (by rw [q.1]; exact List.mem_cons_self))
    have s1 : ∀ j, 6 * k + 6 ≤ j → j < 6 * M.length + 6 → l1 R j = l R (j - 6) := fun j q1 q2 => by
      rw [← hl1]
      show (if R = R ∧ 6 * k + 6 ≤ j ∧ j < 6 * k + 6 + 6 * (M.length - k) then l R (6 * k + (j - (6 * k + 6))) else l R j) = _
      rw [if_pos ⟨rfl, q1, by omega⟩]
      congr 1; omega
    have s0 : ∀ j, j < 6 * k → l1 R j = l R j := fun j q1 => by
      rw [← hl1]
      exact if_neg (fun q => by omega)
    have ft1 : FoAt l1 (x + 3) (db m) := ft.fr (o1 _ (fun q => by have := List.mem_singleton.mp q; omega))
    clear hl1
    have wr : ∀ d i (l2 : (Nat → Nat → Int64)), 6 - i = d → i ≤ 6 → Fr [R] l1 l2 → (∀ j, (j < 6 * k ∨ 6 * k + 6 ≤ j) → l2 R j = l1 R j) → (∀ j, j < i → l2 R (6 * k + j) = zL (nth6 m j)) → WM k_Cell_putMade p_Cell_putMade_2 [.ref x, .ref R, .int (nI M.length), .int (nI k), .int (nI i)] [] (sl h l2) 0 0 (fun v g => ∃ r, v = .int r ∧ PmP h l R m M r g) := by
      intro d
      induction d with
      | zero =>
        intro i l2 hd hi' fr out inn
        refine v_Cell_putMade_2 _ _ _ _ _ _ _ ⟨fun q => absurd q (by rw [nI_toI (by omega), t6']; omega), fun _ => ⟨_, rfl, l2, insG z6 M k m, rfl, o1.trans fr, fun q hq j hj => ?_, insG_pw pw hk lo hi, fun y => insG_mem hk, ?_, ?_⟩⟩
        · rw [show (insG z6 M k m).length = M.length + 1 from gF_len _ _] at hq
          rw [show (insG z6 M k m).getD q (0, 0, 0, 0, 0, 0) = _ from gF_getD hq]
          by_cases q1 : q < k
          · rw [if_pos q1, out _ (by omega), s0 _ (by omega)]; exact ma q (by omega) j hj
          · rw [if_neg q1]
            by_cases q2 : q = k
            · subst q2; rw [if_pos rfl]; exact inn j (by omega)
            · rw [if_neg q2, out _ (by omega), s1 _ (by omega) (by omega), show 6 * q + j - 6 = 6 * (q - 1) + j by omega]
              exact ma (q - 1) (by omega) j hj
        · rw [show (insG z6 M k m).length = M.length + 1 from gF_len _ _]; omega
        · rw [nI_1, show (insG z6 M k m).length = M.length + 1 from gF_len _ _]
      | succ d ih =>
        intro i l2 hd hi' fr out inn
        have il : i < 6 := by omega
        have ft2 : FoAt l2 (x + 3) (db m) := ft1.fr (fr _ (fun q => by have := List.mem_singleton.mp q; omega))
        refine v_Cell_putMade_2 _ _ _ _ _ _ _ ⟨fun _ => ⟨h1, ?_⟩, fun q => absurd (by rw [nI_toI (by omega), t6']; omega) q⟩
        rw [sl_mr, h2]
        refine ⟨h3, SpL.mono (fo_number (h := sl h l2) h3 ft2 mb il) ?_⟩
        rintro _ _ ⟨rfl, rfl⟩
        rw [show ln (sl h l2) R = 6 * N from h5, t6, nI_mul, nI_add, ix_nI (by omega), nI_1]
        refine ⟨h4, InB_nI (by omega) (by omega), ?_⟩
        rintro _ rfl
        rw [sl_wl]
        refine ih (i + 1) _ (by omega) (by omega) (fr.up List.mem_cons_self) (fun j hj => ?_) (fun j hj => ?_)
        · rw [up2_ni (by omega)]; exact out j hj
        · by_cases e : j = i
          · subst e; exact up2_s
          · rw [up2_ni (by omega)]; exact inn j (by omega)
    exact wr _ 0 l1 rfl (Nat.zero_le _) Fr.refl (fun _ _ => rfl) (fun j hj => absurd hj (Nat.not_lt_zero j))
  refine v_Cell_putMade _ _ _ _ _ ⟨h1, SpI.mono (sp_seatOfMade hm0 ft mb ma (by omega) hb pw) ?_⟩
  rintro _ _ ⟨rfl, k, hk, rfl, lo, hi⟩
  have up : (k < M.length → m ≠ M.getD k z6) → ∀ i, k ≤ i → i < M.length → lx6 m (M.getD i z6) := fun ne i q1 q2 => by
    have nk : lx6 m (M.getD k z6) := by
      rcases lx6.tot (ne (by omega)) with c | c
      · exact c
      · exact absurd c (hi k (Nat.le_refl _) (by omega))
    by_cases e : i = k
    · rw [e]; exact nk
    · exact nk.tr (gPw (d := z6) pw (by omega) q2)
  rw [nI_toI (by omega), nI_toI (by omega)]
  refine ⟨fun kl => ⟨h1, SpI.mono (sp_compareMade hm0 ft mb ma (by omega) hb (by omega)) ?_⟩, fun kl => ins k hk lo (up (fun q => absurd q (by omega)))⟩
  rintro r _ ⟨rfl, ⟨rfl, c⟩ | ⟨rfl, c⟩ | ⟨rfl, c⟩⟩
  · refine ⟨fun _ => ⟨_, rfl, l, M, rfl, Fr.refl, ma, pw, fun y => ⟨Or.inr, fun q => q.elim (fun e => ?_) (fun q => q)⟩, by omega, rfl⟩, fun q => absurd rfl q⟩
    rw [e, c]; exact gMem (by omega)
  · exact ⟨fun q => absurd q (by decide), fun _ => ins k hk lo (up (fun _ e => by rw [e] at c; exact lx6.as c c))⟩
  · exact ⟨fun q => absurd q (by decide), fun _ => ins k hk lo (up (fun _ e => by rw [e] at c; exact lx6.as c c))⟩
