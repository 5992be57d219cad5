/-! the reference's multiples -/
theorem six_n {l : (Nat → Nat → Int64)} {m : S6} (s6 : Six l m) : ∀ i, i < 6 → l 79 i = zL (nth6 m i) := fun i hi => by
  obtain ⟨a, b, c, x, y, z⟩ := m
  obtain ⟨t0, t1, t2, t3, t4, t5⟩ := s6
  have : i = 0 ∨ i = 1 ∨ i = 2 ∨ i = 3 ∨ i = 4 ∨ i = 5 := by omega
  rcases this with rfl | rfl | rfl | rfl | rfl | rfl <;> assumption
theorem sp_compared {h : MH} {f : (Nat → Nat → Int32)} {l : (Nat → Nat → Int64)} {k : Nat} {m : S6} {M : List S6} (s6 : Six l m) (mb : S6b m) (ma : MulAt l 80 M) (ll : M.length ≤ 455) (hb : ∀ y ∈ M, S6b y) (hk : k < M.length) :
    SpI k_Ref_compared [.ref 54, .int (nI k)] (sil h f l) (fun r g => g = sil h f l ∧ ((r = 0 ∧ m = M.getD k z6) ∨ (r = -1 ∧ lx6 m (M.getD k z6)) ∨ (r = 1 ∧ lx6 (M.getD k z6) m))) := by
  have t6 : (6 : Int32) = nI 6 := rfl
  have t6' : (6 : Int32).toInt = 6 := rfl
  have yb := hb _ (gMem (d := z6) hk)
  have sx := six_n s6
  have main : ∀ d i, 6 - i = d → i ≤ 6 → (∀ j, j < i → nth6 m j = nth6 (M.getD k z6) j) → WM k_Ref_compared p_Ref_compared_1 [.ref 54, .int (nI k), .int (nI i)] [] (sil h f l) 0 0 (fun v g => ∃ r, v = .int r ∧ g = sil h f l ∧ ((r = 0 ∧ m = M.getD k z6) ∨ (r = -1 ∧ lx6 m (M.getD k z6)) ∨ (r = 1 ∧ lx6 (M.getD k z6) m))) := by
    intro d
    induction d with
    | zero =>
      intro i hd hi eq
      exact v_Ref_compared_1 _ _ _ _ _ ⟨fun q => absurd q (by rw [nI_toI (by omega), t6']; omega), fun _ => ⟨_, rfl, rfl, Or.inl ⟨rfl, s6_ext (fun j hj => eq j (by omega))⟩⟩⟩
    | succ d ih =>
      intro i hd hi eq
      have il : i < 6 := by omega
      have c := cmp_z (mb i il) (yb i il)
      refine v_Ref_compared_1 _ _ _ _ _ ⟨fun _ => ⟨K54, ?_⟩, fun q => absurd (by rw [nI_toI (by omega), t6']; omega) q⟩
      rw [R54_33, R54_34, t6, nI_mul, nI_add, ix_nI (by omega), ix_nI (by omega), ml_sil, sx i il, ma k hk i il, c.1, c.2, nI_1]
      refine ⟨K79, InB_nI (show i < 6 by omega) (by omega), K80, InB_nI (show 6 * k + i < 3000 by omega) (by omega), fun e => ih (i + 1) (by omega) (by omega) (fun j hj => ?_), fun ne => ⟨fun lt => ⟨_, rfl, rfl, Or.inr (Or.inl ⟨rfl, i, il, lt, eq⟩)⟩, fun nl => ⟨_, rfl, rfl, Or.inr (Or.inr ⟨rfl, i, il, by omega, fun j hj => (eq j hj).symm⟩)⟩⟩⟩
      by_cases q : j = i
      · subst q; exact e
      · exact eq j (by omega)
  exact v_Ref_compared _ _ _ _ (main _ 0 rfl (Nat.zero_le _) (fun j hj => absurd hj (Nat.not_lt_zero j)))
def OmP (h : MH) (f : (Nat → Nat → Int32)) (l : (Nat → Nat → Int64)) (m : S6) (M : List S6) (g : MH) : Prop := ∃ f' l' M', g = sil h f' l' ∧ Fr [54] f f' ∧ (∀ j, j ≠ 35 → f' 54 j = f 54 j) ∧ Fr [79, 80] l l' ∧ f' 54 35 = nI M'.length ∧ MulAt l' 80 M' ∧ M'.Pairwise lx6 ∧ (∀ y, y ∈ M' ↔ y = m ∨ y ∈ M) ∧ M'.length ≤ M.length + 1
/-- the six put into their place -/
theorem rm_put {h : MH} {f : (Nat → Nat → Int32)} {l0 l : (Nat → Nat → Int64)} {m : S6} {M : List S6} (fr : Fr [79, 80] l0 l) (s6 : Six l m) (mb : S6b m) (ma : MulAt l 80 M) (lt : M.length < 455) (hb : ∀ y ∈ M, S6b y) (pw : M.Pairwise lx6) (h35 : f 54 35 = nI M.length) :
    WM k_Ref_oneMultiple p_Ref_oneMultiple_2 [.ref 54, Jv, Jv, Jv, Jv, Jv, Jv, Jv, .int (nI M.length), Jv] [] (sil h f l) 0 0 (fun _ g => OmP h f l0 m M g) := by
  have t6 : (6 : Int32) = nI 6 := rfl
  have t6' : (6 : Int32).toInt = 6 := rfl
  have sx := six_n s6
  -- write
  have write : ∀ k, k ≤ M.length → (∀ i, i < k → lx6 (M.getD i z6) m) → (∀ i, k ≤ i → i < M.length → lx6 m (M.getD i z6)) → ∀ (l1 : (Nat → Nat → Int64)), Fr [80] l l1 → (∀ j, j < 6 * k → l1 80 j = l 80 j) → (∀ j, 6 * k + 6 ≤ j → j < 6 * M.length + 6 → l1 80 j = l 80 (j - 6)) →
      ∀ d i (l2 : (Nat → Nat → Int64)), 6 - i = d → i ≤ 6 → Fr [80] l1 l2 → (∀ j, (j < 6 * k ∨ 6 * k + 6 ≤ j) → l2 80 j = l1 80 j) → (∀ j, j < i → l2 80 (6 * k + j) = zL (nth6 m j)) → WM k_Ref_oneMultiple p_Ref_oneMultiple_5 [.ref 54, Jv, Jv, Jv, Jv, Jv, Jv, Jv, .int (nI k), .int (nI i)] [] (sil h f l2) 0 0 (fun _ g => OmP h f l0 m M g) := by
    intro k hk lo hi l1 f1 s0 s1 d
    induction d with
    | zero =>
      intro i l2 hd hi' fr2 out inn
      refine v_Ref_oneMultiple_5 _ _ _ _ _ ⟨fun q => absurd q (by rw [nI_toI (by omega), t6']; omega), fun _ => ⟨K54, ?_⟩⟩
      rintro _ rfl
      rw [mi_sil, h35, nI_1, wi_sil]
      have len : (insG z6 M k m).length = M.length + 1 := gF_len _ _
      refine ⟨_, l2, insG z6 M k m, rfl, Fr.refl.up (by decide), fun j hj => up2_ni hj, (fr.trans (f1.mono (by decide))).trans (fr2.mono (by decide)), by rw [up2_s, len], fun q hq j hj => ?_, insG_pw pw hk lo hi, fun y => insG_mem hk, by omega⟩
      rw [len] at hq
      rw [show (insG z6 M k m).getD q (0, 0, 0, 0, 0, 0) = _ from gF_getD hq]
      by_cases q1 : q < k
      · rw [if_pos q1, out _ (by omega), s0 _ (by omega)]; exact ma q (by omega) j hj
      · rw [if_neg q1]
        by_cases q2 : q = k
        · subst q2; rw [if_pos rfl]; exact inn j (by omega)
        · rw [if_neg q2, out _ (by omega), s1 _ (by omega) (by omega), show 6 * q + j - 6 = 6 * (q - 1) + j by omega]
          exact ma (q - 1) (by omega) j hj
    | succ d ih =>
      intro i l2 hd hi' fr2 out inn
      have il : i < 6 := by omega
      refine v_Ref_oneMultiple_5 _ _ _ _ _ ⟨fun _ => ⟨K54, ?_⟩, fun q => absurd (by rw [nI_toI (by omega), t6']; omega) q⟩
      rw [R54_33, R54_34, t6, nI_mul, nI_add, ix_nI (by omega), ix_nI (by omega), ml_sil, fr2 79 (by decide), f1 79 (by decide), sx i il, nI_1]
      refine ⟨K79, InB_nI (show i < 6 by omega) (by omega), K80, InB_nI (show 6 * k + i < 3000 by omega) (by omega), ?_⟩
      rintro _ rfl
      rw [wl_sil]
      refine ih (i + 1) _ (by omega) (by omega) (fr2.up (by decide)) (fun j hj => ?_) (fun j hj => ?_)
      · rw [up2_ni (by omega)]; exact out j hj
      · by_cases e : j = i
        · subst e; exact up2_s
        · rw [up2_ni (by omega)]; exact inn j (by omega)
  -- shift
  have shift : ∀ k, k ≤ M.length → (∀ i, i < k → lx6 (M.getD i z6) m) → (∀ i, k ≤ i → i < M.length → lx6 m (M.getD i z6)) → WM k_Ref_oneMultiple p_Ref_oneMultiple_4 [.ref 54, Jv, Jv, Jv, Jv, Jv, Jv, Jv, .int (nI k), .int (((6 : Int32) * (mi (sil h f l) 54 35)) - (1 : Int32))] [] (sil h f l) 0 0 (fun _ g => OmP h f l0 m M g) := by
    intro k hk lo hi
    have main : ∀ d (j : Nat) (l1 : (Nat → Nat → Int64)), j - 6 * k = d → 6 * k ≤ j → j ≤ 6 * M.length → Fr [80] l l1 → (∀ q, q < j → l1 80 q = l 80 q) → (∀ q, j + 6 ≤ q → q < 6 * M.length + 6 → l1 80 q = l 80 (q - 6)) → WM k_Ref_oneMultiple p_Ref_oneMultiple_4 [.ref 54, Jv, Jv, Jv, Jv, Jv, Jv, Jv, .int (nI k), .int (zI ((j : Int) - 1))] [] (sil h f l1) 0 0 (fun _ g => OmP h f l0 m M g) := by
      intro d
      induction d with
      | zero =>
        intro j l1 hd hj hj2 fr1 a b
        refine v_Ref_oneMultiple_4 _ _ _ _ _ ?_
        rw [t6, nI_mul, nI_toI (by omega), zI_toI (by omega) (by omega)]
        refine ⟨fun _ => write k hk lo hi l1 fr1 (fun q hq => a q (by omega)) (fun q h1 h2 => b q (by omega) h2) _ 0 l1 rfl (Nat.zero_le _) Fr.refl (fun _ _ => rfl) (fun j hj => absurd hj (Nat.not_lt_zero j)), fun q => absurd (by omega) q⟩
      | succ d ih =>
        intro j l1 hd hj hj2 fr1 a b
        obtain ⟨j', rfl⟩ : ∃ i, j = i + 1 := ⟨j - 1, by omega⟩
        have e1 : zI (((j' + 1 : Nat) : Int) - 1) = nI j' := by rw [← zI_nat]; congr 1; omega
        refine v_Ref_oneMultiple_4 _ _ _ _ _ ?_
        rw [e1, t6, nI_mul, nI_add, nI_toI (by omega), nI_toI (by omega), R54_34, ix_nI (by omega), ix_nI (by omega), ml_sil]
        refine ⟨fun q => absurd q (by omega), fun _ => ⟨K54, K80, InB_nI (show j' < 3000 by omega) (by omega), InB_nI (show j' + 6 < 3000 by omega) (by omega), ?_⟩⟩
        rintro _ rfl
        rw [wl_sil, show nI j' + (-1 : Int32) = zI ((j' : Int) - 1) by rw [show (-1 : Int32) = zI (-1) from rfl, nI_addZ]; congr 1]
        refine ih j' _ (by omega) (by omega) (by omega) (fr1.up (by decide)) (fun q hq => ?_) (fun q h1 h2 => ?_)
        · rw [up2_ni (by omega)]; exact a q (by omega)
        · by_cases e : q = j' + 6
          · subst e; rw [up2_s, a j' (by omega)]; congr 1
          · rw [up2_ni (by omega)]; exact b q (by omega) h2
    have := main _ (6 * M.length) l rfl (by omega) (Nat.le_refl _) Fr.refl (fun _ _ => rfl) (fun q h1 h2 => by omega)
    rw [mi_sil, h35, t6, nI_mul, show nI (6 * M.length) - (1 : Int32) = zI (((6 * M.length : Nat) : Int) - 1) by rw [show (1 : Int32) = nI 1 from rfl, nI_subN]; rfl]
    exact this
  have loop : ∀ i, i ≤ M.length → (∀ j, i ≤ j → j < M.length → lx6 m (M.getD j z6)) → WM k_Ref_oneMultiple p_Ref_oneMultiple_2 [.ref 54, Jv, Jv, Jv, Jv, Jv, Jv, Jv, .int (nI i), Jv] [] (sil h f l) 0 0 (fun _ g => OmP h f l0 m M g) := by
    intro i
    induction i with
    | zero =>
      intro hi up
      refine v_Ref_oneMultiple_2 _ _ _ _ ⟨fun q => absurd q (by decide), fun _ => v_Ref_oneMultiple_3 _ _ _ _ ⟨fun q => absurd q (by decide), fun _ => ⟨K54, shift 0 hi (fun j hj => absurd hj (Nat.not_lt_zero j)) up⟩⟩⟩
    | succ i ih =>
      intro hi up
      refine v_Ref_oneMultiple_2 _ _ _ _ ?_
      rw [nI_toI (by omega), nI_prd, nI_prem]
      refine ⟨fun _ => ⟨K54, SpI.mono (sp_compared s6 mb ma (by omega) hb (by omega)) ?_⟩, fun q => absurd (by omega) q⟩
      have stop : (m = M.getD i z6 ∨ lx6 (M.getD i z6) m) → WM k_Ref_oneMultiple p_Ref_oneMultiple_3 [.ref 54, Jv, Jv, Jv, Jv, Jv, Jv, Jv, .int (nI (i + 1)), Jv] [] (sil h f l) 0 0 (fun _ g => OmP h f l0 m M g) := by
        intro c
        refine v_Ref_oneMultiple_3 _ _ _ _ ?_
        rw [nI_toI (by omega), nI_prd]
        refine ⟨fun _ => ⟨K54, SpI.mono (sp_compared s6 mb ma (by omega) hb (by omega)) ?_⟩, fun q => absurd (by omega) q⟩
        rintro r _ ⟨rfl, ⟨rfl, d⟩ | ⟨rfl, d⟩ | ⟨rfl, d⟩⟩
        · refine ⟨fun _ => ⟨f, l, M, rfl, Fr.refl, fun _ _ => rfl, fr, h35, ma, pw, fun y => ⟨Or.inr, fun q => q.elim (fun e => ?_) (fun q => q)⟩, by omega⟩, fun q => absurd rfl q⟩
          rw [e, d]; exact gMem (by omega)
        · exfalso
          rcases c with c | c
          · rw [← c] at d; exact lx6.as d d
          · exact lx6.as c d
        · refine ⟨fun q => absurd q (by decide), fun _ => ⟨K54, shift (i + 1) hi (fun j hj => ?_) up⟩⟩
          by_cases e : j = i
          · rw [e]; exact d
          · exact (gPw (d := z6) pw (show j < i by omega) (by omega)).tr d
      rintro r _ ⟨rfl, ⟨rfl, d⟩ | ⟨rfl, d⟩ | ⟨rfl, d⟩⟩
      · exact ⟨fun q => absurd q (by decide), fun _ => stop (Or.inl d)⟩
      · refine ⟨fun _ => ih (by omega) (fun j h1 h2 => ?_), fun q => absurd (by decide) q⟩
        by_cases e : j = i
        · rw [e]; exact d
        · exact up j (by omega) h2
      · exact ⟨fun q => absurd q (by decide), fun _ => stop (Or.inr d)⟩
  exact loop _ (Nat.le_refl _) (fun j h1 h2 => by omega)
theorem sp_oneMultiple {h : MH} {f : (Nat → Nat → Int32)} {l : (Nat → Nat → Int64)} {j n p q r s t u : Nat} {S : S6} {M : List S6} (hj : 6 * j + 5 < 240) (oks : okC S) (six : SixA l 76 (6 * j) S) (hn : n ≤ 12) (n1 : 1 ≤ n) (hf' : HnF n p q r s t u) (mp : MulP S n p r q s t M) (ma : MulAt l 80 M) (lt : M.length < 455) (h35 : f 54 35 = nI M.length) :
    SpV k_Ref_oneMultiple [.ref 54, .int (nI (6 * j)), .int (nI p), .int (nI q), .int (nI r), .int (nI s), .int (nI t), .int (nI u)] (sil h f l) (fun g => ∃ f' l' M', g = sil h f' l' ∧ Fr [54] f f' ∧ (∀ j, j ≠ 35 → f' 54 j = f 54 j) ∧ Fr [79, 80] l l' ∧ f' 54 35 = nI M'.length ∧ MulAt l' 80 M' ∧ MulP S n p r q s (t + 1) M' ∧ M'.length ≤ M.length + 1) := by
  have z0 : (0 : Int64) = zL ((0 : Nat) : Int) := rfl
  obtain ⟨u0, l1, l2, l3⟩ := hn_le hn n1 hf'
  obtain ⟨hp, hr, e, hq, hs, ht⟩ := hf'
  have hf'' : HnF n p q r s t u := ⟨hp, hr, e, hq, hs, ht⟩
  have OK := mul_OK (s := S) oks (p := p) (q := q) (r := r) (s' := s) (t := t) (u := u) (by omega) (by omega) (by omega)
  have T := mul_T oks hn n1 hf''
  have b : ∀ i : Nat, i < 6 → InB (nI i) 6 := fun i hi => InB_nI hi (by omega)
  have m79 : (79 : Nat) ∈ [79, 80] := by decide
  have sx : ∀ {l1 : (Nat → Nat → Int64)}, Fr [79] l l1 → SixA l1 76 (6 * j) S := fun fr i hi => by rw [fr 76 (by decide)]; exact six i hi
  have c79 : (79 : Nat) ∈ [79] := by decide
  refine v_Ref_oneMultiple _ _ _ _ _ _ _ _ _ _ ⟨K54, ?_⟩
  rw [R54_29, R54_33, i2l_n (n := p) (by omega), i2l_n (n := q) (by omega), i2l_n (n := r) (by omega), i2l_n (n := s) (by omega), i2l_n (n := t) (by omega), i2l_n (n := u) (by omega), z0]
  refine SpL.mono (ref_dot K76 L76 hj six _ _ _ _ _ _) ?_
  rintro _ _ ⟨rfl, rfl⟩
  refine ⟨K79, b 0 (by decide), ?_⟩
  rintro _ rfl
  rw [wl_sil, R54_29, R54_33]
  refine ⟨K54, SpL.mono (ref_dot K76 L76 hj (sx (Fr.refl.up c79)) _ _ _ _ _ _) ?_⟩
  rintro _ _ ⟨rfl, rfl⟩
  refine ⟨K79, b 1 (by decide), ?_⟩
  rintro _ rfl
  rw [wl_sil, R54_29, R54_33]
  refine ⟨K54, SpL.mono (ref_dot K76 L76 hj (sx ((Fr.refl.up c79).up c79)) _ _ _ _ _ _) ?_⟩
  rintro _ _ ⟨rfl, rfl⟩
  refine ⟨K79, b 2 (by decide), ?_⟩
  rintro _ rfl
  rw [wl_sil, R54_29, R54_33]
  refine ⟨K54, SpL.mono (ref_dot K76 L76 hj (sx (((Fr.refl.up c79).up c79).up c79)) _ _ _ _ _ _) ?_⟩
  rintro _ _ ⟨rfl, rfl⟩
  refine ⟨K79, b 3 (by decide), ?_⟩
  rintro _ rfl
  rw [wl_sil]
  refine v_Ref_oneMultiple_1 _ _ _ _ _ _ _ _ _ _ ⟨K54, ?_⟩
  rw [R54_29, R54_33, i2l_n (n := p) (by omega), i2l_n (n := q) (by omega), i2l_n (n := r) (by omega), i2l_n (n := s) (by omega), i2l_n (n := t) (by omega), i2l_n (n := u) (by omega), z0]
  refine SpL.mono (ref_dot K76 L76 hj (sx ((((Fr.refl.up c79).up c79).up c79).up c79)) _ _ _ _ _ _) ?_
  rintro _ _ ⟨rfl, rfl⟩
  refine ⟨K79, b 4 (by decide), ?_⟩
  rintro _ rfl
  rw [wl_sil, R54_29, R54_33]
  refine ⟨K54, SpL.mono (ref_dot K76 L76 hj (sx (((((Fr.refl.up c79).up c79).up c79).up c79).up c79)) _ _ _ _ _ _) ?_⟩
  rintro _ _ ⟨rfl, rfl⟩
  refine ⟨K79, b 5 (by decide), ?_⟩
  rintro _ rfl
  rw [wl_sil]
  generalize hl6 : up2 (up2 (up2 (up2 (up2 (up2 l 79 (ix (0 : Int32)) (zL (dotS S (p : Int) ((0 : Nat) : Int) ((0 : Nat) : Int) (p : Int) ((0 : Nat) : Int) ((0 : Nat) : Int)))) 79 (ix (1 : Int32)) (zL (dotS S (q : Int) (r : Int) ((0 : Nat) : Int) (q : Int) (r : Int) ((0 : Nat) : Int)))) 79 (ix (2 : Int32)) (zL (dotS S (s : Int) (t : Int) (u : Int) (s : Int) (t : Int) (u : Int)))) 79 (ix (3 : Int32)) (zL (dotS S (q : Int) (r : Int) ((0 : Nat) : Int) (s : Int) (t : Int) (u : Int)))) 79 (ix (4 : Int32)) (zL (dotS S (p : Int) ((0 : Nat) : Int) ((0 : Nat) : Int) (s : Int) (t : Int) (u : Int)))) 79 (ix (5 : Int32)) (zL (dotS S (p : Int) ((0 : Nat) : Int) ((0 : Nat) : Int) (q : Int) (r : Int) ((0 : Nat) : Int))) = l6
  have fr6 : Fr [79] l l6 := by rw [← hl6]; exact (((((Fr.refl.up c79).up c79).up c79).up c79).up c79).up c79
  have s6 : Six l6 (mulF S p q r s t u) := by
    rw [← hl6, show ix (0 : Int32) = 0 from rfl, show ix (1 : Int32) = 1 from rfl, show ix (2 : Int32) = 2 from rfl, show ix (3 : Int32) = 3 from rfl, show ix (4 : Int32) = 4 from rfl, show ix (5 : Int32) = 5 from rfl]
    refine ⟨?_, ?_, ?_, ?_, ?_, ?_⟩ <;> simp (disch := decide) only [up2_ni, up2_s] <;> rfl
  clear hl6
  refine ⟨K54, SpV.mono (sp_Ref_reduce (s := mulF S p q r s t u) OK (by omega) s6) ?_⟩
  rintro _ ⟨l7, k, v, rfl, fr7, rd, s7⟩
  have kk := rd.k OK
  have vb : S6b (hf v) := hf_abT kk.1 (by omega)
  have fr' : Fr [79, 80] l l7 := (fr6.mono (by decide)).trans (fr7.mono (by decide))
  have ma7 : MulAt l7 80 M := by
    unfold MulAt
    rw [fr7 80 (by decide), fr6 80 (by decide)]
    exact ma
  rw [mi_sil, h35]
  refine ⟨K54, WM.mono' (rm_put fr' s7 vb ma7 lt (mp.b oks hn n1) mp.1 h35) ?_⟩
  rintro _ g ⟨f', l', M', rfl, a1, a2, a3, a4, a5, a6, a7, a8⟩
  exact ⟨f', l', M', rfl, a1, a2, a3, a4, a5, mp.add hf'' rd a6 a7, a8⟩
