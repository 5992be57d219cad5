/-! the reference's addLine -/
theorem m1_nI {a : Nat} (h : 1 ≤ a) : nI a + (-1 : Int32) = nI (a - 1) := by
  rw [show (-1 : Int32) = zI (-1) from rfl, nI_zI, nI_zI, zI_add]
  congr 1
  omega
theorem s1_nI {a : Nat} (h : 1 ≤ a) : nI a - (1 : Int32) = nI (a - 1) := nI_sub (b := 1) h
theorem sp_Ref_addLine {h : MH} {f : (Nat → Nat → Int32)} {l : (Nat → Nat → Int64)} {L : List Int} {V : Int → Nat → Int} {q : Int} {pw : Nat → Int} (so : L.Pairwise (· < ·)) (l22 : L.length < 2200) (e50 : f 54 50 = nI L.length) (rl : RLn f l L V) (lb : ∀ x ∈ L, -1000000000000 ≤ x ∧ x ≤ 1000000000000) (qb : -1000000000000 ≤ q ∧ q ≤ 1000000000000) (nv : q ∉ L → ∀ j, 1 ≤ j → V q j = 0) (hp : ∀ z, z < 4 → l 88 (8 + z) = zL (pw z)) :
    SpV k_Ref_addLine [.ref 54, .long (zL q)] (sil h f l) (AlP h f l L V q pw) := by
  have t4 : (4 : Int32).toInt = 4 := rfl
  -- the shift
  have sh : ∀ i, i ≤ L.length → (∀ k, k < i → L.getD k 0 < q) → (∀ k, i ≤ k → k < L.length → q < L.getD k 0) → (∀ j, 1 ≤ j → V q j = 0) → ∀ d j (f1 : (Nat → Nat → Int32)) (l1 : (Nat → Nat → Int64)), j - i = d → i ≤ j → j ≤ L.length → (∀ y, f1 54 y = f 54 y) → Fr [54, 90] f f1 → Fr [89, 91] l l1 → (∀ k, k < j → RwE f1 l1 k f l k) → (∀ k, j < k → k ≤ L.length → RwE f1 l1 k f l (k - 1)) →
      WM k_Ref_addLine p_Ref_addLine_3 [.ref 54, .long (zL q), Jv, .int (nI i), .int (nI j), Jv] [] (sil h f1 l1) 0 0 (fun _ g => AlP h f l L V q pw g) := by
    intro i hi lo hg nv' d
    induction d with
    | zero =>
      intro j f1 l1 hd hij hj f54 ff fl r1 r2
      have : j = i := by omega
      subst this
      exact al_new f54 ff fl so l22 e50 rl hi lo hg nv' hp r1 r2
    | succ d ih =>
      intro j f1 l1 hd hij hj f54 ff fl r1 r2
      obtain ⟨a1, a2, a3⟩ := r1 (j - 1) (by omega)
      refine v_Ref_addLine_3 _ _ _ _ _ _ ⟨fun _ => ⟨K54, ?_⟩, fun c => absurd (by rw [nI_toI (by omega), nI_toI (by omega)]; omega) c⟩
      rw [R54_47, R54_48, s1_nI (by omega), ix_nI (a := j) (by omega), ix_nI (a := j - 1) (by omega), ml_sil, mi_sil, a1, a2]
      refine ⟨K89, by rw [L89]; exact InB_nI (by omega) (by omega), by rw [L89]; exact InB_nI (by omega) (by omega), ?_⟩
      rintro _ rfl
      refine ⟨K90, by rw [L90]; exact InB_nI (by omega) (by omega), by rw [L90]; exact InB_nI (by omega) (by omega), ?_⟩
      rintro _ rfl
      rw [wl_sil, wi_sil]
      have go : ∀ d' z (l2 : (Nat → Nat → Int64)), 4 - z = d' → z ≤ 4 → Fr [91] (up2 l1 89 j (l 89 (j - 1))) l2 → (∀ y, (y < 4 * j ∨ 4 * j + 4 ≤ y) → l2 91 y = l1 91 y) → (∀ y, y < z → l2 91 (4 * j + y) = l 91 (4 * (j - 1) + y)) →
          WM k_Ref_addLine p_Ref_addLine_4 [.ref 54, .long (zL q), Jv, .int (nI i), .int (nI j), .int (nI z)] [] (sil h (up2 f1 90 j (f 90 (j - 1))) l2) 0 0 (fun _ g => AlP h f l L V q pw g) := by
        intro d'
        induction d' with
        | zero =>
          intro z l2 hd' hz fr o n
          have : z = 4 := by omega
          subst this
          refine v_Ref_addLine_4 _ _ _ _ _ _ _ ⟨fun c => absurd c (by decide), fun _ => ?_⟩
          rw [m1_nI (by omega)]
          refine ih (j - 1) _ l2 (by omega) (by omega) (by omega) (fun y => by rw [up2_ne (by decide)]; exact f54 y) (ff.up (by decide)) ((fl.up (by decide)).trans (fr.mono (by decide))) (fun k hk => ?_) (fun k h1 h2 => ?_)
          · obtain ⟨b1, b2, b3⟩ := r1 k (by omega)
            exact ⟨by rw [fr 89 (by decide), up2_ni (by omega)]; exact b1, by rw [up2_ni (by omega)]; exact b2, fun y hy => by rw [o _ (by omega)]; exact b3 y hy⟩
          · by_cases e : k = j
            · subst e
              exact ⟨by rw [fr 89 (by decide), up2_s], by rw [up2_s], fun y hy => n y hy⟩
            · obtain ⟨b1, b2, b3⟩ := r2 k (by omega) h2
              exact ⟨by rw [fr 89 (by decide), up2_ni (by omega)]; exact b1, by rw [up2_ni (by omega)]; exact b2, fun y hy => by rw [o _ (by omega)]; exact b3 y hy⟩
        | succ d' ih' =>
          intro z l2 hd' hz fr o n
          refine v_Ref_addLine_4 _ _ _ _ _ _ _ ⟨fun _ => ⟨K54, ?_⟩, fun c => absurd (by rw [nI_toI (by omega), t4]; omega) c⟩
          have e1 : ((4 : Int32) * nI j) - (4 : Int32) + nI z = nI (4 * (j - 1) + z) := by
            rw [show (4 : Int32) = nI 4 from rfl, nI_mul, nI_sub (by omega), nI_add]
            congr 1
            omega
          have e2 : ((4 : Int32) * nI j) + nI z = nI (4 * j + z) := by rw [show (4 : Int32) = nI 4 from rfl, nI_mul, nI_add]
          rw [R54_49, e1, e2, ix_nI (a := 4 * j + z) (by omega), ix_nI (a := 4 * (j - 1) + z) (by omega), ml_sil, o (4 * (j - 1) + z) (by omega), a3 z (by omega), nI_1]
          refine ⟨K91, by rw [L91]; exact InB_nI (by omega) (by omega), by rw [L91]; exact InB_nI (by omega) (by omega), ?_⟩
          rintro _ rfl
          rw [wl_sil]
          refine ih' (z + 1) _ (by omega) (by omega) (fr.up (by decide)) (fun y hy => by rw [up2_ni (by omega)]; exact o y hy) (fun y hy => ?_)
          by_cases e : y = z
          · subst e; rw [up2_s]
          · rw [up2_ni (by omega)]; exact n y (by omega)
      exact go _ 0 _ rfl (Nat.zero_le _) Fr.refl (fun y _ => by rw [up2_ne (by decide)]) (fun y hy => absurd hy (Nat.not_lt_zero y))
  have sh0 : ∀ i, i ≤ L.length → (∀ k, k < i → L.getD k 0 < q) → (∀ k, i ≤ k → k < L.length → q < L.getD k 0) → WM k_Ref_addLine p_Ref_addLine_3 [.ref 54, .long (zL q), Jv, .int (nI i), .int (nI L.length), Jv] [] (sil h f l) 0 0 (fun _ g => AlP h f l L V q pw g) := fun i hi lo hg => by
    have ni : q ∉ L := fun c => by
      obtain ⟨k, hk, e⟩ := zmem_getD c
      by_cases w : k < i
      · have := lo k w; omega
      · have := hg k (by omega) hk; omega
    exact sh i hi lo hg (nv ni) _ L.length f l rfl hi (Nat.le_refl _) (fun _ => rfl) Fr.refl Fr.refl (fun k _ => ⟨rfl, rfl, fun _ _ => rfl⟩) (fun k h1 h2 => absurd h1 (by omega))
  -- found or not
  have two : ∀ i, i ≤ L.length → (∀ k, i ≤ k → k < L.length → q < L.getD k 0) → (i = 0 ∨ L.getD (i - 1) 0 ≤ q) → WM k_Ref_addLine p_Ref_addLine_2 [.ref 54, .long (zL q), Jv, .int (nI i), Jv, Jv] [] (sil h f l) 0 0 (fun _ g => AlP h f l L V q pw g) := by
    intro i hi hg low
    refine v_Ref_addLine_2 _ _ _ _ _ ⟨fun c => ⟨K54, ?_⟩, fun c => ⟨K54, ?_⟩⟩
    · have : i = 0 := (nI_inj (x := i) (y := 0) (by omega) (by omega)).mp c
      subst this
      rw [mi_sil, e50]
      exact sh0 0 (Nat.zero_le _) (fun k hk => absurd hk (Nat.not_lt_zero k)) hg
    · have i0 : i ≠ 0 := fun e => c (by rw [e]; rfl)
      have le : L.getD (i - 1) 0 ≤ q := low.resolve_left i0
      have b := lb _ (zgetD_mem (show i - 1 < L.length by omega))
      rw [R54_47, s1_nI (by omega), ix_nI (by omega), ml_sil, (rl (i - 1) (by omega)).1, lz_eq b.1 b.2 qb.1 qb.2, mi_sil, e50, m1_nI (by omega)]
      refine ⟨K89, by rw [L89]; exact InB_nI (by omega) (by omega), fun e => ?_, fun e => sh0 i hi (fun k hk => ?_) hg⟩
      · exact al_add (fun _ _ => rfl) Fr.refl Fr.refl so (fun x => ⟨Or.inr, fun w => w.elim (fun w => by rw [w, ← e]; exact zgetD_mem (by omega)) id⟩) (by omega) (by omega) e50 rl (by omega) e hp
      · by_cases w : k = i - 1
        · subst w; omega
        · have := zsrt_lt so (show k < i - 1 by omega) (by omega)
          omega
  -- the seeking
  have seek : ∀ i, i ≤ L.length → (∀ k, i ≤ k → k < L.length → q < L.getD k 0) → WM k_Ref_addLine p_Ref_addLine_1 [.ref 54, .long (zL q), Jv, .int (nI i), Jv, Jv] [] (sil h f l) 0 0 (fun _ g => AlP h f l L V q pw g) := by
    intro i
    induction i with
    | zero =>
      intro hi hg
      exact v_Ref_addLine_1 _ _ _ _ _ ⟨fun c => absurd c (by decide), fun _ => two 0 hi hg (Or.inl rfl)⟩
    | succ i ih =>
      intro hi hg
      have b := lb _ (zgetD_mem (show i < L.length by omega))
      refine v_Ref_addLine_1 _ _ _ _ _ ⟨fun _ => ⟨K54, ?_⟩, fun c => absurd (by rw [nI_toI (by omega)]; omega) c⟩
      rw [R54_47, s1_nI (by omega), Nat.add_sub_cancel, ix_nI (by omega), ml_sil, (rl i (by omega)).1, lz_gt b.1 b.2 qb.1 qb.2, m1_nI (by omega), Nat.add_sub_cancel]
      refine ⟨K89, by rw [L89]; exact InB_nI (by omega) (by omega), fun c => ih (by omega) (fun k h1 h2 => ?_), fun c => two (i + 1) hi hg (Or.inr (by rw [Nat.add_sub_cancel]; omega))⟩
      by_cases e : k = i
      · subst e; exact c
      · exact hg k (by omega) h2
  refine v_Ref_addLine _ _ _ _ ⟨K54, ?_⟩
  rw [mi_sil, e50]
  exact seek L.length (Nat.le_refl _) (fun k h1 h2 => absurd h1 (by omega))
