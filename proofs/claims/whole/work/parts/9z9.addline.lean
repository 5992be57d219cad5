/-! the reference's addLine -/
def RLn (f : (Nat → Nat → Int32)) (l : (Nat → Nat → Int64)) (L : List Int) (V : Int → Nat → Int) : Prop := ∀ k, k < L.length → l 89 k = zL (L.getD k 0) ∧ f 90 k = zI (V (L.getD k 0) 1) ∧ ∀ z, z < 4 → l 91 (4 * k + z) = zL (V (L.getD k 0) (2 + z))
def adV (V : Int → Nat → Int) (q : Int) (pw : Nat → Int) (q' : Int) (i : Nat) : Int := if q' = q then (if i = 1 then V q' 1 + 1 else V q' i + pw (i - 2)) else V q' i
def AlP (h : MH) (f : (Nat → Nat → Int32)) (l : (Nat → Nat → Int64)) (L : List Int) (V : Int → Nat → Int) (q : Int) (pw : Nat → Int) (g : MH) : Prop := ∃ f' l' L', g = sil h f' l' ∧ Fr [54, 90] f f' ∧ (∀ j, j ≠ 50 → f' 54 j = f 54 j) ∧ Fr [89, 91] l l' ∧ L'.Pairwise (· < ·) ∧ (∀ x, x ∈ L' ↔ x = q ∨ x ∈ L) ∧ L'.length ≤ L.length + 1 ∧ f' 54 50 = nI L'.length ∧ RLn f' l' L' (adV V q pw)
/-- the adding itself, at row i -/
theorem al_add {h : MH} {f0 f : (Nat → Nat → Int32)} {l0 l : (Nat → Nat → Int64)} {L0 L : List Int} {V : Int → Nat → Int} {q : Int} {pw : Nat → Int} {i : Nat} (f54 : ∀ j, j ≠ 50 → f 54 j = f0 54 j) (ff : Fr [54, 90] f0 f) (fl : Fr [89, 91] l0 l) (so : L.Pairwise (· < ·)) (mem : ∀ x, x ∈ L ↔ x = q ∨ x ∈ L0) (le : L.length ≤ L0.length + 1) (l22 : L.length ≤ 2200) (e50 : f 54 50 = nI L.length) (rl : RLn f l L V) (hi : i < L.length) (ei : L.getD i 0 = q) (hp : ∀ z, z < 4 → l 88 (8 + z) = zL (pw z)) :
    WM k_Ref_addLine p_Ref_addLine_6 [.ref 54, Jv, Jv, .int (nI i), Jv, Jv] [] (sil h f l) 0 0 (fun _ g => AlP h f0 l0 L0 V q pw g) := by
  have inj : ∀ k, k < L.length → k ≠ i → L.getD k 0 ≠ q := fun k hk hn e => by
    rcases Nat.lt_trichotomy k i with c | c | c
    · have := zsrt_lt so c hi; omega
    · exact hn c
    · have := zsrt_lt so c hk; omega
  have t4 : (4 : Int32).toInt = 4 := rfl
  refine v_Ref_addLine_6 _ _ _ _ ⟨K54, ?_⟩
  rw [R54_48, mi_sil, ix_nI (by omega), (rl i hi).2.1]
  refine ⟨K90, by rw [L90]; exact InB_nI (by omega) (by omega), ?_⟩
  rintro _ rfl
  rw [wi_sil, show (1 : Int32) = zI 1 from rfl, zI_add]
  have go : ∀ d z (l1 : (Nat → Nat → Int64)), 4 - z = d → z ≤ 4 → Fr [91] l l1 → (∀ j, (j < 4 * i ∨ 4 * i + z ≤ j) → l1 91 j = l 91 j) → (∀ y, y < z → l1 91 (4 * i + y) = zL (V q (2 + y) + pw y)) →
      WM k_Ref_addLine p_Ref_addLine_7 [.ref 54, Jv, Jv, .int (nI i), .int (nI z), Jv] [] (sil h (up2 f 90 i (zI (V (L.getD i 0) 1 + 1))) l1) 0 0 (fun _ g => AlP h f0 l0 L0 V q pw g) := by
    intro d
    induction d with
    | zero =>
      intro z l1 hd hz fr o n
      have : z = 4 := by omega
      subst this
      refine v_Ref_addLine_7 _ _ _ _ _ ⟨fun c => absurd c (by decide), fun _ => ?_⟩
      refine ⟨_, l1, L, rfl, ff.up (by decide), fun j hj => by rw [up2_ne (by decide)]; exact f54 j hj, fl.trans (fr.mono (by decide)), so, mem, le, by rw [up2_ne (by decide)]; exact e50, fun k hk => ?_⟩
      obtain ⟨r1, r2, r3⟩ := rl k hk
      rw [fr 89 (by decide)]
      by_cases e : k = i
      · subst e
        refine ⟨r1, ?_, fun y hy => ?_⟩
        · rw [up2_s]
          unfold adV
          rw [if_pos ei, if_pos rfl]
        · rw [n y hy]
          unfold adV
          rw [if_pos ei, if_neg (by omega), ei, show 2 + y - 2 = y by omega]
      · have nq := inj k hk e
        refine ⟨r1, ?_, fun y hy => ?_⟩
        · rw [up2_ni e]
          unfold adV
          rw [if_neg nq]; exact r2
        · rw [o _ (by omega)]
          unfold adV
          rw [if_neg nq]; exact r3 y hy
    | succ d ih =>
      intro z l1 hd hz fr o n
      refine v_Ref_addLine_7 _ _ _ _ _ ⟨fun _ => ⟨K54, ?_⟩, fun c => absurd (by rw [nI_toI (by omega), t4]; omega) c⟩
      rw [R54_49, R54_46, show (4 : Int32) = nI 4 from rfl, nI_mul, nI_add, show (8 : Int32) = nI 8 from rfl, nI_add, ix_nI (by omega), ix_nI (by omega), ml_sil, o _ (by omega), (rl i hi).2.2 z (by omega), fr 88 (by decide), hp z (by omega), zL_add, nI_1]
      refine ⟨K91, by rw [L91]; exact InB_nI (by omega) (by omega), K88, by rw [L88]; exact InB_nI (by omega) (by omega), ?_⟩
      rintro _ rfl
      rw [wl_sil]
      refine ih (z + 1) _ (by omega) (by omega) (fr.up (by decide)) (fun j hj => by rw [up2_ni (by omega)]; exact o j (by omega)) (fun y hy => ?_)
      by_cases e : y = z
      · subst e; rw [up2_s, ei]
      · rw [up2_ni (by omega)]; exact n y (by omega)
  exact go _ 0 l rfl (Nat.zero_le _) Fr.refl (fun _ _ => rfl) (fun y hy => absurd hy (Nat.not_lt_zero y))
