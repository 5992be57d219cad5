/-! the reference's addLine: a new row, the shift, the seeking -/
def RwE (f : (Nat → Nat → Int32)) (l : (Nat → Nat → Int64)) (k : Nat) (f0 : (Nat → Nat → Int32)) (l0 : (Nat → Nat → Int64)) (k' : Nat) : Prop := l 89 k = l0 89 k' ∧ f 90 k = f0 90 k' ∧ ∀ z, z < 4 → l 91 (4 * k + z) = l0 91 (4 * k' + z)
theorem ins_srt {L : List Int} {i : Nat} {q : Int} (so : L.Pairwise (· < ·)) (hi : i ≤ L.length) (lo : ∀ k, k < i → L.getD k 0 < q) (hg : ∀ k, i ≤ k → k < L.length → q < L.getD k 0) : (zS (insF (fun j => L.getD j 0) i q) (L.length + 1)).Pairwise (· < ·) := by
  refine zS_srt (fun a b hab hb => ?_)
  by_cases a1 : a < i
  · rw [insF_lt a1]
    by_cases b1 : b < i
    · rw [insF_lt b1]; exact zsrt_lt so hab (by omega)
    · by_cases b2 : b = i
      · subst b2; rw [insF_eq]; exact lo a a1
      · rw [insF_gt (by omega)]
        have := lo a a1
        have := hg (b - 1) (by omega) (by omega)
        omega
  · by_cases a2 : a = i
    · subst a2
      rw [insF_eq, insF_gt (by omega)]
      exact hg (b - 1) (by omega) (by omega)
    · rw [insF_gt (by omega), insF_gt (by omega)]
      exact zsrt_lt so (by omega) (by omega)
theorem al_new {h : MH} {f0 f : (Nat → Nat → Int32)} {l0 l : (Nat → Nat → Int64)} {L : List Int} {V : Int → Nat → Int} {q : Int} {pw : Nat → Int} {i : Nat} (f54 : ∀ j, f 54 j = f0 54 j) (ff : Fr [54, 90] f0 f) (fl : Fr [89, 91] l0 l) (so : L.Pairwise (· < ·)) (l22 : L.length < 2200) (e50 : f0 54 50 = nI L.length) (rl : RLn f0 l0 L V) (hi : i ≤ L.length) (lo : ∀ k, k < i → L.getD k 0 < q) (hg : ∀ k, i ≤ k → k < L.length → q < L.getD k 0) (nv : ∀ j, 1 ≤ j → V q j = 0) (hp : ∀ z, z < 4 → l0 88 (8 + z) = zL (pw z)) (r1 : ∀ k, k < i → RwE f l k f0 l0 k) (r2 : ∀ k, i < k → k ≤ L.length → RwE f l k f0 l0 (k - 1)) :
    WM k_Ref_addLine p_Ref_addLine_3 [.ref 54, .long (zL q), Jv, .int (nI i), .int (nI i), Jv] [] (sil h f l) 0 0 (fun _ g => AlP h f0 l0 L V q pw g) := by
  have t4 : (4 : Int32).toInt = 4 := rfl
  refine v_Ref_addLine_3 _ _ _ _ _ _ ⟨fun c => absurd c (by omega), fun _ => ⟨K54, ?_⟩⟩
  rw [R54_47, R54_48, ix_nI (by omega)]
  refine ⟨K89, by rw [L89]; exact InB_nI (by omega) (by omega), ?_⟩
  rintro _ rfl
  refine ⟨K90, by rw [L90]; exact InB_nI (by omega) (by omega), ?_⟩
  rintro _ rfl
  rw [wl_sil, wi_sil]
  have go : ∀ d z (l1 : (Nat → Nat → Int64)), 4 - z = d → z ≤ 4 → Fr [91] (up2 l 89 i (zL q)) l1 → (∀ j, (j < 4 * i ∨ 4 * i + 4 ≤ j) → l1 91 j = l 91 j) → (∀ y, y < z → l1 91 (4 * i + y) = zL 0) →
      WM k_Ref_addLine p_Ref_addLine_5 [.ref 54, Jv, Jv, .int (nI i), .int (nI z), Jv] [] (sil h (up2 f 90 i 0) l1) 0 0 (fun _ g => AlP h f0 l0 L V q pw g) := by
    intro d
    induction d with
    | zero =>
      intro z l1 hd hz fr o n
      have : z = 4 := by omega
      subst this
      refine v_Ref_addLine_5 _ _ _ _ _ ⟨fun c => absurd c (by decide), fun _ => ⟨K54, ?_⟩⟩
      rw [mi_sil, up2_ne (by decide), f54, e50, nI_1]
      rintro _ rfl
      rw [wi_sil]
      have len : (zS (insF (fun j => L.getD j 0) i q) (L.length + 1)).length = L.length + 1 := zS_len _ _
      have gi : (zS (insF (fun j => L.getD j 0) i q) (L.length + 1)).getD i 0 = q := by rw [zS_getD (by omega), insF_eq]
      refine al_add (L := zS (insF (fun j => L.getD j 0) i q) (L.length + 1)) (fun j hj => by rw [up2_ni hj, up2_ne (by decide), f54]) ((ff.up (by decide)).up (by decide)) ((fl.up (by decide)).trans (fr.mono (by decide))) (ins_srt so hi lo hg) (fun x => ?_) (by omega) (by omega) (by rw [up2_s, len]) (fun k hk => ?_) (by omega) gi (fun z hz => by rw [fr 88 (by decide), up2_row (by decide), fl 88 (by decide)]; exact hp z hz)
      · rw [zS_mem, insF_mem hi]
        refine ⟨fun c => ?_, fun c => ?_⟩
        · rcases c with c | ⟨j, hj, e⟩
          · exact Or.inl c
          · exact Or.inr (by rw [← e]; exact zgetD_mem hj)
        · rcases c with c | c
          · exact Or.inl c
          · exact Or.inr (zmem_getD c)
      · rw [len] at hk
        rw [zS_getD hk, fr 89 (by decide), up2_row (show 90 ≠ 54 by decide)]
        rcases Nat.lt_trichotomy k i with c | c | c
        · obtain ⟨a1, a2, a3⟩ := r1 k c
          obtain ⟨b1, b2, b3⟩ := rl k (by omega)
          rw [insF_lt c]
          exact ⟨by rw [up2_ni (by omega), a1]; exact b1, by rw [up2_ni (by omega), a2]; exact b2, fun y hy => by rw [o _ (by omega), a3 y hy]; exact b3 y hy⟩
        · subst c
          rw [insF_eq]
          exact ⟨up2_s, by rw [up2_s, nv 1 (by decide)]; rfl, fun y hy => by rw [n y hy, nv _ (by omega)]⟩
        · obtain ⟨a1, a2, a3⟩ := r2 k c (by omega)
          obtain ⟨b1, b2, b3⟩ := rl (k - 1) (by omega)
          rw [insF_gt c]
          exact ⟨by rw [up2_ni (by omega), a1]; exact b1, by rw [up2_ni (by omega), a2]; exact b2, fun y hy => by rw [o _ (by omega), a3 y hy]; exact b3 y hy⟩
    | succ d ih =>
      intro z l1 hd hz fr o n
      refine v_Ref_addLine_5 _ _ _ _ _ ⟨fun _ => ⟨K54, ?_⟩, fun c => absurd (by rw [nI_toI (by omega), t4]; omega) c⟩
      rw [R54_49, show (4 : Int32) = nI 4 from rfl, nI_mul, nI_add, ix_nI (by omega), nI_1]
      refine ⟨K91, by rw [L91]; exact InB_nI (by omega) (by omega), ?_⟩
      rintro _ rfl
      rw [wl_sil]
      refine ih (z + 1) _ (by omega) (by omega) (fr.up (by decide)) (fun j hj => by rw [up2_ni (by omega)]; exact o j hj) (fun y hy => ?_)
      by_cases e : y = z
      · subst e; rw [up2_s]; rfl
      · rw [up2_ni (by omega)]; exact n y (by omega)
  exact go _ 0 _ rfl (Nat.zero_le _) Fr.refl (fun j _ => by rw [up2_ne (by decide)]) (fun y hy => absurd hy (Nat.not_lt_zero y))
