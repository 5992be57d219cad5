/-! the class's addPair: the adding -/
def ad2 (V : Int → Nat → Int) (q : Int) (pw : Nat → Int) (q' : Int) (i : Nat) : Int := if q' = q ∧ 1 ≤ i then (if i = 1 then V q' 1 + 2 else V q' i + 2 * pw (i - 2)) else V q' i
def ApP (h : MH) (f : (Nat → Nat → Int32)) (l : (Nat → Nat → Int64)) (y : Nat) (L : List Int) (V : Int → Nat → Int) (q : Int) (pw : Nat → Int) (g : MH) : Prop := ∃ f' l' L', g = sil h f' l' ∧ Fr [y, y + 2] f f' ∧ (∀ j, j ≠ 3 → f' y j = f y j) ∧ Fr [y + 1] l l' ∧ L'.Pairwise (· < ·) ∧ (∀ x, x ∈ L' ↔ x = q ∨ x ∈ L) ∧ L'.length ≤ L.length + 1 ∧ LnR f' l' y L' (ad2 V q pw)
theorem ap_add {h : MH} {f0 f : (Nat → Nat → Int32)} {l0 l : (Nat → Nat → Int64)} {y m k : Nat} {L0 L : List Int} {V : Int → Nat → Int} {q : Int} {pw : Nat → Int} (H : SS h) (hy : 99 ≤ y) (hm : m < 7) (lk : LnK h y m) (ff : Fr [y, y + 2] f0 f) (f3 : ∀ j, j ≠ 3 → f y j = f0 y j) (fl : Fr [y + 1] l0 l) (so : L.Pairwise (· < ·)) (mem : ∀ x, x ∈ L ↔ x = q ∨ x ∈ L0) (le0 : L.length ≤ L0.length + 1) (le : L.length ≤ bN m / 2) (r : LnR f l y L V) (hk : k < L.length) (ek : L.getD k 0 = q) (hp : F4 l 48 pw) :
    WM k_Lines_addPair p_Lines_addPair_2 [.ref y, Jv, Jv, .ref 48, .int (nI k), Jv, Jv] [] (sil h f l) 0 0 (fun _ g => ApP h f0 l0 y L0 V q pw g) := by
  have hl := half_le hm
  have lks : ∀ l', LnK (sil h f l') y m := fun l' => lk.s H
  have r1 : ∀ l', mr (sil h f l') y 1 = y + 1 := fun l' => (lks l').1.2.1
  have r2 : ∀ l', mr (sil h f l') y 2 = y + 2 := fun l' => (lks l').1.2.2
  have n1 : ∀ l', ln (sil h f l') (y + 1) = 6 * (bN m / 2) := fun l' => (lks l').2.2.1
  have n2 : ∀ l', ln (sil h f l') (y + 2) = bN m / 2 := fun l' => (lks l').2.2.2.2
  have t4 : (4 : Int32).toInt = 4 := rfl
  have me : y + 1 ∈ [y + 1] := List.mem_cons_self
  obtain ⟨e3, o, o1, o2, o3⟩ := r
  have ok := o1 k hk
  have inj : ∀ j, j < L.length → j ≠ k → L.getD j 0 ≠ q := fun j hj hn e => by
    rcases Nat.lt_trichotomy j k with c | c | c
    · have := zsrt_lt so c hk; omega
    · exact hn c
    · have := zsrt_lt so c hj; omega
  have v1 := o3 k hk 1 (by decide)
  have m6 : (6 : Int32) * nI (o k) = nI (6 * o k) := nI_mul 6 _
  refine v_Lines_addPair_2 _ _ _ _ _ ⟨(lks l).1.1, ?_⟩
  rw [r1, r2, n1, n2, ix_nI (by omega), mi_sil, ok.2, m6, nI_1, ix_nI (by omega), ml_sil, v1, show (2 : Int64) = zL 2 from rfl, zL_add]
  refine ⟨(lks l).2.2.2.1, InB_nI (by omega) (by omega), (lks l).2.1, InB_nI (by omega) (by omega), ?_⟩
  rintro _ rfl
  rw [wl_sil]
  have go : ∀ d z (l1 : (Nat → Nat → Int64)), 4 - z = d → z ≤ 4 → Fr [y + 1] l l1 → (∀ j, (j < 6 * o k ∨ 6 * o k + 6 ≤ j) → l1 (y + 1) j = l (y + 1) j) → (∀ i, i < 6 → l1 (y + 1) (6 * o k + i) = zL (if i < 2 + z then ad2 V q pw q i else V q i)) →
      WM k_Lines_addPair p_Lines_addPair_3 [.ref y, Jv, Jv, .ref 48, Jv, .int (nI (6 * o k)), .int (nI z)] [] (sil h f l1) 0 0 (fun _ g => ApP h f0 l0 y L0 V q pw g) := by
    intro d
    induction d with
    | zero =>
      intro z l1 hd hz fr out inn
      have : z = 4 := by omega
      subst this
      refine v_Lines_addPair_3 _ _ _ _ _ _ ⟨fun c => absurd c (by decide), fun _ => ⟨f, l1, L, rfl, ff, f3, fl.trans fr, so, mem, le0, e3, o, o1, o2, fun j hj i hi => ?_⟩⟩
      by_cases e : j = k
      · subst e
        rw [inn i hi, if_pos (by omega), ek]
      · have ne : o j ≠ o k := fun w => e (o2 j k hj hk w)
        rw [out _ (by omega), o3 j hj i hi]
        unfold ad2
        rw [if_neg (fun c => inj j hj e c.1)]
    | succ d ih =>
      intro z l1 hd hz fr out inn
      have ze := inn (2 + z) (by omega)
      rw [if_neg (by omega)] at ze
      have e1 : nI (6 * o k) + (2 : Int32) + nI z = nI (6 * o k + (2 + z)) := by
        rw [show (2 : Int32) = nI 2 from rfl, nI_add, nI_add, Nat.add_assoc]
      refine v_Lines_addPair_3 _ _ _ _ _ _ ⟨fun _ => ⟨(lks l1).1.1, ?_⟩, fun c => absurd (by rw [nI_toI (by omega), t4]; omega) c⟩
      have n48 : 48 ∉ [y + 1] := fun w => by have := List.mem_singleton.mp w; omega
      rw [r1, n1, e1, ix_nI (a := 6 * o k + (2 + z)) (by omega), ix_nI (a := z) (by omega), ml_sil, ze, fr 48 n48, hp z (by omega), show (2 : Int64) = zL 2 from rfl, zL_mul, zL_add, nI_1]
      refine ⟨(lks l1).2.1, InB_nI (by omega) (by omega), K48, by rw [L48]; exact InB_nI (by omega) (by omega), ?_⟩
      rintro _ rfl
      rw [wl_sil]
      refine ih (z + 1) _ (by omega) (by omega) (fr.up me) (fun j hj => by rw [up2_ni (by omega)]; exact out j hj) (fun i hi => ?_)
      by_cases e : i = 2 + z
      · subst e
        rw [up2_s, if_pos (by omega)]
        unfold ad2
        rw [if_pos ⟨rfl, by omega⟩, if_neg (by omega), show 2 + z - 2 = z by omega]
      · rw [up2_ni (by omega), inn i hi]
        by_cases w : i < 2 + z
        · rw [if_pos w, if_pos (by omega)]
        · rw [if_neg w, if_neg (by omega)]
  refine go _ 0 _ rfl (Nat.zero_le _) (Fr.refl.up me) (fun j hj => by rw [up2_ni (by omega)]) (fun i hi => ?_)
  by_cases e : i = 1
  · subst e
    rw [up2_s, if_pos (by decide), ek]
    unfold ad2
    rw [if_pos ⟨rfl, by decide⟩, if_pos rfl]
  · rw [up2_ni (by omega), o3 k hk i hi, ek]
    by_cases w : i < 2 + 0
    · rw [if_pos w]
      unfold ad2
      rw [if_neg (fun c => e (by omega))]
    · rw [if_neg w]
