/-! the class gathers lines: one place of the box -/
theorem sp_isZero {h : MH} {f : (Nat → Nat → Int32)} {l : (Nat → Nat → Int64)} {t : Nat} {P : List Pl} {v : V3} (ok : okP t P) (hp : F4 l 48 (pwA P v)) : SpI k_Wave_isZero [.ref 45] (sil h f l) (fun r g => g = sil h f l ∧ ((r = 1 ∧ pwA P v 0 = 0) ∨ (r = 0 ∧ pwA P v 0 ≠ 0))) := by
  have b := pw_ab (v := v) ok 0
  have bl := b.lo; have bh := b.hi
  refine v_Wave_isZero _ _ _ ⟨K45, ?_⟩
  rw [R45_2, show ix (0 : Int32) = 0 from rfl, ml_sil, hp 0 (by decide), show (0 : Int64) = zL 0 from rfl, lz_eq (by omega) (by omega) (by omega) (by omega), L48]
  exact ⟨K48, InB_nI (a := 0) (by decide) (by decide), fun c => ⟨_, rfl, rfl, Or.inl ⟨rfl, c⟩⟩, fun c => ⟨_, rfl, rfl, Or.inr ⟨rfl, c⟩⟩⟩
def V2 (s : S6) (P : List Pl) (m n : Nat) (q : Int) (i : Nat) : Int := if i = 0 then q else 2 * lnV s P m (bN m / 2 + 1) n q i
def HSt (f : (Nat → Nat → Int32)) (l : (Nat → Nat → Int64)) (s : S6) (P : List Pl) (m y : Nat) (f1 : (Nat → Nat → Int32)) (l1 : (Nat → Nat → Int64)) (n : Nat) : Prop := ∃ L, Fr [y, y + 2, 49] f f1 ∧ (∀ j, j ≠ 3 → f1 y j = f y j) ∧ Fr [y + 1, 46, 47, 48] l l1 ∧ LinL s P m (bN m / 2 + 1) n L ∧ L.length + (bN m / 2 + 1) ≤ n ∧ LnR f1 l1 y L (V2 s P m n)
theorem V2_no {s : S6} {P : List Pl} {m n i : Nat} {q : Int} (h : ¬ (bN m / 2 + 1 ≤ n ∧ lnC P m n ∧ lnQ s m n = q)) : V2 s P m (n + 1) q i = V2 s P m n q i := by
  unfold V2
  rw [lnV_no h]
theorem V2_ad {s : S6} {P : List Pl} {m n i : Nat} {q : Int} (ha : bN m / 2 + 1 ≤ n) (hc : lnC P m n) : ad2 (V2 s P m n) (lnQ s m n) (pwA P (bx m n)) q i = V2 s P m (n + 1) q i := by
  unfold ad2
  by_cases i0 : i = 0
  · subst i0
    rw [if_neg (fun c => absurd c.2 (by decide))]
    rfl
  · by_cases e : q = lnQ s m n
    · rw [if_pos ⟨e, by omega⟩]
      unfold V2
      have c : bN m / 2 + 1 ≤ n ∧ lnC P m n ∧ lnQ s m n = q := ⟨ha, hc, e.symm⟩
      by_cases o : i = 1
      · subst o
        rw [if_pos rfl, lnV_s (by decide)]
        simp only [if_pos c]
        simp
        omega
      · rw [if_neg o, if_neg i0, if_neg i0, lnV_s (by omega)]
        simp only [if_pos c, if_neg o]
        omega
    · rw [if_neg (fun c => e c.1), V2_no (fun c => e c.2.2.symm)]
theorem LnR.ext {f : (Nat → Nat → Int32)} {l : (Nat → Nat → Int64)} {y : Nat} {L : List Int} {V V' : Int → Nat → Int} (r : LnR f l y L V) (e : ∀ q i, V q i = V' q i) : LnR f l y L V' := by
  obtain ⟨a, o, b, c, d⟩ := r
  exact ⟨a, o, b, c, fun k hk i hi => by rw [← e]; exact d k hk i hi⟩
theorem LnR.fr {f f' : (Nat → Nat → Int32)} {l l' : (Nat → Nat → Int64)} {y : Nat} {L : List Int} {V : Int → Nat → Int} (r : LnR f l y L V) (e1 : f' y = f y) (e2 : f' (y + 2) = f (y + 2)) (e3 : l' (y + 1) = l (y + 1)) : LnR f' l' y L V := by
  unfold LnR at *
  rw [e1, e2, e3]
  exact r
