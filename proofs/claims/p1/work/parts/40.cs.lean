/-! what the class's own methods leave as it was: the static cells, the script, the reference's own numbers -/
def Cs (h g : MH) : Prop := SS g ∧ ln g 1 = ln h 1 ∧ mi g 1 = mi h 1 ∧ mi g 54 = mi h 54 ∧ hn h ≤ hn g ∧ ∀ a, a < hn h → kd g a = kd h a ∧ ln g a = ln h a
theorem Cs.sc {h g : MH} (c : Cs h g) : Sc h g := ⟨c.1, c.2.1, c.2.2.1⟩
theorem Cs.refl {h : MH} (H : SS h) : Cs h h := ⟨H, rfl, rfl, rfl, Nat.le_refl _, fun _ _ => ⟨rfl, rfl⟩⟩
theorem Cs.trans {h g k : MH} (a : Cs h g) (b : Cs g k) : Cs h k :=
  ⟨b.1, b.2.1.trans a.2.1, b.2.2.1.trans a.2.2.1, b.2.2.2.1.trans a.2.2.2.1, Nat.le_trans a.2.2.2.2.1 b.2.2.2.2.1, fun i hi => ⟨(b.2.2.2.2.2 i (Nat.lt_of_lt_of_le hi a.2.2.2.2.1)).1.trans (a.2.2.2.2.2 i hi).1, (b.2.2.2.2.2 i (Nat.lt_of_lt_of_le hi a.2.2.2.2.1)).2.trans (a.2.2.2.2.2 i hi).2⟩⟩
theorem Cs.k {h g : MH} (c : Cs h g) {a : Nat} (ha : a < hn h) : kd g a = kd h a := (c.2.2.2.2.2 a ha).1
theorem Cs.l {h g : MH} (c : Cs h g) {a : Nat} (ha : a < hn h) : ln g a = ln h a := (c.2.2.2.2.2 a ha).2
theorem ssR_lt : ∀ q ∈ ssR, q.1 < 99 ∧ q.1 ≠ 29 ∧ q.1 ≠ 43 ∧ q.1 ≠ 44 := by decide
theorem SS_nw {g : MH} {k n : Nat} (H : SS g) : SS (nw g k n) := by
  have h99 := H.1
  refine ⟨Nat.le_trans h99 (Nat.le_succ _), fun q hq => ?_, fun q hq => ?_, fun q hq => ?_⟩
  · rw [kd_old (by have := ssK_lt q hq; omega)]; exact H.2.1 q hq
  · rw [ln_old (by have := ssL_lt q hq; omega)]; exact H.2.2.1 q hq
  · show (if q.1 = hn g then 0 else mr g q.1 q.2.1) = _
    rw [if_neg (by have := ssR_lt q hq; omega)]; exact H.2.2.2 q hq
theorem SS_wi {g : MH} {a i : Nat} {x : Int32} (H : SS g) : SS (wi g a i x) := H
theorem SS_wl {g : MH} {a i : Nat} {x : Int64} (H : SS g) : SS (wl g a i x) := H
theorem SS_wr {g : MH} {a i x : Nat} (H : SS g) (ha : 99 ≤ a ∨ a = 29 ∨ a = 43 ∨ a = 44) : SS (wr g a i x) := by
  refine ⟨H.1, H.2.1, H.2.2.1, fun q hq => ?_⟩
  rw [mr_wr, up2_ne (by have := ssR_lt q hq; omega)]
  exact H.2.2.2 q hq
theorem Cs.nw {h g : MH} {k n : Nat} (c : Cs h g) : Cs h (nw g k n) := by
  have h99 := c.1.1
  refine ⟨SS_nw c.1, ?_, ?_, ?_, Nat.le_trans c.2.2.2.2.1 (Nat.le_succ _), fun a ha => ?_⟩
  · rw [ln_old (by omega)]; exact c.2.1
  · funext j
    show (if 1 = hn g then 0 else mi g 1 j) = _
    rw [if_neg (by omega)]; exact congrFun c.2.2.1 j
  · funext j
    show (if 54 = hn g then 0 else mi g 54 j) = _
    rw [if_neg (by omega)]; exact congrFun c.2.2.2.1 j
  · have := c.2.2.2.2.1
    rw [kd_old (by omega), ln_old (by omega)]
    exact c.2.2.2.2.2 a ha
theorem Cs.wi {h g : MH} {a i : Nat} {x : Int32} (c : Cs h g) (h1 : a ≠ 1) (h2 : a ≠ 54) : Cs h (wi g a i x) :=
  ⟨c.1, c.2.1, (up2_row (fun q => h1 q.symm)).trans c.2.2.1, (up2_row (fun q => h2 q.symm)).trans c.2.2.2.1, c.2.2.2.2⟩
theorem Cs.wl {h g : MH} {a i : Nat} {x : Int64} (c : Cs h g) : Cs h (wl g a i x) := c
theorem Cs.wr {h g : MH} {a i x : Nat} (c : Cs h g) (ha : 99 ≤ a ∨ a = 29 ∨ a = 43 ∨ a = 44) : Cs h (wr g a i x) := ⟨SS_wr c.1 ha, c.2⟩
theorem Cs.cpI {h g : MH} {s sp d dp n : Nat} (c : Cs h g) (h1 : d ≠ 1) (h2 : d ≠ 54) : Cs h (cpI g s sp d dp n) := by
  refine ⟨c.1, c.2.1, ?_, ?_, c.2.2.2.2⟩
  · funext j
    rw [mi_cpI, if_neg (fun q => h1 q.1.symm)]; exact congrFun c.2.2.1 j
  · funext j
    rw [mi_cpI, if_neg (fun q => h2 q.1.symm)]; exact congrFun c.2.2.2.1 j
theorem Cs.si {h g : MH} {f : (Nat → Nat → Int32)} (c : Cs h g) (h1 : f 1 = mi g 1) (h2 : f 54 = mi g 54) : Cs h (si g f) := ⟨c.1, c.2.1, h1.trans c.2.2.1, h2.trans c.2.2.2.1, c.2.2.2.2⟩
theorem Cs.sil {h : MH} {f : (Nat → Nat → Int32)} {l : (Nat → Nat → Int64)} (H : SS h) (h1 : f 1 = mi h 1) (h2 : f 54 = mi h 54) : Cs h (sil h f l) := by
  refine ⟨SS_sil H, rfl, h1, h2, Nat.le_refl _, fun a _ => ⟨?_, ?_⟩⟩
  · show sK (kd h) a = _
    rw [sK_eq H]
  · show sL (ln h) a = _
    rw [sL_eq H]
/-- the closure begins -/
theorem sp_Closure_begin {h : MH} {f : (Nat → Nat → Int32)} {l : (Nat → Nat → Int64)} : SpV k_Closure_begin [.ref 15] (sil h f l) (fun g => ∃ f', g = sil h f' l ∧ (∀ a, a ≠ 15 → a ≠ 16 → a ≠ 17 → a ≠ 18 → f' a = f a) ∧ f' 16 1 = nI 1 ∧ f' 17 0 = nI 227874816 ∧ f' 18 0 = nI 227874816 ∧ f' 15 3 = nI 0) := by
  refine v_Closure_begin _ _ _ ⟨K15, ?_⟩
  rw [R15_0]
  refine ⟨K16, v_Row_clear _ _ _ ⟨K16, ?_⟩⟩
  rintro _ rfl
  rw [wi_sil, R15_0]
  have e0 : ∀ x : Nat, x = 0 → nI x = (0 : Int32) := fun x e => by rw [e]; rfl
  refine ⟨K15, K16, SpI.mono (sp_Row_put (n := 0) (f := fun _ => 0) (227874816 : Int32) ⟨K16, K17, ?_, Nat.zero_le _, Nat.zero_le _, fun i hi => absurd hi (Nat.not_lt_zero i), fun i j _ hj => absurd hj (Nat.not_lt_zero j)⟩ (by rw [R16_0]; decide) (by rw [R16_0, L17]; decide)) ?_⟩
  · rw [mi_sil, up2_s]; rfl
  · rw [R16_0, L17]
    rintro r g (⟨_, _, k, hk, _⟩ | ⟨_, (⟨_, _, hc⟩ | ⟨rfl, _, k, hk, _, _, f2, rfl, h1, h2⟩)⟩)
    · exact absurd hk (Nat.not_lt_zero k)
    · exact absurd hc (by decide)
    · rw [R16_0] at h1
      rw [si_sil] at h2
      rw [si_sil, R15_1]
      obtain ⟨_, _, q1, _, _, q2, _⟩ := h2
      rw [R16_0, mi_sil] at q2
      rw [mi_sil] at q1
      have k0 : k = 0 := by omega
      refine ⟨K15, K18, InB_nI (a := 0) (show 0 < 192 by decide) (by decide), ?_⟩
      rintro _ rfl
      rintro _ rfl
      rw [wi_sil, wi_sil]
      refine ⟨_, rfl, fun a a1 a2 a3 a4 => ?_, ?_, ?_, ?_, ?_⟩
      · rw [up2_row a1, up2_row a4, h1 a a2 a3, mi_sil, up2_row a2]
      · rw [up2_row (by decide), up2_row (by decide)]; exact q1
      · rw [up2_row (by decide), up2_row (by decide)]
        have := q2 0 (by decide)
        rw [k0] at this
        exact hb_eq (by rw [this]; decide)
      · rw [up2_row (by decide)]
        exact up2_s
      · exact up2_s
