/-! the class's waves: heaps -/
def CosAt (f : (Nat → Nat → Int32)) : Prop := ∀ j, j < 96 → f 3 j = zI (csT.getD j 0)
theorem cs_ab : ∀ j, j < 96 → -4 ≤ csT.getD j 0 ∧ csT.getD j 0 ≤ 4 := by decide
theorem sp_fill4 {h : MH} {f : (Nat → Nat → Int32)} {l : (Nat → Nat → Int64)} {a : Nat} (ka : ∀ l', kd (sil h f l') a = 21) (la : ∀ l', ln (sil h f l') a = 4) : SpV k_Arrays_fillaJJ [.ref a, .long 0] (sil h f l) (fun g => ∃ l', g = sil h f l' ∧ Fr [a] l l' ∧ ∀ i, i < 4 → l' a i = zL 0) := by
  have t4 : (Int32.ofNat 4).toInt = 4 := rfl
  have go : ∀ d i (l1 : (Nat → Nat → Int64)), 4 - i = d → i ≤ 4 → Fr [a] l l1 → (∀ j, j < i → l1 a j = zL 0) → WM k_Arrays_fillaJJ p_Arrays_fillaJJ_1 [.ref a, .long 0, Jv, .int (nI i), .int (Int32.ofNat 4)] [] (sil h f l1) 0 0 (fun _ g => ∃ l', g = sil h f l' ∧ Fr [a] l l' ∧ ∀ i, i < 4 → l' a i = zL 0) := by
    intro d
    induction d with
    | zero =>
      intro i l1 hd hi fr z
      have : i = 4 := by omega
      subst this
      exact v_Arrays_fillaJJ_1 _ _ _ _ _ _ ⟨fun q => absurd q (by decide), fun _ => ⟨l1, rfl, fr, z⟩⟩
    | succ d ih =>
      intro i l1 hd hi fr z
      refine v_Arrays_fillaJJ_1 _ _ _ _ _ _ ⟨fun _ => ⟨ka _, by rw [la]; exact InB_nI (by omega) (by omega), ?_⟩, fun q => absurd (by rw [nI_toI (by omega), t4]; omega) q⟩
      rw [ix_nI (by omega), nI_1]
      rintro _ rfl
      rw [wl_sil]
      refine ih (i + 1) _ (by omega) (by omega) (fr.up List.mem_cons_self) (fun j hj => ?_)
      by_cases e : j = i
      · subst e; rw [up2_s]; rfl
      · rw [up2_ni e]; exact z j (by omega)
  refine v_Arrays_fillaJJ _ _ _ _ ⟨ka _, ?_⟩
  rw [la]
  exact go _ 0 l rfl (Nat.zero_le _) Fr.refl (fun j hj => absurd hj (Nat.not_lt_zero j))
def hpF (hp : Nat → Int) (ah i u : Nat) : Int := hp u * csT.getD (4 * ((u + ah) % 24) + i) 0
theorem sp_addHeaps {h : MH} {f : (Nat → Nat → Int32)} {l : (Nat → Nat → Int64)} {a ah : Nat} {hp : Nat → Int} (ka : ∀ l', kd (sil h f l') a = 21) (la : ∀ l', ln (sil h f l') a = 4) (hc : CosAt f) (hh : ∀ u, u < 24 → f 49 u = zI (hp u)) (hb : ∀ u, u < 24 → Ab (hp u) 30000) (ha : ah ≤ 18) :
    SpV k_Wave_addHeaps [.ref 45, .ref a, .int (nI ah)] (sil h f l) (fun g => ∃ l', g = sil h f l' ∧ Fr [a] l l' ∧ ∀ i, i < 4 → l' a i = zL (sZ (hpF hp ah i) 24)) := by
  have t24 : (24 : Int32).toInt = 24 := rfl
  have t4 : (4 : Int32).toInt = 4 := rfl
  have m : a ∈ [a] := List.mem_cons_self
  refine v_Wave_addHeaps _ _ _ _ _ (SpV.mono (sp_fill4 ka la) ?_)
  rintro _ ⟨l0, rfl, fr0, z0⟩
  have go : ∀ d u (l1 : (Nat → Nat → Int64)), 24 - u = d → u ≤ 24 → Fr [a] l l1 → (∀ i, i < 4 → l1 a i = zL (sZ (hpF hp ah i) u)) → WM k_Wave_addHeaps p_Wave_addHeaps_1 [.ref 45, .ref a, .int (nI ah), .int (nI u), Jv, Jv, Jv, Jv] [] (sil h f l1) 0 0 (fun _ g => ∃ l', g = sil h f l' ∧ Fr [a] l l' ∧ ∀ i, i < 4 → l' a i = zL (sZ (hpF hp ah i) 24)) := by
    intro d
    induction d with
    | zero =>
      intro u l1 hd hu fr z
      have : u = 24 := by omega
      subst this
      exact v_Wave_addHeaps_1 _ _ _ _ _ _ ⟨fun q => absurd q (by decide), fun _ => ⟨l1, rfl, fr, z⟩⟩
    | succ d ih =>
      intro u l1 hd hu fr z
      have ul : u < 24 := by omega
      have b := hb u ul
      have bl := b.lo; have bh := b.hi
      refine v_Wave_addHeaps_1 _ _ _ _ _ _ ⟨fun _ => ⟨K45, ?_⟩, fun q => absurd (by rw [nI_toI (by omega), t24]; omega) q⟩
      rw [R45_3, mi_sil, ix_nI (by omega), hh u ul, i2l_zI (by omega) (by omega), show (0 : Int64) = zL 0 from rfl, lz_eq (by omega) (by omega) (by omega) (by omega), nI_add, show (24 : Int32) = nI 24 from rfl, irm_nI (by omega) (by decide) (by decide), show (4 : Int32) = nI 4 from rfl, nI_mul, nI_1]
      refine ⟨K49, by rw [L49]; exact InB_nI (by omega) (by omega), fun c => ih (u + 1) l1 (by omega) (by omega) fr (fun i hi => ?_), fun c => ?_⟩
      · rw [z i hi]
        show _ = zL (sZ (hpF hp ah i) u + hpF hp ah i u)
        unfold hpF
        rw [c, Int.zero_mul, Int.add_zero]
      · have inn : ∀ d' k (l2 : (Nat → Nat → Int64)), 4 - k = d' → k ≤ 4 → Fr [a] l l2 → (∀ i, i < 4 → l2 a i = zL (sZ (hpF hp ah i) (if i < k then u + 1 else u))) → WM k_Wave_addHeaps p_Wave_addHeaps_2 [.ref 45, .ref a, .int (nI ah), .int (nI u), .long (zL (hp u)), Jv, .int (nI (4 * ((u + ah) % 24))), .int (nI k)] [] (sil h f l2) 0 0 (fun _ g => ∃ l', g = sil h f l' ∧ Fr [a] l l' ∧ ∀ i, i < 4 → l' a i = zL (sZ (hpF hp ah i) 24)) := by
          intro d'
          induction d' with
          | zero =>
            intro k l2 hd' hk fr2 z2
            have : k = 4 := by omega
            subst this
            refine v_Wave_addHeaps_2 _ _ _ _ _ _ _ _ _ ⟨fun q => absurd q (by decide), fun _ => ?_⟩
            rw [nI_1]
            refine ih (u + 1) l2 (by omega) (by omega) fr2 (fun i hi => ?_)
            rw [z2 i hi, if_pos hi]
          | succ d' ih' =>
            intro k l2 hd' hk fr2 z2
            have kl : k < 4 := by omega
            have cb := cs_ab (4 * ((u + ah) % 24) + k) (by omega)
            refine v_Wave_addHeaps_2 _ _ _ _ _ _ _ _ _ ⟨fun _ => ⟨ka _, by rw [la]; exact InB_nI (by omega) (by omega), K3, ?_⟩, fun q => absurd (by rw [nI_toI (by omega), t4]; omega) q⟩
            rw [nI_add, ix_nI (a := k) (by omega), ix_nI (a := 4 * ((u + ah) % 24) + k) (by omega), mi_sil, ml_sil, hc _ (by omega), i2l_zI (by omega) (by omega), z2 k kl, if_neg (by omega), zL_mul, zL_add, nI_1]
            refine ⟨by rw [L3]; exact InB_nI (by omega) (by omega), ?_⟩
            rintro _ rfl
            rw [wl_sil]
            refine ih' (k + 1) _ (by omega) (by omega) (fr2.up m) (fun i hi => ?_)
            by_cases e : i = k
            · subst e
              rw [up2_s, if_pos (by omega)]
              rfl
            · rw [up2_ni e, z2 i hi]
              by_cases w : i < k
              · rw [if_pos w, if_pos (by omega)]
              · rw [if_neg w, if_neg (by omega)]
        exact inn _ 0 l1 rfl (Nat.zero_le _) fr (fun i hi => by rw [if_neg (by omega)]; exact z i hi)
  exact go _ 0 l0 rfl (Nat.zero_le _) fr0 (fun i hi => by rw [z0 i hi]; rfl)
/-- the heaps -/
def hpN (P : List Pl) (v : V3) (n u : Nat) : Int := sZ (fun k => if (tn (P.getD k zp).1 v).toNat = u then (P.getD k zp).2.1 else 0) n
theorem sZ_add {F G : Nat → Int} (n : Nat) : sZ (fun u => F u + G u) n = sZ F n + sZ G n := by
  induction n with
  | zero => rfl
  | succ n ih =>
    show sZ (fun u => F u + G u) n + (F n + G n) = (sZ F n + F n) + (sZ G n + G n)
    rw [ih]; omega
theorem sZ_ext {F G : Nat → Int} {n : Nat} (h : ∀ u, u < n → F u = G u) : sZ F n = sZ G n := by
  induction n with
  | zero => rfl
  | succ n ih =>
    show sZ F n + F n = sZ G n + G n
    rw [ih (fun u hu => h u (by omega)), h n (by omega)]
theorem hp_sum {P : List Pl} {v : V3} {ah i : Nat} (n : Nat) : sZ (hpF (hpN P v n) ah i) 24 = sZ (wvF P v ah i) n := by
  induction n with
  | zero => exact sZ_0 (fun j _ => Int.zero_mul _)
  | succ n ih =>
    show _ = sZ (wvF P v ah i) n + wvF P v ah i n
    rw [← ih]
    have t := tn_lt (P.getD n zp).1 v
    have e : ∀ u, hpF (hpN P v (n + 1)) ah i u = hpF (hpN P v n) ah i u + (if (tn (P.getD n zp).1 v).toNat = u then (P.getD n zp).2.1 else 0) * csT.getD (4 * ((u + ah) % 24) + i) 0 := fun u => Int.add_mul _ _ _
    rw [sZ_ext (fun u _ => e u), sZ_add, sZ_1 (F := fun u => (if (tn (P.getD n zp).1 v).toNat = u then (P.getD n zp).2.1 else 0) * csT.getD (4 * ((u + ah) % 24) + i) 0) t (fun j _ hn => by rw [if_neg (fun q => hn q.symm), Int.zero_mul])]
    unfold wvF
    rw [if_pos rfl]
theorem hp_ab {t : Nat} {P : List Pl} {v : V3} (ok : okP t P) (u : Nat) : ∀ n, n ≤ P.length → Ab (hpN P v n u) (99 * n) := by
  intro n
  induction n with
  | zero => intro _; exact Ab.of (show -((99 * 0 : Nat) : Int) ≤ 0 by omega) (show (0 : Int) ≤ ((99 * 0 : Nat) : Int) by omega)
  | succ n ih =>
    intro hn
    have a := ih (by omega)
    have al := a.lo; have ah := a.hi
    have o := ok.2.1 _ (pD_mem (show n < P.length by omega))
    show Ab (hpN P v n u + (if (tn (P.getD n zp).1 v).toNat = u then (P.getD n zp).2.1 else 0)) (99 * (n + 1))
    by_cases c : (tn (P.getD n zp).1 v).toNat = u
    · rw [if_pos c]; exact Ab.of (by omega) (by omega)
    · rw [if_neg c]; exact Ab.of (by omega) (by omega)
