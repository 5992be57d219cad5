/-! atom in the reference -/
def RPl (f : (Nat → Nat → Int32)) (m : Nat) (P : List Pl) : Prop := ∀ i, i < P.length → f 85 (300 * m + i) = nI (P.getD i zp).1 ∧ f 86 (300 * m + i) = zI (P.getD i zp).2.1 ∧ f 87 (300 * m + i) = nI (P.getD i zp).2.2
def RtAIds : List Nat := [54, 57, 58, 74, 83, 84, 85, 86, 87]
def RAtP (h : MH) (f : (Nat → Nat → Int32)) (l : (Nat → Nat → Int64)) (MS : List Mdl) (m : Nat) (M : Mdl) (g : MH) : Prop := ∃ f', g = sil h f' l ∧ Fr RtAIds f f' ∧ (∀ j, j ≠ 51 → f' 54 j = f 54 j) ∧ ((f 54 51 = nI m ∧ f' 54 51 = -1) ∨ (f 54 51 ≠ nI m ∧ f' 54 51 = f 54 51)) ∧ RMdl f' (MS.set m M)
def RaI (f0 f : (Nat → Nat → Int32)) (m : Nat) (P : List Pl) : Prop := Fr [84, 85, 86, 87] f0 f ∧ f 84 m = nI P.length ∧ (∀ j, j ≠ m → f 84 j = f0 84 j) ∧ (∀ q, (q < 300 * m ∨ 300 * m + 300 ≤ q) → f 85 q = f0 85 q ∧ f 86 q = f0 86 q ∧ f 87 q = f0 87 q) ∧ RPl f m P
theorem RaI.mdl {f0 f f' : (Nat → Nat → Int32)} {m : Nat} {MS : List Mdl} {M : Mdl} (hm : RMdl f0 MS) (okl : ∀ j, j < MS.length → (MS.getD j zM).2.2.2.length ≤ 300) (hi : m < MS.length) (r : RaI f0 f m M.2.2.2) (e45 : f' 54 45 = f0 54 45) (fr : Fr [54, 83] f f') (e83 : ∀ j, j ≠ m → f' 83 j = f 83 j) (m83 : f' 83 m = nI M.2.2.1) (e1 : M.1 = (MS.getD m zM).1) (e2 : M.2.1 = (MS.getD m zM).2.1) : RMdl f' (MS.set m M) := by
  obtain ⟨h1, h2, h3, h4⟩ := hm
  obtain ⟨r1, r2, r3, r4, r5⟩ := r
  refine ⟨by rw [set_len]; exact h1, by rw [set_len, e45]; exact h2, fun j hj => ?_, fun j hj => ?_⟩
  · rw [set_get hi, fr 84 (by decide)]
    by_cases e : j = m
    · subst e; rw [if_pos rfl]; exact ⟨m83, r2⟩
    · rw [if_neg e, e83 j e, r3 j e, r1 83 (by decide)]; exact h3 j hj
  · rw [set_len] at hj
    rw [set_get hi, fr 81 (by decide), fr 82 (by decide), fr 85 (by decide), fr 86 (by decide), fr 87 (by decide), r1 81 (by decide), r1 82 (by decide)]
    by_cases e : j = m
    · subst e
      rw [if_pos rfl, e1, e2]
      have := h4 j hj
      exact ⟨this.1, this.2.1, r5⟩
    · rw [if_neg e]
      obtain ⟨a, b, c⟩ := h4 j hj
      refine ⟨a, b, fun i hi' => ?_⟩
      have := c i hi'
      have w := okl j hj
      have r4' := r4 (300 * j + i) (by omega)
      rw [r4'.1, r4'.2.1, r4'.2.2]; exact this
theorem RaI.put {f0 f : (Nat → Nat → Int32)} {m t : Nat} {w : Int} {P : List Pl} {p : Nat} (r : RaI f0 f m P) (hl : P.length < 300) : RaI f0 (up2 (up2 (up2 (up2 f 85 (300 * m + P.length) (nI p)) 86 (300 * m + P.length) (zI w)) 87 (300 * m + P.length) (nI t)) 84 m (nI (P.length + 1))) m (P ++ [(p, w, t)]) := by
  obtain ⟨r1, r2, r3, r4, r5⟩ := r
  refine ⟨(((r1.up (by decide)).up (by decide)).up (by decide)).up (by decide), by rw [up2_s, pl_len], fun j hj => ?_, fun q hq => ?_, fun i hi => ?_⟩
  · rw [up2_ni hj, up2_ne (by decide), up2_ne (by decide), up2_ne (by decide)]; exact r3 j hj
  · have := r4 q hq
    refine ⟨?_, ?_, ?_⟩
    · rw [up2_ne (by decide), up2_ne (by decide), up2_ne (by decide), up2_ni (by omega)]; exact this.1
    · rw [up2_ne (by decide), up2_ne (by decide), up2_ni (by omega), up2_ne (by decide)]; exact this.2.1
    · rw [up2_ne (by decide), up2_ni (by omega), up2_ne (by decide), up2_ne (by decide)]; exact this.2.2
  · rw [pl_len] at hi
    by_cases e : i = P.length
    · subst e
      rw [gEnd]
      refine ⟨?_, ?_, ?_⟩
      · rw [up2_ne (by decide), up2_ne (by decide), up2_ne (by decide), up2_s]
      · rw [up2_ne (by decide), up2_ne (by decide), up2_s]
      · rw [up2_ne (by decide), up2_s]
    · rw [gLeft (by omega)]
      obtain ⟨a, b, c⟩ := r5 i (by omega)
      refine ⟨?_, ?_, ?_⟩
      · rw [up2_ne (by decide), up2_ne (by decide), up2_ne (by decide), up2_ni (by omega)]; exact a
      · rw [up2_ne (by decide), up2_ne (by decide), up2_ni (by omega), up2_ne (by decide)]; exact b
      · rw [up2_ne (by decide), up2_ni (by omega), up2_ne (by decide), up2_ne (by decide)]; exact c
theorem sp_Ref_atom {h : MH} {f : (Nat → Nat → Int32)} {l : (Nat → Nat → Int64)} {GS : List (List Nat)} {nc : Nat} {MS : List Mdl} (hg : RGrp f GS) (hm : RMdl f MS) (okm : ∀ j, j < MS.length → okM GS.length nc (MS.getD j zM)) (x y z : Int32) :
    SpI k_Ref_atom [.ref 54, .int x, .int y, .int z] (sil h f l) (fun r g => (∃ m p Z, AtG GS MS x y z m p Z ∧ r = nI (adM (MS.getD m zM) y.toInt Z).2.2.2.length ∧ RAtP h f l MS m (adM (MS.getD m zM) y.toInt Z) g) ∨ ((¬ ∃ m p Z, AtG GS MS x y z m p Z) ∧ r = -1 ∧ ∃ f', g = sil h f' l ∧ Fr [57, 58, 74] f f')) := by
  have hl := hm.1
  have gl := hg.1
  have tm : (-99 : Int32).toInt = -99 := rfl
  have tp : (99 : Int32).toInt = 99 := rfl
  have ts : (13824 : Int32).toInt = 13824 := rfl
  have t30 : (30 : Int32) = nI 30 := rfl
  have t3 : (300 : Int32) = nI 300 := rfl
  have t3' : (nI 300).toInt = 300 := rfl
  refine v_Ref_atom _ _ _ _ _ _ ⟨K54, SpI.mono (sp_Ref_isModel hm x) ?_⟩
  rintro r1 _ ⟨rfl, ⟨m, hi, rfl, rfl⟩ | ⟨no, rfl⟩⟩
  rotate_left
  · exact ⟨fun _ => ⟨_, rfl, Or.inr ⟨at_no hl no, rfl, f, rfl, Fr.refl⟩⟩, fun q => absurd rfl q⟩
  obtain ⟨o1, o2, o3, o4⟩ := okm m hi
  have no : ¬ ((y ≠ 0 ∧ -99 ≤ y.toInt ∧ y.toInt ≤ 99) ∧ (0 ≤ z.toInt ∧ z.toInt < 13824) ∧ (MS.getD m zM).2.2.1 < 30) → ∃ v, Value.int (-1) = .int v ∧ ((∃ m' p Z, AtG GS MS (nI m) y z m' p Z ∧ v = nI (adM (MS.getD m' zM) y.toInt Z).2.2.2.length ∧ RAtP h f l MS m' (adM (MS.getD m' zM) y.toInt Z) (sil h f l)) ∨ ((¬ ∃ m' p Z, AtG GS MS (nI m) y z m' p Z) ∧ v = -1 ∧ ∃ f', sil h f l = sil h f' l ∧ Fr [57, 58, 74] f f')) := fun q =>
    ⟨_, rfl, Or.inr ⟨fun ⟨m', p, Z, a, b, _, d⟩ => q ⟨b, by rw [a.2.2.2, nI_toI (by have := a.2.1; omega)]; have := a.2.1; omega, by
      have e1 : m = m' := (nI_inj (by omega) (by have := a.1; omega)).mp a.2.2.1
      subst e1
      exact d.1⟩, rfl, f, rfl, Fr.refl⟩⟩
  have m3 := hm.2.2.1 m (by omega)
  have m4 := hm.2.2.2 m hi
  rw [tm, tp, ts, R54_40, R54_38, mi_sil, ix_nI (by omega), m3.1, m4.1, t30]
  refine ⟨fun q => absurd q (by decide), fun _ => ⟨K54, K83, by rw [L83]; exact InB_nI (by omega) (by omega), fun c => no (fun q => by have := (nI_inj (by omega) (by omega)).mp c; omega), fun c0 => ⟨fun c => no (fun q => by omega), fun c1 => ⟨fun c => no (fun q => by omega), fun c2 => ⟨fun c => no (fun q => q.1.1 c), fun c3 => ⟨fun c => no (fun q => by omega), fun c4 => ⟨fun c5 => ⟨K81, by rw [L81]; exact InB_nI (by omega) (by omega), ?_⟩, fun c => no (fun q => by omega)⟩⟩⟩⟩⟩⟩⟩
  clear no
  have t30' : (MS.getD m zM).2.2.1 < 30 := by
    have : (MS.getD m zM).2.2.1 ≠ 30 := fun q => c0 (by rw [q])
    omega
  obtain ⟨p, rfl, hp⟩ := op_x (n := 13824) c4 (by omega) (by omega)
  refine SpI.mono (sp_Ref_orbitOf hg o1 hp) ?_
  rintro r _ ⟨f1, Z, rfl, fr1, rfl, az, orb, lz⟩
  have rng := orb.rng
  have pL := o4.1
  have e84 : f1 84 m = nI (MS.getD m zM).2.2.2.length := by rw [fr1 84 (by decide)]; exact m3.2
  have zv : ∀ f' : (Nat → Nat → Int32), f' 74 = f1 74 → ∀ k, k < Z.length → f' 74 k = nI (Z.getD k 0).toNat := fun f' e k hk => by
    have a := az k hk
    have b := rng _ (zgetD_mem hk)
    rw [e, of_toI a, nI_zI]
    congr 1
    omega
  have zp' : ∀ k, k < Z.length → (Z.getD k 0).toNat < 13824 := fun k hk => by have := rng _ (zgetD_mem hk); omega
  have no : ¬ StOk (MS.getD m zM).2.2.1 (MS.getD m zM).2.2.2 Z → ∃ v, Value.int (-1) = .int v ∧ ((∃ m' p' Z, AtG GS MS (nI m) y (nI p) m' p' Z ∧ v = nI (adM (MS.getD m' zM) y.toInt Z).2.2.2.length ∧ RAtP h f l MS m' (adM (MS.getD m' zM) y.toInt Z) (sil h f1 l)) ∨ ((¬ ∃ m' p' Z, AtG GS MS (nI m) y (nI p) m' p' Z) ∧ v = -1 ∧ ∃ f', sil h f1 l = sil h f' l ∧ Fr [57, 58, 74] f f')) := fun st =>
    ⟨_, rfl, Or.inr ⟨fun ⟨m', p', Z', a, b, c, d⟩ => st (by
      have e1 : m = m' := (nI_inj (by omega) (by have := a.1; omega)).mp a.2.2.1
      subst e1
      have e2 : p = p' := (nI_inj (by omega) (by have := a.2.1; omega)).mp a.2.2.2
      subst e2
      rw [orb.fn c]; exact d), rfl, f1, rfl, fr1⟩⟩
  rw [R54_41, mi_sil, e84, nI_add, nI_toI (by omega), t3, t3']
  refine ⟨K54, K84, by rw [L84]; exact InB_nI (by omega) (by omega), fun c => no (fun q => by have := q.2.1; omega), fun c6 => ?_⟩
  have e54 : f1 54 = f 54 := fr1 54 (by decide)
  -- the placing
  have put : StOk (MS.getD m zM).2.2.1 (MS.getD m zM).2.2.2 Z → ∀ d k (f2 : (Nat → Nat → Int32)), Z.length - k = d → k ≤ Z.length → RaI f1 f2 m ((MS.getD m zM).2.2.2 ++ adT (MS.getD m zM).2.2.1 y.toInt (Z.take k)) →
      WM k_Ref_atom p_Ref_atom_3 [.ref 54, .int (nI m), .int y, Jv, .int (nI Z.length), .int (nI k), Jv] [] (sil h f2 l) 0 0 (fun v g => ∃ r, v = .int r ∧ ((∃ m' p' Z, AtG GS MS (nI m) y (nI p) m' p' Z ∧ r = nI (adM (MS.getD m' zM) y.toInt Z).2.2.2.length ∧ RAtP h f l MS m' (adM (MS.getD m' zM) y.toInt Z) g) ∨ ((¬ ∃ m' p' Z, AtG GS MS (nI m) y (nI p) m' p' Z) ∧ r = -1 ∧ ∃ f', g = sil h f' l ∧ Fr [57, 58, 74] f f'))) := by
    intro st d
    induction d with
    | zero =>
      intro k f2 hd hk ri
      have ek : Z.take k = Z := List.take_of_length_le (by omega)
      rw [ek] at ri
      have atg : AtG GS MS (nI m) y (nI p) m p Z := ⟨⟨hi, hp, rfl, rfl⟩, ⟨c3, by omega, by omega⟩, orb, st⟩
      have f54 : f2 54 = f 54 := (ri.1 54 (by decide)).trans e54
      have e83 : f2 83 m = nI (MS.getD m zM).2.2.1 := by rw [ri.1 83 (by decide), fr1 83 (by decide)]; exact m3.1
      have fra : Fr RtAIds f f2 := (fr1.mono (by decide)).trans (ri.1.mono (by decide))
      have hm1 : RMdl f1 MS := hm.fr (by rw [e54]) (fun a ha => fr1 a (by revert a; decide))
      have okl : ∀ j, j < MS.length → (MS.getD j zM).2.2.2.length ≤ 300 := fun j hj => (okm j hj).2.2.2.1
      refine v_Ref_atom_3 _ _ _ _ _ _ _ ⟨fun q => absurd q (by rw [nI_toI (by omega), nI_toI (by omega)]; omega), fun _ => ?_⟩
      rw [R54_40, R54_41, mi_sil, ix_nI (by omega), e83, nI_1]
      refine ⟨K54, K83, by rw [L83]; exact InB_nI (by omega) (by omega), ?_⟩
      rintro _ rfl
      rw [wi_sil, mi_sil, up2_ne (by decide), f54]
      refine ⟨fun c => ?_, fun c => ⟨K84, by rw [L84]; exact InB_nI (by omega) (by omega), ?_⟩⟩
      · rintro _ rfl
        rw [wi_sil, mi_sil, up2_ne (by decide), up2_ne (by decide), ri.2.1]
        refine ⟨K84, by rw [L84]; exact InB_nI (by omega) (by omega), _, rfl, Or.inl ⟨m, p, Z, atg, rfl, _, rfl, (fra.up (by decide)).up (by decide), fun j hj => by rw [up2_ni hj, up2_ne (by decide), f54], Or.inl ⟨c, up2_s⟩, ?_⟩⟩
        refine RaI.mdl (M := adM (MS.getD m zM) y.toInt Z) hm1 okl hi ri (by rw [up2_ni (by decide), up2_ne (by decide), f54, e54]) ((Fr.refl.up (by decide)).up (by decide)) (fun j hj => by rw [up2_ne (by decide), up2_ni hj]) (by rw [up2_ne (by decide), up2_s]; rfl) rfl rfl
      · rw [up2_ne (by decide), ri.2.1]
        refine ⟨_, rfl, Or.inl ⟨m, p, Z, atg, rfl, _, rfl, fra.up (by decide), fun j hj => by rw [up2_ne (by decide), f54], Or.inr ⟨c, by rw [up2_ne (by decide), f54]⟩, ?_⟩⟩
        refine RaI.mdl (M := adM (MS.getD m zM) y.toInt Z) hm1 okl hi ri (by rw [up2_ne (by decide), f54, e54]) (Fr.refl.up (by decide)) (fun j hj => by rw [up2_ni hj]) (by rw [up2_s]; rfl) rfl rfl
    | succ d ih =>
      intro k f2 hd hk ri
      have kl : k < Z.length := by omega
      have ltk : ((MS.getD m zM).2.2.2 ++ adT (MS.getD m zM).2.2.1 y.toInt (Z.take k)).length = (MS.getD m zM).2.2.2.length + k := by rw [List.length_append, ad_len, List.length_take]; omega
      have e74 : f2 74 = f1 74 := ri.1 74 (by decide)
      have e83 : f2 83 m = nI (MS.getD m zM).2.2.1 := by rw [ri.1 83 (by decide), fr1 83 (by decide)]; exact m3.1
      have e84' := ri.2.1
      refine v_Ref_atom_3 _ _ _ _ _ _ _ ⟨fun _ => ?_, fun q => absurd (by rw [nI_toI (by omega), nI_toI (by omega)]; omega) q⟩
      have nxt := ri.put (t := (MS.getD m zM).2.2.1) (w := y.toInt) (p := (Z.getD k 0).toNat) (by omega)
      rw [List.append_assoc, ← ad_next kl] at nxt
      generalize hW : ((MS.getD m zM).2.2.2 ++ adT (MS.getD m zM).2.2.1 y.toInt (Z.take k)).length = W at *
      rw [R54_40, R54_41, R54_42, R54_43, R54_44, R54_27, mi_sil, ix_nI (a := m) (by omega), e84', ix_nI (a := k) (by omega), zv f2 e74 k kl, t3, nI_mul, nI_add, ix_nI (a := 300 * m + W) (by omega)]
      refine ⟨K54, K84, by rw [L84]; exact InB_nI (by omega) (by omega), K74, by rw [L74]; exact InB_nI (by omega) (by omega), K85, by rw [L85]; exact InB_nI (by omega) (by omega), ?_⟩
      rintro _ rfl
      refine ⟨K86, by rw [L86]; exact InB_nI (by omega) (by omega), ?_⟩
      rintro _ rfl
      rw [wi_sil, wi_sil, mi_sil, up2_ne (by decide), up2_ne (by decide), e83]
      refine ⟨K83, by rw [L83]; exact InB_nI (by omega) (by omega), K87, by rw [L87]; exact InB_nI (by omega) (by omega), ?_⟩
      rintro _ rfl
      rw [wi_sil, mi_sil, up2_ne (by decide), up2_ne (by decide), up2_ne (by decide), e84', nI_1]
      rintro _ rfl
      rw [wi_sil]
      refine v_Ref_atom_4 _ _ _ _ _ _ _ ?_
      rw [nI_1]
      refine ih (k + 1) _ (by omega) (by omega) ?_
      have ey : y = zI y.toInt := (zI_self y).symm
      rw [← ey] at nxt
      exact nxt
  -- the looking
  have chk : ∀ d k, (MS.getD m zM).2.2.2.length - k = d → k ≤ (MS.getD m zM).2.2.2.length → (∀ i, i < k → ∀ q, q < Z.length → (((MS.getD m zM).2.2.2.getD i zp).1 : Int) ≠ Z.getD q 0) →
      WM k_Ref_atom p_Ref_atom_1 [.ref 54, .int (nI m), .int y, Jv, .int (nI Z.length), .int (nI k), Jv] [] (sil h f1 l) 0 0 (fun v g => ∃ r, v = .int r ∧ ((∃ m' p' Z, AtG GS MS (nI m) y (nI p) m' p' Z ∧ r = nI (adM (MS.getD m' zM) y.toInt Z).2.2.2.length ∧ RAtP h f l MS m' (adM (MS.getD m' zM) y.toInt Z) g) ∨ ((¬ ∃ m' p' Z, AtG GS MS (nI m) y (nI p) m' p' Z) ∧ r = -1 ∧ ∃ f', g = sil h f' l ∧ Fr [57, 58, 74] f f'))) := by
    intro d
    induction d with
    | zero =>
      intro k hd hk al
      refine v_Ref_atom_1 _ _ _ _ _ _ _ ⟨K54, ?_⟩
      rw [R54_41, mi_sil, ix_nI (by omega), e84, nI_toI (by omega), nI_toI (by omega)]
      refine ⟨K84, by rw [L84]; exact InB_nI (by omega) (by omega), fun q => absurd q (by omega), fun _ => put ⟨t30', by omega, fun q hq i hi' => al i (by omega) q hq⟩ _ 0 f1 rfl (Nat.zero_le _) ?_⟩
      have e0 : (MS.getD m zM).2.2.2 ++ adT (MS.getD m zM).2.2.1 y.toInt (Z.take 0) = (MS.getD m zM).2.2.2 := List.append_nil _
      rw [e0]
      exact ⟨Fr.refl, e84, fun _ _ => rfl, fun _ _ => ⟨rfl, rfl, rfl⟩, fun i hi' => by rw [fr1 85 (by decide), fr1 86 (by decide), fr1 87 (by decide)]; exact m4.2.2 i hi'⟩
    | succ d ih =>
      intro k hd hk al
      have kl : k < (MS.getD m zM).2.2.2.length := by omega
      refine v_Ref_atom_1 _ _ _ _ _ _ _ ⟨K54, ?_⟩
      rw [R54_41, mi_sil, ix_nI (by omega), e84, nI_toI (by omega), nI_toI (by omega)]
      refine ⟨K84, by rw [L84]; exact InB_nI (by omega) (by omega), fun _ => ?_, fun q => absurd (by omega) q⟩
      have ep : f1 85 (300 * m + k) = nI ((MS.getD m zM).2.2.2.getD k zp).1 := by rw [fr1 85 (by decide)]; exact (m4.2.2 k kl).1
      have pr := (o4.2.1 _ (pD_mem kl)).1
      have inn : ∀ d' j, Z.length - j = d' → j ≤ Z.length → (∀ q, q < j → (((MS.getD m zM).2.2.2.getD k zp).1 : Int) ≠ Z.getD q 0) →
          WM k_Ref_atom p_Ref_atom_2 [.ref 54, .int (nI m), .int y, Jv, .int (nI Z.length), .int (nI k), .int (nI j)] [] (sil h f1 l) 0 0 (fun v g => ∃ r, v = .int r ∧ ((∃ m' p' Z, AtG GS MS (nI m) y (nI p) m' p' Z ∧ r = nI (adM (MS.getD m' zM) y.toInt Z).2.2.2.length ∧ RAtP h f l MS m' (adM (MS.getD m' zM) y.toInt Z) g) ∨ ((¬ ∃ m' p' Z, AtG GS MS (nI m) y (nI p) m' p' Z) ∧ r = -1 ∧ ∃ f', g = sil h f' l ∧ Fr [57, 58, 74] f f'))) := by
        intro d'
        induction d' with
        | zero =>
          intro j hj1 hj2 al2
          refine v_Ref_atom_2 _ _ _ _ _ _ _ _ ⟨fun q => absurd q (by rw [nI_toI (by omega), nI_toI (by omega)]; omega), fun _ => ?_⟩
          rw [nI_1]
          refine ih (k + 1) (by omega) (by omega) (fun i hi' q hq => ?_)
          by_cases e : i = k
          · subst e; exact al2 q (by omega)
          · exact al i (by omega) q hq
        | succ d' ih' =>
          intro j hj1 hj2 al2
          have jl : j < Z.length := by omega
          have zr := rng _ (zgetD_mem jl)
          refine v_Ref_atom_2 _ _ _ _ _ _ _ _ ⟨fun _ => ?_, fun q => absurd (by rw [nI_toI (by omega), nI_toI (by omega)]; omega) q⟩
          rw [R54_42, R54_27, mi_sil, t3, nI_mul, nI_add, ix_nI (a := 300 * m + k) (by omega), ep, ix_nI (a := j) (by omega), zv f1 rfl j jl, nI_1]
          refine ⟨K54, K85, by rw [L85]; exact InB_nI (by omega) (by omega), K74, by rw [L74]; exact InB_nI (by omega) (by omega), fun c => no (fun st => st.2.2 j jl k kl ?_), fun c => ih' (j + 1) (by omega) (by omega) (fun q hq => ?_)⟩
          · have := (nI_inj (by omega) (by have := zp' j jl; omega)).mp c
            omega
          · by_cases e : q = j
            · subst e
              intro e2
              apply c
              congr 1
              omega
            · exact al2 q (by omega)
      exact inn _ 0 rfl (Nat.zero_le _) (fun q hq => absurd hq (Nat.not_lt_zero q))
  exact chk _ 0 rfl (Nat.zero_le _) (fun i hi' => absurd hi' (Nat.not_lt_zero i))
