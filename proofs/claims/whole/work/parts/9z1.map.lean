/-! map -/
def wantP (p q : Nat) : Nat := 576 * ((p / 576 + q / 576) % 24) + 24 * ((p / 24 % 24 + q / 24 % 24) % 24) + (p % 24 + q % 24) % 24
theorem want_lt (p q : Nat) : wantP p q < 13824 := by
  unfold wantP
  have := Nat.mod_lt (p / 576 + q / 576) (show 0 < 24 by decide)
  have := Nat.mod_lt (p / 24 % 24 + q / 24 % 24) (show 0 < 24 by decide)
  have := Nat.mod_lt (p % 24 + q % 24) (show 0 < 24 by decide)
  generalize (p / 576 + q / 576) % 24 = A at *
  generalize (p / 24 % 24 + q / 24 % 24) % 24 = B at *
  generalize (p % 24 + q % 24) % 24 = C at *
  omega
theorem want_df (p q : Nat) : 576 * ((p / 576 + q / 576) % 24) + 24 * ((p / 24 % 24 + q / 24 % 24) % 24) + (p % 24 + q % 24) % 24 = wantP p q := by unfold wantP; rfl
theorem want_eq (p q : Nat) : (((p / 576 + q / 576) % 24 * 24 + (p / 24 % 24 + q / 24 % 24) % 24) * 24 + (p % 24 + q % 24) % 24) = wantP p q := by
  unfold wantP
  generalize (p / 576 + q / 576) % 24 = A at *
  generalize (p / 24 % 24 + q / 24 % 24) % 24 = B at *
  generalize (p % 24 + q % 24) % 24 = C at *
  omega
def mpI (P : List Pl) (p i j : Nat) : Int := if (P.getD j zp).1 = wantP (P.getD i zp).1 p then (P.getD i zp).2.1 * (P.getD j zp).2.1 else 0
def mpJ (P : List Pl) (p i : Nat) : Int := sZ (mpI P p i) P.length
def mpV (P : List Pl) (p : Nat) : Int := sZ (mpJ P p) P.length
theorem sZ_0 {F : Nat → Int} {n : Nat} (h : ∀ j, j < n → F j = 0) : sZ F n = 0 := by
  induction n with
  | zero => rfl
  | succ n ih =>
    show sZ F n + F n = 0
    rw [ih (fun j hj => h j (by omega)), h n (by omega)]; rfl
theorem sZ_1 {F : Nat → Int} {n k : Nat} (hk : k < n) (h : ∀ j, j < n → j ≠ k → F j = 0) : sZ F n = F k := by
  induction n with
  | zero => omega
  | succ n ih =>
    show sZ F n + F n = F k
    by_cases e : k = n
    · subst e
      rw [sZ_0 (fun j hj => h j (by omega) (by omega))]
      omega
    · rw [ih (by omega) (fun j hj hn => h j (by omega) hn), h n (by omega) (by omega)]
      omega
def MpA (MS : List Mdl) (x y : Int32) (r : Int64) : Prop := (∃ m p, m < MS.length ∧ p < 13824 ∧ x = nI m ∧ y = nI p ∧ r = zL (mpV (MS.getD m zM).2.2.2 p)) ∨ ((¬ ∃ m p, m < MS.length ∧ p < 13824 ∧ x = nI m ∧ y = nI p) ∧ r = 0)
theorem MpA.fn {MS : List Mdl} {x y : Int32} {r r' : Int64} (hl : MS.length ≤ 20) (h : MpA MS x y r) (h' : MpA MS x y r') : r = r' := by
  rcases h with ⟨m, i, a1, a2, a3, a4, e⟩ | ⟨n, e⟩ <;> rcases h' with ⟨m', i', b1, b2, b3, b4, e'⟩ | ⟨n', e'⟩
  · have e1 : m = m' := (nI_inj (by omega) (by omega)).mp (a3.symm.trans b3)
    have e2 : i = i' := (nI_inj (by omega) (by omega)).mp (a4.symm.trans b4)
    subst e1 e2
    rw [e, e']
  · exact absurd ⟨m, i, a1, a2, a3, a4⟩ n'
  · exact absurd ⟨m', i', b1, b2, b3, b4⟩ n
  · rw [e, e']
theorem mp_no1 {MS : List Mdl} {x y : Int32} (hl : MS.length ≤ 20) (q : ¬ (0 ≤ x.toInt ∧ x.toInt < MS.length)) : ¬ ∃ m p, m < MS.length ∧ p < 13824 ∧ x = nI m ∧ y = nI p := fun ⟨m, p, a1, a2, a3, a4⟩ => q (by rw [a3, nI_toI (by omega)]; omega)
theorem mp_no2 {MS : List Mdl} {x y : Int32} (q : ¬ (0 ≤ y.toInt ∧ y.toInt < 13824)) : ¬ ∃ m p, m < MS.length ∧ p < 13824 ∧ x = nI m ∧ y = nI p := fun ⟨m, p, a1, a2, a3, a4⟩ => q (by rw [a4, nI_toI (by omega)]; omega)
theorem sp_sumOfPairs {k : MH} {x a b t p : Nat} {P : List Pl} (mk : MdK k x a b) (ma : MdA k x t P) (ok : okP t P) (ht : t ≤ 30) (hp : p < 13824) : SpL k_Model_sumOfPairs [.ref x, .int (nI p)] k (fun r g => g = k ∧ r = zL (mpV P p)) := by
  have hl := ok.1
  have t24 : (24 : Int32) = nI 24 := rfl
  have t576 : (576 : Int32) = nI 576 := rfl
  have m3 : ∀ n : Nat, (3 : Int32) * nI n = nI (3 * n) := fun n => nI_mul 3 n
  have m32 : ∀ n : Nat, nI (3 * n) + (2 : Int32) = nI (3 * n + 2) := fun n => nI_add _ 2
  have e2 : mr k x 2 = x + 1 := mk.1.2.2.2.1
  have lk : ln k (x + 1) = 900 := mk.2.1.2
  have hP : ∀ i, i < P.length → (P.getD i zp).1 < 13824 := fun i hi => (ok.2.1 _ (pD_mem hi)).1
  have wb : ∀ i, i < P.length → -99 ≤ (P.getD i zp).2.1 ∧ (P.getD i zp).2.1 ≤ 99 := fun i hi => ⟨(ok.2.1 _ (pD_mem hi)).2.1, (ok.2.1 _ (pD_mem hi)).2.2.1⟩
  obtain ⟨T, rt, tk⟩ := ma.2.2.2
  have go : ∀ d i, P.length - i = d → i ≤ P.length → WM k_Model_sumOfPairs p_Model_sumOfPairs_1 [.ref x, Jv, .int (nI (p / 576)), .int (nI (p / 24 % 24)), .int (nI (p % 24)), .long (zL (sZ (mpJ P p) i)), Jv, .int (nI i), Jv, Jv] [] k 0 0 (fun v g => ∃ r, v = .long r ∧ g = k ∧ r = zL (mpV P p)) := by
    intro d
    induction d with
    | zero =>
      intro i hd hi
      have : i = P.length := by omega
      subst this
      refine v_Model_sumOfPairs_1 _ _ _ _ _ _ _ _ ⟨mk.1.1, ?_⟩
      rw [ma.1]
      exact ⟨fun q => absurd q (by omega), fun _ => ⟨_, rfl, rfl, rfl⟩⟩
    | succ d ih =>
      intro i hd hi
      have il : i < P.length := by omega
      obtain ⟨p1, p2, p3, _, _⟩ := ma.2.2.1 i il
      have hpi := hP i il
      refine v_Model_sumOfPairs_1 _ _ _ _ _ _ _ _ ⟨mk.1.1, ?_⟩
      rw [ma.1, nI_toI (by omega), nI_toI (by omega), e2, m3, nI_1, m32, lk, ix_nI (by omega), ix_nI (by omega), ix_nI (by omega), p1, p2, p3, t24, nI_add, nI_add, nI_add, irm_nI (by omega) (by decide) (by decide), irm_nI (by omega) (by decide) (by decide), irm_nI (by omega) (by decide) (by decide), nI_mul, nI_add, nI_mul, nI_add,
        want_eq]
      refine ⟨fun _ => ⟨mk.2.1.1, InB_nI (by omega) (by omega), InB_nI (by omega) (by omega), InB_nI (by omega) (by omega), SpI.mono (sp_Model_atomAt mk rt tk hl hP (want_lt _ _)) ?_⟩, fun q => absurd (by omega) q⟩
      have nx : ∀ v, v = mpJ P p i → WM k_Model_sumOfPairs p_Model_sumOfPairs_2 [.ref x, Jv, .int (nI (p / 576)), .int (nI (p / 24 % 24)), .int (nI (p % 24)), .long (zL (sZ (mpJ P p) i + v)), Jv, .int (nI i), Jv, Jv] [] k 0 0 (fun v g => ∃ r, v = .long r ∧ g = k ∧ r = zL (mpV P p)) := fun v e => by
        refine v_Model_sumOfPairs_2 _ _ _ _ _ _ _ _ ?_
        rw [nI_1, e]
        exact ih (i + 1) (by omega) (by omega)
      rintro r g ⟨rfl, ⟨j, hj, ej, rfl⟩ | ⟨no, rfl⟩⟩
      · refine ⟨fun q => absurd q (nI_ne1 (by omega)), fun _ => ⟨mk.1.1, SpI.mono (sp_Model_weightOf mk ma ok ht il) ?_⟩⟩
        rintro _ g ⟨rfl, rfl⟩
        refine ⟨mk.1.1, SpI.mono (sp_Model_weightOf mk ma ok ht hj) ?_⟩
        rintro _ g ⟨rfl, rfl⟩
        have b1 := wb i il
        have b2 := wb j hj
        have ab : Ab ((P.getD i zp).2.1 * (P.getD j zp).2.1) (99 * 99) := (Ab.of (by omega) (by omega)).mul (Ab.of (by omega) (by omega))
        have abl := ab.lo; have abh := ab.hi
        rw [zI_mul, i2l_zI (by omega) (by omega), zL_add]
        refine nx _ ?_
        unfold mpJ
        rw [sZ_1 (F := mpI P p i) hj (fun q hq hn => if_neg (fun e => hn (ok.2.2 q j hq hj (e.trans ej.symm))))]
        exact (if_pos ej).symm
      · refine ⟨fun _ => ?_, fun q => absurd rfl q⟩
        have := nx 0 (sZ_0 (F := mpI P p i) (fun q hq => if_neg (no q hq))).symm
        rw [Int.add_zero] at this
        exact this
  refine v_Model_sumOfPairs _ _ _ _ ?_
  rw [t576, t24, div_nI (by omega) (by decide) (by decide), div_nI (by omega) (by decide) (by decide), irm_nI (by omega) (by decide) (by decide), irm_nI (by omega) (by decide) (by decide)]
  exact go _ 0 rfl (Nat.zero_le _)
theorem sp_Ho_map {h : MH} {O : Nat → Nat} {ng : Nat} {CS : List S6} {MS : List Mdl} (H : SS h) (hm : HMdl h O ng CS MS) (x y : Int32) : SpL k_Ho_map [.ref 5, .int x, .int y] h (fun r g => g = h ∧ MpA MS x y r) := by
  have hl := hm.1
  have ts : (13824 : Int32).toInt = 13824 := rfl
  refine v_Ho_map _ _ _ _ _ ⟨H.k5, SpR.mono (sp_Ho_modelAt H hm x) ?_⟩
  rintro r1 k ⟨rfl, g1⟩
  rcases g1 with ⟨m, hi, rfl, rfl, r0⟩ | ⟨no, rfl⟩
  rotate_left
  · exact ⟨fun _ => ⟨_, rfl, rfl, Or.inr ⟨mp_no1 hl no, rfl⟩⟩, fun q => absurd rfl q⟩
  obtain ⟨om, ⟨⟨b1, b2, b3⟩, mk, ma, mc⟩⟩ := hm.2.2 m hi
  rw [ts]
  refine ⟨fun q => absurd q r0, fun _ => ⟨fun c => ⟨_, rfl, rfl, Or.inr ⟨mp_no2 (fun q => by omega), rfl⟩⟩, fun c1 => ⟨fun c2 => ?_, fun c => ⟨_, rfl, rfl, Or.inr ⟨mp_no2 (fun q => by omega), rfl⟩⟩⟩⟩⟩
  obtain ⟨p, rfl, hp⟩ := op_x (n := 13824) c1 (by omega) (by omega)
  refine ⟨mk.1.1, SpL.mono (sp_sumOfPairs mk ma om.2.2.2 om.2.2.1 hp) ?_⟩
  rintro r _ ⟨rfl, rfl⟩
  exact ⟨_, rfl, rfl, Or.inl ⟨m, p, hi, hp, rfl, rfl, rfl⟩⟩
theorem sp_Ref_map {h : MH} {f : (Nat → Nat → Int32)} {l : (Nat → Nat → Int64)} {ng nc : Nat} {MS : List Mdl} (hm : RMdl f MS) (ok : okMS ng nc MS) (x y : Int32) : SpL k_Ref_map [.ref 54, .int x, .int y] (sil h f l) (fun r g => g = sil h f l ∧ MpA MS x y r) := by
  have hl := hm.1
  have ts : (13824 : Int32).toInt = 13824 := rfl
  refine v_Ref_map _ _ _ _ _ ⟨K54, SpI.mono (sp_Ref_isModel hm x) ?_⟩
  rintro r1 _ ⟨rfl, ⟨m, hi, rfl, rfl⟩ | ⟨no, rfl⟩⟩
  rotate_left
  · exact ⟨fun _ => ⟨_, rfl, rfl, Or.inr ⟨mp_no1 hl no, rfl⟩⟩, fun q => absurd rfl q⟩
  have pL := ok.len hi
  have e84 : f 84 m = nI (MS.getD m zM).2.2.2.length := (hm.2.2.1 m (by omega)).2
  rw [ts, R54_41, mi_sil, ix_nI (by omega), e84]
  refine ⟨fun q => absurd q (by decide), fun _ => ⟨fun c => ⟨_, rfl, rfl, Or.inr ⟨mp_no2 (fun q => by omega), rfl⟩⟩, fun c1 => ⟨fun c2 => ⟨K54, K84, by rw [L84]; exact InB_nI (by omega) (by omega), ?_⟩, fun c => ⟨_, rfl, rfl, Or.inr ⟨mp_no2 (fun q => by omega), rfl⟩⟩⟩⟩⟩
  obtain ⟨p, rfl, hp⟩ := op_x (n := 13824) c1 (by omega) (by omega)
  have wrap : MpA MS (nI m) (nI p) (zL (mpV (MS.getD m zM).2.2.2 p)) := Or.inl ⟨m, p, hi, hp, rfl, rfl, rfl⟩
  obtain ⟨_, _, _, o4⟩ := ok m hi
  have okp := o4.2.1
  have m3 := (hm.2.2.2 m hi).2.2
  clear c1 c2
  generalize (MS.getD m zM).2.2.2 = P at *
  generalize MpA MS (nI m) (nI p) = D at *
  have a3 : ∀ q : Nat, ((300 : Int32) * nI m) + nI q = nI (300 * m + q) := fun q => by rw [show (300 : Int32) = nI 300 from rfl, nI_mul, nI_add]
  have d5 : ∀ q : Nat, q < 13824 → nI q / (576 : Int32) = nI (q / 576) := fun q hq => div_nI (d := 576) (by omega) (by decide) (by decide)
  have d2 : ∀ q : Nat, q < 13824 → irm (nI q / (24 : Int32)) (24 : Int32) = nI (q / 24 % 24) := fun q hq => by
    rw [show (24 : Int32) = nI 24 from rfl, div_nI (d := 24) (by omega) (by decide) (by decide), irm_nI (by omega) (by decide) (by decide)]
  have d1 : ∀ q : Nat, q < 2000000 → irm (nI q) (24 : Int32) = nI (q % 24) := fun q hq => irm_nI (d := 24) (by omega) (by decide) (by decide)
  have go : ∀ d i, P.length - i = d → i ≤ P.length → WM k_Ref_map p_Ref_map_1 [.ref 54, .int (nI m), .int (nI p), .long (zL (sZ (mpJ P p) i)), Jv, .int (nI P.length), .int (nI i), Jv, Jv, Jv] [] (sil h f l) 0 0 (fun v g => ∃ r, v = .long r ∧ g = sil h f l ∧ D r) := by
    intro d
    induction d with
    | zero =>
      intro i hd hi'
      have : i = P.length := by omega
      subst this
      exact v_Ref_map_1 _ _ _ _ _ _ _ _ ⟨fun q => absurd q (by omega), fun _ => ⟨_, rfl, rfl, wrap⟩⟩
    | succ d ih =>
      intro i hd hi'
      have il : i < P.length := by omega
      have e1 := (m3 i il).1
      have w1 := (m3 i il).2.1
      have hpi := (okp _ (pD_mem il)).1
      have wi := (okp _ (pD_mem il)).2
      refine v_Ref_map_1 _ _ _ _ _ _ _ _ ⟨fun _ => ⟨K54, ?_⟩, fun q => absurd (by rw [nI_toI (by omega), nI_toI (by omega)]; omega) q⟩
      rw [R54_42, mi_sil, a3, ix_nI (by omega), e1, d5 _ hpi, d5 _ hp, d2 _ hpi, d2 _ hp, d1 _ (by omega), d1 _ (by omega), nI_add, nI_add, nI_add, d1 _ (by omega), d1 _ (by omega), d1 _ (by omega), show (576 : Int32) = nI 576 from rfl, show (24 : Int32) = nI 24 from rfl, nI_mul, nI_mul, nI_add, nI_add]
      refine ⟨K85, by rw [L85]; exact InB_nI (by omega) (by omega), ?_⟩
      rw [want_df]
      have wl := want_lt (P.getD i zp).1 p
      have inn : ∀ d' j, P.length - j = d' → j ≤ P.length → WM k_Ref_map p_Ref_map_2 [.ref 54, .int (nI m), .int (nI p), .long (zL (sZ (mpJ P p) i + sZ (mpI P p i) j)), Jv, .int (nI P.length), .int (nI i), Jv, .int (nI (wantP (P.getD i zp).1 p)), .int (nI j)] [] (sil h f l) 0 0 (fun v g => ∃ r, v = .long r ∧ g = sil h f l ∧ D r) := by
        intro d'
        induction d' with
        | zero =>
          intro j hd' hj
          have : j = P.length := by omega
          subst this
          refine v_Ref_map_2 _ _ _ _ _ _ _ _ _ _ ⟨fun q => absurd q (by omega), fun _ => ?_⟩
          rw [nI_1]
          exact ih (i + 1) (by omega) (by omega)
        | succ d' ih' =>
          intro j hd' hj
          have jl : j < P.length := by omega
          have e2 := (m3 j jl).1
          have w2 := (m3 j jl).2.1
          have hpj := (okp _ (pD_mem jl)).1
          have wj := (okp _ (pD_mem jl)).2
          have nx : ∀ v, v = mpI P p i j → WM k_Ref_map p_Ref_map_2 [.ref 54, .int (nI m), .int (nI p), .long (zL (sZ (mpJ P p) i + sZ (mpI P p i) j + v)), Jv, .int (nI P.length), .int (nI i), Jv, .int (nI (wantP (P.getD i zp).1 p)), .int (nI (j + 1))] [] (sil h f l) 0 0 (fun v g => ∃ r, v = .long r ∧ g = sil h f l ∧ D r) := fun v e => by
            rw [e, Int.add_assoc]
            exact ih' (j + 1) (by omega) (by omega)
          refine v_Ref_map_2 _ _ _ _ _ _ _ _ _ _ ⟨fun _ => ⟨K54, ?_⟩, fun q => absurd (by rw [nI_toI (by omega), nI_toI (by omega)]; omega) q⟩
          rw [R54_42, R54_43, mi_sil, a3, a3, ix_nI (by omega), ix_nI (by omega), e2, w1, w2, nI_1, i2l_zI (by omega) (by omega), i2l_zI (by omega) (by omega), zL_mul, zL_add]
          refine ⟨K85, by rw [L85]; exact InB_nI (by omega) (by omega), fun c => ⟨K86, by rw [L86]; exact InB_nI (by omega) (by omega), by rw [L86]; exact InB_nI (by omega) (by omega), nx _ (if_pos ((nI_inj (by omega) (by omega)).mp c)).symm⟩, fun c => ?_⟩
          have := nx 0 (if_neg (fun e => c (by rw [e]))).symm
          rw [Int.add_zero] at this
          exact this
      have := inn _ 0 rfl (Nat.zero_le _)
      rw [show sZ (mpI P p i) 0 = 0 from rfl, Int.add_zero] at this
      exact this
  exact go _ 0 rfl (Nat.zero_le _)
