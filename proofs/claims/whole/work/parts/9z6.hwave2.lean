/-! the class's wave of a model, amplitude -/
def F4 (l : (Nat → Nat → Int64)) (a : Nat) (n : Nat → Int) : Prop := ∀ i, i < 4 → l a i = zL (n i)
theorem F4.fr {l l' : (Nat → Nat → Int64)} {a : Nat} {n : Nat → Int} (h : F4 l a n) (e : l' a = l a) : F4 l' a n := fun i hi => by rw [e]; exact h i hi
theorem sp_Wave_addSquare {h : MH} {f : (Nat → Nat → Int32)} {l : (Nat → Nat → Int64)} {a : Nat} {n p : Nat → Int} (ka : ∀ l', kd (sil h f l') a = 21) (la : ∀ l', ln (sil h f l') a = 4) (h48 : a ≠ 48) (hn' : F4 l a n) (hp : F4 l 48 p) : SpV k_Wave_addSquare [.ref 45, .ref a] (sil h f l) (fun g => ∃ l', g = sil h f l' ∧ Fr [48] l l' ∧ F4 l' 48 (fun j => p j + pw1 n j)) := by
  have m : 48 ∈ [48] := List.mem_cons_self
  have n48 : a ∉ [48] := fun q => h48 (List.mem_singleton.mp q)
  have c0 : ix (0 : Int32) = 0 := rfl
  have c1 : ix (1 : Int32) = 1 := rfl
  have c2 : ix (2 : Int32) = 2 := rfl
  have c3 : ix (3 : Int32) = 3 := rfl
  have l2 : (2 : Int64) = zL 2 := rfl
  have l3 : (3 : Int64) = zL 3 := rfl
  have l4 : (4 : Int64) = zL 4 := rfl
  have l6 : (6 : Int64) = zL 6 := rfl
  have b0 : InB (0 : Int32) 4 := InB_nI (a := 0) (by decide) (by decide)
  have b1 : InB (1 : Int32) 4 := InB_nI (a := 1) (by decide) (by decide)
  have b2 : InB (2 : Int32) 4 := InB_nI (a := 2) (by decide) (by decide)
  have b3 : InB (3 : Int32) 4 := InB_nI (a := 3) (by decide) (by decide)
  have n0 := hn' 0 (by decide); have n1 := hn' 1 (by decide); have n2 := hn' 2 (by decide); have n3 := hn' 3 (by decide)
  have p0 := hp 0 (by decide); have p1 := hp 1 (by decide); have p2 := hp 2 (by decide); have p3 := hp 3 (by decide)
  refine v_Wave_addSquare _ _ _ _ ⟨K45, ?_⟩
  rw [R45_2, c0, c1, c2, c3, ml_sil, n0, n1, n2, n3, p0, l2, l3, l6, L48, la]
  simp only [zL_mul, zL_add]
  refine ⟨K48, b0, ka _, b0, b1, b2, b3, ?_⟩
  rintro _ rfl
  rw [wl_sil, ml_sil, up2_ne h48, up2_ne h48, up2_ne h48, up2_ne h48, n0, n1, n2, n3, up2_ni (by decide), p1]
  simp only [zL_mul, zL_add]
  refine ⟨b1, ?_⟩
  rintro _ rfl
  rw [wl_sil]
  refine v_Wave_addSquare_1 _ _ _ _ ⟨K45, ?_⟩
  rw [R45_2, c0, c1, c2, c3, ml_sil, up2_ne h48, up2_ne h48, up2_ne h48, up2_ne h48, up2_ne h48, up2_ne h48, up2_ne h48, up2_ne h48, n0, n1, n2, n3, up2_ni (by decide), up2_ni (by decide), p2, l2, l4, L48, la]
  simp only [zL_mul, zL_add]
  refine ⟨K48, b2, ka _, b0, b2, b1, b3, ?_⟩
  rintro _ rfl
  rw [wl_sil, ml_sil]
  simp only [up2_ne h48, n0, n1, n2, n3]
  rw [up2_ni (by decide), up2_ni (by decide), up2_ni (by decide), p3]
  simp only [zL_mul, zL_add]
  refine ⟨b3, ?_⟩
  rintro _ rfl
  rw [wl_sil]
  refine ⟨_, rfl, (((Fr.refl.up m).up m).up m).up m, fun j hj => ?_⟩
  unfold pw1
  have : j = 0 ∨ j = 1 ∨ j = 2 ∨ j = 3 := by omega
  rcases this with rfl | rfl | rfl | rfl
  · rw [up2_ni (by decide), up2_ni (by decide), up2_ni (by decide), up2_s]; simp
  · rw [up2_ni (by decide), up2_ni (by decide), up2_s]; simp
  · rw [up2_ni (by decide), up2_s]; simp
  · rw [up2_s]; simp
theorem MdA.s {h : MH} {f f' : (Nat → Nat → Int32)} {l l' : (Nat → Nat → Int64)} {x t : Nat} {P : List Pl} (H : SS h) (m : MdA (sil h f l) x t P) (e : ∀ j, j < 7 → f' (x + j) = f (x + j)) : MdA (sil h f' l') x t P := by
  obtain ⟨m1, m2, m3, T, m4, m5⟩ := m
  rw [mi_sil] at m1 m2 m3
  have e0 := e 0 (by decide)
  rw [Nat.add_zero] at e0
  refine ⟨by rw [mi_sil, e0]; exact m1, by rw [mi_sil, e0]; exact m2, ?_, T, m4.s H (e 4 (by decide)) (e 5 (by decide)), m5⟩
  unfold PlA
  rw [mi_sil, e 1 (by decide), e 2 (by decide), e 3 (by decide)]
  exact m3
def WvP (h : MH) (f : (Nat → Nat → Int32)) (l : (Nat → Nat → Int64)) (P : List Pl) (v : V3) (g : MH) : Prop := ∃ f' l', g = sil h f' l' ∧ Fr [49] f f' ∧ Fr [46, 47, 48] l l' ∧ F4 l' 46 (wvA P v 0) ∧ F4 l' 47 (wvA P v 18) ∧ F4 l' 48 (pwA P v)
theorem sp_Wave_sum {h : MH} {f : (Nat → Nat → Int32)} {l : (Nat → Nat → Int64)} {x a b t : Nat} {P : List Pl} {v : V3} (H : SS h) (hx : 99 ≤ x) (mk : MdK h x a b) (ma : MdA (sil h f l) x t P) (ok : okP t P) (ht : t ≤ 30) (hc : CosAt f) (hv : wB v 60) :
    SpV k_Wave_sum [.ref 45, .ref x, .int (zI v.1), .int (zI v.2.1), .int (zI v.2.2)] (sil h f l) (WvP h f l P v) := by
  have hl := ok.1
  have mks : ∀ f' l', MdK (sil h f' l') x a b := fun f' l' => mk.s H
  have m3' : ∀ n : Nat, (3 : Int32) * nI n = nI (3 * n) := fun n => nI_mul 3 n
  have m32 : ∀ n : Nat, nI (3 * n) + (2 : Int32) = nI (3 * n + 2) := fun n => nI_add _ 2
  have m : 49 ∈ [49] := List.mem_cons_self
  refine v_Wave_sum _ _ _ _ _ _ _ ⟨K45, ?_⟩
  rw [R45_3]
  refine SpV.mono (sp_fillI 49 0 K49 (by rw [L49]; decide)) ?_
  rintro _ ⟨f0, rfl, fr0, z0, _⟩
  rw [L49] at z0
  rw [si_sil]
  have go : ∀ d i (f1 : (Nat → Nat → Int32)), P.length - i = d → i ≤ P.length → Fr [49] f f1 → (∀ u, u < 24 → f1 49 u = zI (hpN P v i u)) → WM k_Wave_sum p_Wave_sum_1 [.ref 45, .ref x, .int (zI v.1), .int (zI v.2.1), .int (zI v.2.2), .int (nI i), Jv] [] (sil h f1 l) 0 0 (fun _ g => WvP h f l P v g) := by
    intro d
    induction d with
    | zero =>
      intro i f1 hd hi fr hh
      have : i = P.length := by omega
      subst this
      have mx : ∀ j, j < 7 → f1 (x + j) = f (x + j) := fun j hj => fr _ (fun q => by have := List.mem_singleton.mp q; omega)
      have ma1 : MdA (sil h f1 l) x t P := ma.s H mx
      have hc1 : CosAt f1 := fun j hj => by rw [fr 3 (by decide)]; exact hc j hj
      have hb : ∀ u, u < 24 → Ab (hpN P v P.length u) 30000 := fun u _ => (hp_ab ok u P.length (Nat.le_refl _)).wk (by omega)
      refine v_Wave_sum_1 _ _ _ _ _ _ _ _ ⟨(mks f1 l).1.1, ?_⟩
      rw [ma1.1, R45_0]
      refine ⟨fun q => absurd q (by omega), fun _ => ⟨K45, SpV.mono (sp_addHeaps (a := 46) (ah := 0) (fun _ => K46) (fun _ => L46) hc1 hh hb (by decide)) ?_⟩⟩
      rintro _ ⟨l2, rfl, fr2, w2⟩
      rw [R45_1]
      refine ⟨K45, SpV.mono (sp_addHeaps (a := 47) (ah := 18) (fun _ => K47) (fun _ => L47) hc1 hh hb (by decide)) ?_⟩
      rintro _ ⟨l3, rfl, fr3, w3⟩
      rw [R45_2]
      refine ⟨K45, SpV.mono (sp_fill4 (a := 48) (fun _ => K48) (fun _ => L48)) ?_⟩
      rintro _ ⟨l4, rfl, fr4, w4⟩
      have c46 : F4 l4 46 (wvA P v 0) := fun i hi => by rw [fr4 46 (by decide), fr3 46 (by decide), w2 i hi, hp_sum, wvA_F]
      have c47 : F4 l4 47 (wvA P v 18) := fun i hi => by rw [fr4 47 (by decide), w3 i hi, hp_sum, wvA_F]
      refine v_Wave_sum_2 _ _ _ ⟨K45, ?_⟩
      rw [R45_0]
      refine SpV.mono (sp_Wave_addSquare (a := 46) (fun _ => K46) (fun _ => L46) (by decide) c46 (p := fun _ => 0) w4) ?_
      rintro _ ⟨l5, rfl, fr5, w5⟩
      rw [R45_1]
      have d46 : F4 l5 46 (wvA P v 0) := c46.fr (fr5 46 (by decide))
      have d47 : F4 l5 47 (wvA P v 18) := c47.fr (fr5 47 (by decide))
      refine ⟨K45, SpV.mono (sp_Wave_addSquare (a := 47) (fun _ => K47) (fun _ => L47) (by decide) d47 w5) ?_⟩
      rintro _ ⟨l6, rfl, fr6, w6⟩
      refine ⟨f1, l6, rfl, fr, ?_, d46.fr (fr6 46 (by decide)), d47.fr (fr6 47 (by decide)), fun i hi => ?_⟩
      · exact ((((fr2.mono (by decide)).trans (fr3.mono (by decide))).trans (fr4.mono (by decide))).trans (fr5.mono (by decide))).trans (fr6.mono (by decide))
      · rw [w6 i hi]
        unfold pwA
        dsimp only
        rw [Int.zero_add]
    | succ d ih =>
      intro i f1 hd hi fr hh
      have il : i < P.length := by omega
      have mx : ∀ j, j < 7 → f1 (x + j) = f (x + j) := fun j hj => fr _ (fun q => by have := List.mem_singleton.mp q; omega)
      have ma1 : MdA (sil h f1 l) x t P := ma.s H mx
      obtain ⟨p1, p2, p3, _, _⟩ := ma1.2.2.1 i il
      have hpi := (ok.2.1 _ (pD_mem il)).1
      have ab := tn_sum hv hpi
      have abl := ab.lo; have abh := ab.hi
      have tl := tn_lt (P.getD i zp).1 v
      have e2 : mr (sil h f1 l) x 2 = x + 1 := (mks f1 l).1.2.2.2.1
      refine v_Wave_sum_1 _ _ _ _ _ _ _ _ ⟨(mks f1 l).1.1, ?_⟩
      rw [ma1.1, nI_toI (by omega), nI_toI (by omega), e2, m3', nI_1, m32, (mks f1 l).2.1.2, ix_nI (by omega), ix_nI (by omega), ix_nI (by omega), p1, p2, p3, zI_mulN, zI_mulN, zI_mulN, zI_add, zI_add, R45_3]
      refine ⟨fun _ => ⟨(mks f1 l).2.1.1, InB_nI (by omega) (by omega), InB_nI (by omega) (by omega), InB_nI (by omega) (by omega), K45, SpI.mono (sp_floorMod _ _ (by decide)) ?_⟩, fun q => absurd (by omega) q⟩
      rintro r g ⟨eg, er⟩
      subst g
      have er' : r = nI (tn (P.getD i zp).1 v).toNat := by
        rw [zI_toI (by omega) (by omega)] at er
        rw [of_toI er]
        unfold tn
        rw [show (24 : Int32).toInt = 24 from rfl]
        exact zI_tn (by omega)
      subst er'
      refine ⟨K49, by rw [L49]; exact InB_nI tl (by omega), (mks f1 l).1.1, SpI.mono (sp_Model_weightOf (mks f1 l) ma1 ok ht il) ?_⟩
      rintro _ g ⟨eg, rfl⟩
      subst g
      refine ⟨K49, by rw [L49]; exact InB_nI tl (by omega), ?_⟩
      rw [ix_nI (by omega), mi_sil, hh _ tl, zI_add, nI_1]
      rintro _ rfl
      rw [wi_sil]
      refine ih (i + 1) _ (by omega) (by omega) (fr.up m) (fun u hu => ?_)
      show _ = zI (hpN P v i u + (if (tn (P.getD i zp).1 v).toNat = u then (P.getD i zp).2.1 else 0))
      by_cases e : u = (tn (P.getD i zp).1 v).toNat
      · rw [e, up2_s, if_pos rfl]
      · rw [up2_ni e, if_neg (fun q => e q.symm), Int.add_zero]; exact hh u hu
  exact go _ 0 f0 rfl (Nat.zero_le _) (fun b hb => fr0 b (fun q => hb (by rw [q]; exact m))) (fun u hu => by rw [z0 u hu]; rfl)
theorem sp_Ho_amplitude {h : MH} {O : Nat → Nat} {ng : Nat} {CS : List S6} {MS : List Mdl} (H : SS h) (hm : HMdl h O ng CS MS) (hc : CosAt (mi h)) (x a b c w : Int32) : SpL k_Ho_amplitude [.ref 5, .int x, .int a, .int b, .int c, .int w] h (fun r g => AmA MS x a b c w r ∧ Kp [46, 47, 48, 49] h g) := by
  have hl := hm.1
  have t11 : (11 : Int32).toInt = 11 := rfl
  have t4 : (4 : Int32).toInt = 4 := rfl
  have t8 : (8 : Int32).toInt = 8 := rfl
  refine v_Ho_amplitude _ _ _ _ _ _ _ _ ⟨H.k5, SpR.mono (sp_Ho_modelAt H hm x) ?_⟩
  rintro r1 k ⟨rfl, g1⟩
  rcases g1 with ⟨m, hi, rfl, rfl, r0⟩ | ⟨no, rfl⟩
  rotate_left
  · exact ⟨fun _ => ⟨_, rfl, Or.inr ⟨am_no1 hl no, rfl⟩, Kp.refl H⟩, fun q => absurd rfl q⟩
  obtain ⟨om, ⟨⟨b1, b2, b3⟩, mk, ma, mc⟩⟩ := hm.2.2 m hi
  rw [t11, t4, t8]
  refine ⟨fun q => absurd q r0, fun _ => ⟨fun q => ⟨_, rfl, Or.inr ⟨am_no2 (fun q => by omega), rfl⟩, Kp.refl H⟩, fun c1 => ⟨fun q => ⟨_, rfl, Or.inr ⟨am_no2 (fun q => by omega), rfl⟩, Kp.refl H⟩, fun c2 => SpI.mono (sp_Ho_isWave a b c) ?_⟩⟩⟩
  rintro r2 k ⟨rfl, ⟨rfl, hv⟩ | ⟨rfl, hv⟩⟩
  rotate_left
  · exact ⟨fun _ => ⟨_, rfl, Or.inr ⟨fun ⟨m, j, _, _, _, _, q⟩ => hv q, rfl⟩, Kp.refl H⟩, fun q => absurd rfl q⟩
  obtain ⟨j, rfl, hj⟩ := op_x (n := 12) c1 (by omega) (by omega)
  have e0 := H.sil
  have ma0 : MdA (sil k (mi k) (ml k)) (mr k 44 m) (MS.getD m zM).2.2.1 (MS.getD m zM).2.2.2 := by rw [← e0]; exact ma
  have wv := sp_Wave_sum (v := (a.toInt, b.toInt, c.toInt)) H b1 mk ma0 om.2.2.2 om.2.2.1 hc hv
  simp only [zI_self] at wv
  rw [← e0] at wv
  have e17 : mr k 5 17 = 45 := H.2.2.2 (5, 17, 45) (by decide)
  have k45 : kd k 45 = 11 := by rw [e0]; exact K45
  refine ⟨fun q => absurd q (by decide), fun _ => ⟨H.k5, ?_⟩⟩
  rw [e17]
  refine ⟨k45, SpV.mono wv ?_⟩
  rintro _ ⟨f', l', rfl, fr1, fr2, w1, w2, w3⟩
  have G : ∀ r, r = wv12 (MS.getD m zM).2.2.2 (a.toInt, b.toInt, c.toInt) j → AmA MS (nI m) a b c (nI j) (zL r) := fun r e => Or.inl ⟨m, j, ⟨hi, rfl, hj, rfl, hv⟩, by rw [e]⟩
  have KK : Kp [46, 47, 48, 49] k (sil k f' l') := Kp.si3 H (fr1.mono (by decide)) (fr2.mono (by decide))
  rw [R5_17, R45_0, R45_1, R45_2, nI_toI (by omega), ml_sil, show (4 : Int32) = nI 4 from rfl, show (8 : Int32) = nI 8 from rfl]
  refine ⟨fun c3 => ⟨Kd5, K45, K46, by rw [L46]; exact InB_nI (by omega) (by omega), ?_⟩, fun c3 => ⟨fun c4 => ⟨Kd5, K45, K47, ?_⟩, fun c4 => ⟨Kd5, K45, K48, ?_⟩⟩⟩
  · rw [ix_nI (by omega), w1 j (by omega)]
    refine ⟨_, rfl, G _ ?_, KK⟩
    unfold wv12
    rw [if_pos (by omega)]
  · rw [nI_sub (by omega), ix_nI (by omega), w2 _ (by omega)]
    refine ⟨by rw [L47]; exact InB_nI (by omega) (by omega), _, rfl, G _ ?_, KK⟩
    unfold wv12
    rw [if_neg (by omega), if_pos (by omega)]
  · rw [nI_sub (by omega), ix_nI (by omega), w3 _ (by omega)]
    refine ⟨by rw [L48]; exact InB_nI (by omega) (by omega), _, rfl, G _ ?_, KK⟩
    unfold wv12
    rw [if_neg (by omega), if_neg (by omega)]
