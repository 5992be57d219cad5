/-! multiples and multiple of the reference -/
def RMuQ (f : (Nat → Nat → Int32)) (l : (Nat → Nat → Int64)) (CS : List S6) (j n : Nat) (M : List S6) : Prop := j < CS.length ∧ 1 ≤ n ∧ n ≤ 12 ∧ f 54 36 = nI j ∧ f 54 37 = nI n ∧ MulL (CS.getD j z6) n M ∧ M.length ≤ 455 ∧ f 54 35 = nI M.length ∧ MulAt l 80 M
def RMu (f : (Nat → Nat → Int32)) (l : (Nat → Nat → Int64)) (CS : List S6) : Prop := f 54 36 = -1 ∨ ∃ j n M, RMuQ f l CS j n M
theorem RMu.fr {f f' : (Nat → Nat → Int32)} {l l' : (Nat → Nat → Int64)} {CS : List S6} (h : RMu f l CS) (e5 : f' 54 35 = f 54 35) (e6 : f' 54 36 = f 54 36) (e7 : f' 54 37 = f 54 37) (e8 : l' 80 = l 80) : RMu f' l' CS := by
  unfold RMu RMuQ MulAt at *
  rw [e5, e6, e7, e8]
  exact h
theorem RMu.add {f : (Nat → Nat → Int32)} {l : (Nat → Nat → Int64)} {CS : List S6} {s : S6} (h : RMu f l CS) : RMu f l (CS ++ [s]) := by
  refine h.imp id (fun ⟨j, n, M, a, b, c, d, e, g, i⟩ => ⟨j, n, M, by rw [cS_len]; omega, b, c, d, e, by rw [gLeft a]; exact g, i⟩)
def MuF (f f' : (Nat → Nat → Int32)) : Prop := Fr [54] f f' ∧ ∀ j, j ≠ 35 → j ≠ 36 → j ≠ 37 → f' 54 j = f 54 j
theorem sp_multiply {h : MH} {f : (Nat → Nat → Int32)} {l : (Nat → Nat → Int64)} {CS : List S6} {j n : Nat} (hc : RCel f l CS) (okc : ∀ j, j < CS.length → okC (CS.getD j z6)) (mu : RMu f l CS) (hj : j < CS.length) (n1 : 1 ≤ n) (n12 : n ≤ 12) :
    SpV k_Ref_multiply [.ref 54, .int (nI j), .int (nI n)] (sil h f l) (fun g => ∃ f' l' M, g = sil h f' l' ∧ MuF f f' ∧ Fr [79, 80] l l' ∧ RMuQ f' l' CS j n M) := by
  have l40 := hc.1
  have oks := okc j hj
  have six := (hc.2.2 j hj).1
  have lb := lat_b n (by omega)
  have t6 : (6 : Int32) = nI 6 := rfl
  generalize hS : CS.getD j z6 = S at *
  let Rt : Value → MH → Prop := fun _ g => ∃ f' l' M, g = sil h f' l' ∧ MuF f f' ∧ Fr [79, 80] l l' ∧ RMuQ f' l' CS j n M
  let St : (Nat → Nat → Int32) → (Nat → Nat → Int64) → List S6 → Prop := fun f1 l1 M => Fr [54] f f1 ∧ (∀ j, j ≠ 35 → j ≠ 36 → j ≠ 37 → f1 54 j = f 54 j) ∧ f1 54 36 = nI j ∧ f1 54 37 = nI n ∧ Fr [79, 80] l l1 ∧ f1 54 35 = nI M.length ∧ MulAt l1 80 M ∧ M.length ≤ lat.getD n 0
  have pr169 : ∀ p r, p ≤ n + 1 → r ≤ n + 1 → p * r ≤ 169 := fun p r hp hr => Nat.le_trans (Nat.mul_le_mul (show p ≤ 13 by omega) (show r ≤ 13 by omega)) (by decide)
  have lp : ∀ d p (f1 : (Nat → Nat → Int32)) (l1 : (Nat → Nat → Int64)) (M : List S6), n + 1 - p = d → 1 ≤ p → p ≤ n + 1 → St f1 l1 M → MulP S n p 1 0 0 0 M → M.length ≤ cPm n p → WM k_Ref_multiply p_Ref_multiply_2 [.ref 54, .int (nI j), .int (nI n), .int (nI p), Jv, Jv, Jv, Jv, Jv] [] (sil h f1 l1) 0 0 Rt := by
    intro d
    induction d with
    | zero =>
      intro p f1 l1 M hd p1 hp st mp len
      refine v_Ref_multiply_2 _ _ _ _ _ _ ?_
      rw [nI_toI (by omega), nI_toI (by omega)]
      exact ⟨fun _ => ⟨f1, l1, M, rfl, ⟨st.1, st.2.1⟩, st.2.2.2.2.1, hj, n1, n12, st.2.2.1, st.2.2.2.1, by rw [hS]; exact mp.end (by omega) n1, by have := st.2.2.2.2.2.2.2; omega, st.2.2.2.2.2.1, st.2.2.2.2.2.2.1⟩, fun q => absurd (by omega) q⟩
    | succ d ih =>
      intro p f1 l1 M hd p1 hp st mp len
      have pn : ¬ nI p = 0 := fun q => by
        have := (nI_inj (x := p) (y := 0) (by omega) (by decide)).mp q
        omega
      have mlt := Nat.mod_lt n (show 0 < p by omega)
      refine v_Ref_multiply_2 _ _ _ _ _ _ ?_
      rw [nI_toI (by omega), nI_toI (by omega), irm_nI (by omega) (by omega) (by omega), nI_1]
      refine ⟨fun q => absurd q (by omega), fun _ => ⟨pn, fun dv => ?_, fun nd => ?_⟩⟩
      rotate_left
      · have nd : ¬ n % p = 0 := fun q => nd (by rw [q]; rfl)
        refine ih (p + 1) f1 l1 M (by omega) (by omega) (by omega) st (mp.nr (fun r' u _ e => nd (by rw [← e, Nat.mul_assoc]; exact Nat.mul_mod_right p _))) ?_
        show _ ≤ cPm n p + if 0 < p then cR n p 13 else 0
        omega
      have dv : n % p = 0 := (nI_inj (by omega) (by decide)).mp dv
      have np : p * (n / p) = n := div_ex dv
      have npl : n / p ≤ n := Nat.div_le_self n p
      have np1 : 1 ≤ n / p := by
        rcases Nat.eq_zero_or_pos (n / p) with z | z
        · rw [z, Nat.mul_zero] at np; omega
        · exact z
      have lr : ∀ d r (f1 : (Nat → Nat → Int32)) (l1 : (Nat → Nat → Int64)) (M : List S6), n / p + 1 - r = d → 1 ≤ r → r ≤ n / p + 1 → St f1 l1 M → MulP S n p r 0 0 0 M → M.length ≤ cPm n p + cR n p r → WM k_Ref_multiply p_Ref_multiply_3 [.ref 54, .int (nI j), .int (nI n), .int (nI p), .int (nI r), Jv, Jv, Jv, Jv] [] (sil h f1 l1) 0 0 Rt := by
        intro d
        induction d with
        | zero =>
          intro r f1 l1 M hd r1 hr st mp len
          have er : r = n / p + 1 := by omega
          refine v_Ref_multiply_3 _ _ _ _ _ _ _ ?_
          rw [div_nI (by omega) (by omega) (by omega), nI_toI (by omega), nI_toI (by omega), nI_1]
          refine ⟨pn, fun _ => ih (p + 1) f1 l1 M (by omega) (by omega) (by omega) st (mp.nr (fun r' u h1 e => ?_)) (Nat.le_trans len (c_mono n (by omega) p (by omega) r (by omega) (by omega))), fun q => absurd (by omega) q⟩
          have u0 : 0 < u := by
            rcases Nat.eq_zero_or_pos u with z | z
            · rw [z, Nat.mul_zero] at e; omega
            · exact z
          have a := Nat.mul_le_mul_left p (show n / p + 1 ≤ r' by omega)
          rw [Nat.mul_add, Nat.mul_one, np] at a
          have b := Nat.le_mul_of_pos_right (p * r') u0
          omega
        | succ d ihr =>
          intro r f1 l1 M hd r1 hr st mp len
          have rn : ¬ nI r = 0 := fun q => by
            have := (nI_inj (x := r) (y := 0) (by omega) (by decide)).mp q
            omega
          have mlt2 := Nat.mod_lt (n / p) (show 0 < r by omega)
          refine v_Ref_multiply_3 _ _ _ _ _ _ _ ?_
          rw [div_nI (by omega) (by omega) (by omega), nI_toI (by omega), nI_toI (by omega), irm_nI (by omega) (by omega) (by omega), div_nI (by omega) (by omega) (by omega)]
          simp only [nI_1]
          refine ⟨pn, fun q => absurd q (by omega), fun _ => ⟨rn, fun dv2 => ?_, fun nd2 => ?_⟩⟩
          rotate_left
          · have nd2 : ¬ n / p % r = 0 := fun q => nd2 (by rw [q]; rfl)
            refine ihr (r + 1) f1 l1 M (by omega) (by omega) (by omega) st (mp.no (fun u e => nd2 ?_)) ?_
            · have : r * u = n / p := by
                refine Nat.eq_of_mul_eq_mul_left (show 0 < p by omega) ?_
                rw [← Nat.mul_assoc, e, np]
              rw [← this]; exact Nat.mul_mod_right r u
            · show _ ≤ cPm n p + (cR n p r + if 0 < r ∧ n % (p * r) = 0 then p * p * r else 0)
              omega
          have dv2 : n / p % r = 0 := (nI_inj (by omega) (by decide)).mp dv2
          have eu : p * r * (n / p / r) = n := by rw [Nat.mul_assoc, div_ex dv2, np]
          have dpr : n % (p * r) = 0 := by
            have := Nat.mul_mod_right (p * r) (n / p / r)
            rw [eu] at this; exact this
          have cap := c_lat n (by omega) p (by omega) r (by omega) ⟨by omega, by omega, by omega, dpr⟩
          have ul : n / p / r ≤ n := Nat.le_trans (Nat.div_le_self _ _) npl
          generalize n / p / r = u at *
          generalize hbase : cPm n p + cR n p r = base at *
          have pos2 : p * p * r = p * (p * r) := Nat.mul_assoc p p r
          have nextr : ∀ (f1 : (Nat → Nat → Int32)) (l1 : (Nat → Nat → Int64)) (M : List S6), St f1 l1 M → MulP S n p (r + 1) 0 0 0 M → M.length ≤ base + p * p * r → WM k_Ref_multiply p_Ref_multiply_3 [.ref 54, .int (nI j), .int (nI n), .int (nI p), .int (nI (r + 1)), Jv, Jv, Jv, Jv] [] (sil h f1 l1) 0 0 Rt := fun f1 l1 M st mp len => by
            refine ihr (r + 1) f1 l1 M (by omega) (by omega) (by omega) st mp ?_
            show _ ≤ cPm n p + (cR n p r + if 0 < r ∧ n % (p * r) = 0 then p * p * r else 0)
            rw [if_pos ⟨by omega, dpr⟩]; omega
          have lq : ∀ d q (f1 : (Nat → Nat → Int32)) (l1 : (Nat → Nat → Int64)) (M : List S6), p - q = d → q ≤ p → St f1 l1 M → MulP S n p r q 0 0 M → M.length ≤ base + q * (p * r) → WM k_Ref_multiply p_Ref_multiply_4 [.ref 54, .int (nI j), .int (nI n), .int (nI p), .int (nI r), .int (nI u), .int (nI q), Jv, Jv] [] (sil h f1 l1) 0 0 Rt := by
            intro d
            induction d with
            | zero =>
              intro q f1 l1 M hd hq st mp len
              have eq : q = p := by omega
              subst eq
              refine v_Ref_multiply_4 _ _ _ _ _ _ _ _ _ ⟨fun w => absurd w (by omega), fun _ => ?_⟩
              rw [nI_1]
              exact nextr f1 l1 M st mp.nq (by rw [pos2]; exact len)
            | succ d ihq =>
              intro q f1 l1 M hd hq st mp len
              have ql : q < p := by omega
              have qN : q * (p * r) + p * r ≤ p * p * r := by
                rw [pos2, ← Nat.succ_mul]
                exact Nat.mul_le_mul_right _ (by omega)
              refine v_Ref_multiply_4 _ _ _ _ _ _ _ _ _ ⟨fun _ => ?_, fun w => absurd (by rw [nI_toI (by omega), nI_toI (by omega)]; omega) w⟩
              have ls : ∀ d s (f1 : (Nat → Nat → Int32)) (l1 : (Nat → Nat → Int64)) (M : List S6), p - s = d → s ≤ p → St f1 l1 M → MulP S n p r q s 0 M → M.length ≤ base + q * (p * r) + s * r → WM k_Ref_multiply p_Ref_multiply_5 [.ref 54, .int (nI j), .int (nI n), .int (nI p), .int (nI r), .int (nI u), .int (nI q), .int (nI s), Jv] [] (sil h f1 l1) 0 0 Rt := by
                intro d
                induction d with
                | zero =>
                  intro s f1 l1 M hd hs st mp len
                  have es : s = p := by omega
                  subst es
                  refine v_Ref_multiply_5 _ _ _ _ _ _ _ _ _ _ ⟨fun w => absurd w (by omega), fun _ => ?_⟩
                  rw [nI_1]
                  exact ihq (q + 1) f1 l1 M (by omega) (by omega) st mp.ns (by rw [Nat.succ_mul]; omega)
                | succ d ihs =>
                  intro s f1 l1 M hd hs st mp len
                  have sl' : s < p := by omega
                  have sN : s * r + r ≤ p * r := by
                    rw [← Nat.succ_mul]
                    exact Nat.mul_le_mul_right _ (by omega)
                  refine v_Ref_multiply_5 _ _ _ _ _ _ _ _ _ _ ⟨fun _ => ?_, fun w => absurd (by rw [nI_toI (by omega), nI_toI (by omega)]; omega) w⟩
                  have lt : ∀ d t (f1 : (Nat → Nat → Int32)) (l1 : (Nat → Nat → Int64)) (M : List S6), r - t = d → t ≤ r → St f1 l1 M → MulP S n p r q s t M → M.length ≤ base + q * (p * r) + s * r + t → WM k_Ref_multiply p_Ref_multiply_6 [.ref 54, .int (nI j), .int (nI n), .int (nI p), .int (nI r), .int (nI u), .int (nI q), .int (nI s), .int (nI t)] [] (sil h f1 l1) 0 0 Rt := by
                    intro d
                    induction d with
                    | zero =>
                      intro t f1 l1 M hd ht st mp len
                      have et : t = r := by omega
                      subst et
                      refine v_Ref_multiply_6 _ _ _ _ _ _ _ _ _ _ _ ⟨fun w => absurd w (by omega), fun _ => ?_⟩
                      rw [nI_1]
                      exact ihs (s + 1) f1 l1 M (by omega) (by omega) st mp.nt (by rw [Nat.succ_mul]; omega)
                    | succ d iht =>
                      intro t f1 l1 M hd ht st mp len
                      have tl : t < r := by omega
                      have hf' : HnF n p q r s t u := ⟨by omega, by omega, eu, ql, sl', tl⟩
                      obtain ⟨t1, t2, t3, t4, t5, t7, t8, t9⟩ := st
                      refine v_Ref_multiply_6 _ _ _ _ _ _ _ _ _ _ _ ⟨fun _ => ⟨K54, ?_⟩, fun w => absurd (by rw [nI_toI (by omega), nI_toI (by omega)]; omega) w⟩
                      rw [t6, nI_mul, nI_1]
                      refine SpV.mono (sp_oneMultiple (j := j) (n := n) (by omega) oks (fun i hi => by rw [t5 76 (by decide)]; exact six i hi) n12 n1 hf' mp t8 (by omega) t7) ?_
                      rintro _ ⟨f2, l2, M2, rfl, a1, a2, a3, a4, a5, a6, a7⟩
                      refine iht (t + 1) f2 l2 M2 (by omega) (by omega) ⟨t1.trans a1, fun i h1 h2 h3 => by rw [a2 i h1]; exact t2 i h1 h2 h3, by rw [a2 36 (by decide)]; exact t3, by rw [a2 37 (by decide)]; exact t4, t5.trans a3, a4, a5, by omega⟩ a6 (by omega)
                  exact lt _ 0 f1 l1 M rfl (Nat.zero_le _) st mp (by omega)
              exact ls _ 0 f1 l1 M rfl (Nat.zero_le _) st mp (by omega)
          exact lq _ 0 f1 l1 M rfl (Nat.zero_le _) st mp (by omega)
      exact lr _ 1 f1 l1 M rfl (Nat.le_refl _) (by omega) st mp (by omega)
  have new : WM k_Ref_multiply p_Ref_multiply_1 [.ref 54, .int (nI j), .int (nI n), Jv, Jv, Jv, Jv, Jv, Jv] [] (sil h f l) 0 0 Rt := by
    refine v_Ref_multiply_1 _ _ _ _ _ ⟨K54, ?_⟩
    rintro _ rfl _ rfl _ rfl
    rw [wi_sil, wi_sil, wi_sil]
    refine lp _ 1 _ l [] rfl (Nat.le_refl _) (by omega) ⟨((Fr.refl.up (by decide)).up (by decide)).up (by decide), fun i h1 h2 h3 => ?_, ?_, ?_, Fr.refl, up2_s, fun k hk => absurd hk (Nat.not_lt_zero k), Nat.zero_le _⟩ (MulP.beg S n) (Nat.zero_le _)
    · rw [up2_ni h1, up2_ni h3, up2_ni h2]
    · rw [up2_ni (by decide), up2_ni (by decide), up2_s]
    · rw [up2_ni (by decide), up2_s]
  refine v_Ref_multiply _ _ _ _ _ ⟨K54, ?_⟩
  rw [mi_sil]
  refine ⟨fun e1 => ⟨fun e2 => ?_, fun _ => new⟩, fun _ => new⟩
  rcases mu with q | ⟨j', n', M, q⟩
  · rw [q] at e1
    have := congrArg Int32.toInt e1
    rw [nI_toI (by omega), l_m1] at this
    omega
  · have q0 := q
    obtain ⟨q1, q2, q3, q4, q5, q6, q7, q8, q9⟩ := q
    rw [q4] at e1
    rw [q5] at e2
    have a : j' = j := (nI_inj (by omega) (by omega)).mp e1
    have b : n' = n := (nI_inj (by omega) (by omega)).mp e2
    subst a b
    exact ⟨f, l, M, rfl, ⟨Fr.refl, fun _ _ _ _ => rfl⟩, Fr.refl, q0⟩
theorem sp_Ref_multiples {h : MH} {f : (Nat → Nat → Int32)} {l : (Nat → Nat → Int64)} {CS : List S6} (hc : RCel f l CS) (okc : ∀ j, j < CS.length → okC (CS.getD j z6)) (mu : RMu f l CS) (x w : Int32) : SpI k_Ref_multiples [.ref 54, .int x, .int w] (sil h f l) (fun r g => MsA CS x w r ∧ ∃ f' l', g = sil h f' l' ∧ MuF f f' ∧ Fr [79, 80] l l' ∧ RMu f' l' CS) := by
  have hl := hc.1
  have t1 : (1 : Int32).toInt = 1 := rfl
  have t12 : (12 : Int32).toInt = 12 := rfl
  have idn : ∃ f' l', sil h f l = sil h f' l' ∧ MuF f f' ∧ Fr [79, 80] l l' ∧ RMu f' l' CS := ⟨f, l, rfl, ⟨Fr.refl, fun _ _ _ _ => rfl⟩, Fr.refl, mu⟩
  refine v_Ref_multiples _ _ _ _ _ ⟨K54, SpI.mono (sp_Ref_isCell hc x) ?_⟩
  rintro r1 _ ⟨rfl, ⟨j, hj, rfl, rfl⟩ | ⟨no, rfl⟩⟩
  rotate_left
  · exact ⟨fun _ => ⟨_, rfl, Or.inr ⟨ms_no1 hl no, rfl⟩, idn⟩, fun q => absurd rfl q⟩
  rw [t1, t12]
  refine ⟨fun q => absurd q (by decide), fun _ => ⟨fun c => ⟨_, rfl, Or.inr ⟨ms_no2 (by omega), rfl⟩, idn⟩, fun c1 => ⟨fun c => ⟨_, rfl, Or.inr ⟨ms_no2 (by omega), rfl⟩, idn⟩, fun c2 => ?_⟩⟩⟩
  obtain ⟨n, rfl, hn⟩ := op_x (n := 13) (x := w) (by omega) (by omega) (by decide)
  rw [nI_toI (by omega)] at c1 c2
  refine ⟨K54, SpV.mono (sp_multiply hc okc mu hj (by omega) (by omega)) ?_⟩
  rintro _ ⟨f', l', M, rfl, a, b, q⟩
  have q0 := q
  obtain ⟨q1, q2, q3, q4, q5, q6, q7, q8, q9⟩ := q
  rw [mi_sil, q8]
  exact ⟨K54, _, rfl, Or.inl ⟨j, n, hj, by omega, by omega, rfl, rfl, M, q6, rfl⟩, f', l', rfl, a, b, Or.inr ⟨j, n, M, q0⟩⟩
theorem sp_Ref_multiple {h : MH} {f : (Nat → Nat → Int32)} {l : (Nat → Nat → Int64)} {CS : List S6} (hc : RCel f l CS) (okc : ∀ j, j < CS.length → okC (CS.getD j z6)) (mu : RMu f l CS) (x w y z : Int32) : SpL k_Ref_multiple [.ref 54, .int x, .int w, .int y, .int z] (sil h f l) (fun r g => MlA CS x w y z r ∧ ∃ f' l', g = sil h f' l' ∧ MuF f f' ∧ Fr [79, 80] l l' ∧ RMu f' l' CS) := by
  have hl := hc.1
  have t1 : (1 : Int32).toInt = 1 := rfl
  have t5 : (5 : Int32).toInt = 5 := rfl
  have t6 : (6 : Int32) = nI 6 := rfl
  have t12 : (12 : Int32).toInt = 12 := rfl
  have idn : ∃ f' l', sil h f l = sil h f' l' ∧ MuF f f' ∧ Fr [79, 80] l l' ∧ RMu f' l' CS := ⟨f, l, rfl, ⟨Fr.refl, fun _ _ _ _ => rfl⟩, Fr.refl, mu⟩
  refine v_Ref_multiple _ _ _ _ _ _ _ ⟨K54, SpI.mono (sp_Ref_isCell hc x) ?_⟩
  rintro r1 _ ⟨rfl, ⟨j, hj, rfl, rfl⟩ | ⟨no, rfl⟩⟩
  rotate_left
  · exact ⟨fun _ => ⟨_, rfl, Or.inr ⟨ml_no1 hl no, rfl⟩, idn⟩, fun q => absurd rfl q⟩
  rw [t1, t12, t5]
  refine ⟨fun q => absurd q (by decide), fun _ => ⟨fun c => ⟨_, rfl, Or.inr ⟨ml_no2 (by omega), rfl⟩, idn⟩, fun c1 => ⟨fun c => ⟨_, rfl, Or.inr ⟨ml_no2 (by omega), rfl⟩, idn⟩, fun c2 => ⟨fun c => ⟨_, rfl, Or.inr ⟨ml_no3 (by omega), rfl⟩, idn⟩, fun c3 => ⟨fun c => ⟨_, rfl, Or.inr ⟨ml_no3 (by omega), rfl⟩, idn⟩, fun c4 => ⟨fun c => ⟨_, rfl, Or.inr ⟨ml_no4 (by omega), rfl⟩, idn⟩, fun c5 => ?_⟩⟩⟩⟩⟩⟩
  obtain ⟨n, rfl, hn⟩ := op_x (n := 13) (x := w) (by omega) (by omega) (by decide)
  obtain ⟨i, rfl, hi⟩ := op_x (n := 6) (x := z) (by omega) (by omega) (by decide)
  rw [nI_toI (by omega)] at c1 c2
  refine ⟨K54, SpV.mono (sp_multiply hc okc mu hj (by omega) (by omega)) ?_⟩
  rintro _ ⟨f', l', M, rfl, a, b, q⟩
  have q0 := q
  obtain ⟨q1, q2, q3, q4, q5, q6, q7, q8, q9⟩ := q
  have hv : MlV CS (nI j) (nI n) y (nI i) j n i := ⟨hj, by omega, by omega, hi, rfl, rfl, rfl, by omega⟩
  have fin : ∃ f1 l1, sil h f' l' = sil h f1 l1 ∧ MuF f f1 ∧ Fr [79, 80] l l1 ∧ RMu f1 l1 CS := ⟨f', l', rfl, a, b, Or.inr ⟨j, n, M, q0⟩⟩
  rw [mi_sil, q8, nI_toI (by omega)]
  refine ⟨K54, fun lt => ?_, fun ge => ⟨_, rfl, Or.inl ⟨j, n, i, hv, M, q6, q7, Or.inr ⟨ge, rfl⟩⟩, fin⟩⟩
  obtain ⟨k, rfl, hk⟩ := op_x (n := M.length) (x := y) (by omega) lt (by omega)
  rw [R54_34, t6, nI_mul, nI_add, ix_nI (by omega), ml_sil, q9 k hk i hi]
  exact ⟨K80, InB_nI (show 6 * k + i < 3000 by omega) (by omega), _, rfl, Or.inl ⟨j, n, i, hv, M, q6, q7, Or.inl ⟨k, hk, rfl, rfl⟩⟩, fin⟩
