/-! whether a choice is a half -/
theorem sh_bit : ∀ c, c < 128 → ∀ i, i < 7 → ((((nI c) >>> ((nI i) &&& (31 : Int32))) &&& (1 : Int32) = 0) ↔ c.testBit i = false) := by decide +kernel
def b12 (b : Bool) : Int32 := nI (if b then 2 else 1)
theorem b12_n0 (b : Bool) : b12 b ≠ 0 := by cases b <;> decide
theorem b12_inj {a b : Bool} : (b12 a = b12 b) ↔ a = b := by cases a <;> cases b <;> decide
theorem b12_3 (b : Bool) : (3 : Int32) - b12 b = b12 (!b) := by cases b <;> decide
/-- the marks: 0 beyond the queue, else 1 or 2 by a side -/
def Mk3 (f : (Nat → Nat → Int32)) (n : Nat) (Q : List Nat) (μ : Nat → Bool) : Prop := ∀ j, j < n → (f 72 j = 0 ∧ j ∉ Q) ∨ (f 72 j = b12 (μ j) ∧ j ∈ Q)
theorem Mk3.add {f : (Nat → Nat → Int32)} {n p : Nat} {Q : List Nat} {μ : Nat → Bool} {b : Bool} (h : Mk3 f n Q μ) (np : p ∉ Q) : Mk3 (up2 f 72 p (b12 b)) n (Q ++ [p]) (fun j => if j = p then b else μ j) := fun j hj => by
  by_cases e : j = p
  · subst e; refine Or.inr ⟨?_, ls_mem.mpr (Or.inr rfl)⟩
    rw [up2_s]; dsimp only; rw [if_pos rfl]
  · rw [up2_ni e]; dsimp only; rw [if_neg e]
    rcases h j hj with q | q
    · exact Or.inl ⟨q.1, fun w => (ls_mem.mp w).elim q.2 e⟩
    · exact Or.inr ⟨q.1, ls_mem.mpr (Or.inl q.2)⟩
def Agr (S GN : List Nat) (c : Nat) (m : Nat → Bool) : Prop := HomI S m ∧ ∀ i, i < GN.length → m (GN.getD i 0) = c.testBit i
def HfP (f : (Nat → Nat → Int32)) (S GN : List Nat) (c : Nat) (r : Int32) (f' : (Nat → Nat → Int32)) : Prop := (r = 1 ∧ ∃ m, Agr S GN c m ∧ (∀ i, S.length ≤ i → m i = false) ∧ ∀ j, j < S.length → f' 72 j = b12 (m j)) ∨ (r = 0 ∧ ¬ ∃ m, Agr S GN c m)
theorem sp_Ref_isHalf {h : MH} {f : (Nat → Nat → Int32)} {l : (Nat → Nat → Int64)} {S GN : List Nat} {e c : Nat} (ok : GOk S) (tb : TbAt f S) (gn : GnAt f S.length GN) (g7 : GN.length ≤ 7) (hc : c < 128) (he : e < S.length) (ee : S.getD e 0 = idc) (all : ∀ j, j < S.length → reach (GC S GN) (S.getD j 0)) :
    SpI k_Ref_isHalf [.ref 54, .int (nI e), .int (nI S.length), .int (nI GN.length), .int (nI c)] (sil h f l) (fun r g => ∃ f', g = sil h f' l ∧ Fr [72, 74] f f' ∧ HfP f S GN c r f') := by
  have w := ok.2.1
  have t192 : (192 : Int32) = nI 192 := rfl
  have hG : ∀ i ∈ GN, i < S.length := fun i hi => by
    obtain ⟨k, hk, ek⟩ := mem_getD hi
    rw [← ek]; exact (gn k hk).2
  let Rt : Value → MH → Prop := fun v g => ∃ r, v = .int r ∧ ∃ f', g = sil h f' l ∧ Fr [72, 74] f f' ∧ HfP f S GN c r f'
  let Inv : Nat → (Nat → Nat → Int32) → List Nat → (Nat → Bool) → Prop := fun k f1 Q μ => Fr [72, 74] f f1 ∧ (Q.Nodup ∧ (∀ q ∈ Q, q < S.length) ∧ e ∈ Q ∧ μ e = false) ∧ OrbL f1 Q ∧ Mk3 f1 S.length Q μ ∧ (∀ m, Agr S GN c m → ∀ q ∈ Q, m q = μ q) ∧ ∀ k', k' < k → ∀ i, i < GN.length → ∀ p, p < S.length → Pr (S.getD (Q.getD k' 0) 0) (S.getD (GN.getD i 0) 0) (S.getD p 0) → p ∈ Q ∧ μ p = (μ (Q.getD k' 0) ^^ c.testBit i)
  have outer : ∀ d k (f1 : (Nat → Nat → Int32)) (Q : List Nat) (μ : Nat → Bool), S.length - k = d → k ≤ Q.length → Inv k f1 Q μ →
      WM k_Ref_isHalf p_Ref_isHalf_2 [.ref 54, Jv, Jv, .int (nI GN.length), .int (nI c), .int (nI Q.length), .int (nI k), Jv, Jv, Jv] [] (sil h f1 l) 0 0 Rt := by
    have stop : ∀ k (f1 : (Nat → Nat → Int32)) (Q : List Nat) (μ : Nat → Bool), k = Q.length → Inv k f1 Q μ → Rt (.int 1) (sil h f1 l) := by
      rintro k f1 Q μ rfl ⟨fr, ⟨nd, rq, eq, μe⟩, ol, mk, ag, cl⟩
      have clq : ∀ q ∈ Q, ∀ i, i < GN.length → ∀ p, p < S.length → Pr (S.getD q 0) (S.getD (GN.getD i 0) 0) (S.getD p 0) → p ∈ Q ∧ μ p = (μ q ^^ c.testBit i) := fun q hq i hi p hp pp => by
        obtain ⟨k', hk', ek⟩ := mem_getD hq
        have := cl k' hk' i hi p hp (by rw [ek]; exact pp)
        rw [ek] at this
        exact this
      have full : ∀ j, j < S.length → j ∈ Q := fun j hj => by
        obtain ⟨j', hj', ej⟩ := cl_reach ok rq eq ee (fun q hq i hi p hp pp => by
          obtain ⟨a, ha, ea⟩ := mem_getD hi
          exact (clq q hq a ha p hp (by rw [ea]; exact pp)).1) hG _ (all j hj)
        rw [srt_ix ok.1 hj (rq j' hj') ej.symm]
        exact hj'
      have hom : HomI S μ := by
        have key : ∀ y, reach (GC S GN) y → ∀ i j k, i < S.length → j < S.length → k < S.length → S.getD j 0 = y → Pr (S.getD i 0) (S.getD j 0) (S.getD k 0) → μ k = (μ i ^^ μ j) := by
          refine reach_ind _ ?_ ?_
          · intro i j k hi hj hk ej p
            rw [ej] at p
            have e1 := p.fn (Pr.id_r (ok.c _ (getD_mem hi)))
            rw [srt_ix ok.1 hk hi e1, srt_ix ok.1 hj he (ej.trans ee.symm), μe, Bool.xor_false]
          · rintro x g y rx ih ⟨a, ha, ea⟩ pxy i j k hi hj hk ej p
            obtain ⟨b, hb, eb⟩ := mem_getD ha
            have xS : x ∈ S := by
              obtain ⟨q, hq, eq⟩ := cl_reach ok rq eq ee (fun q hq i hi p hp pp => full p hp) hG _ rx
              rw [← eq]; exact getD_mem (rq q hq)
            obtain ⟨u, hu, eu⟩ := mem_getD xS
            -- i * x = v, v * g = k
            obtain ⟨vv, hv, pv⟩ := ok.2.2.2.2 _ (getD_mem hi) x xS
            obtain ⟨v, hv, ev⟩ := mem_getD hv
            obtain ⟨kk, hkk, pk⟩ := ok.2.2.2.2 vv (by rw [← ev]; exact getD_mem hv) _ (getD_mem (hG a ha))
            rw [ea] at pk
            have q := pv.assoc pxy pk
            rw [ej] at p
            have ek := q.fn p
            rw [ek] at pk
            have m1 := ih i u v hi hu hv eu (by rw [eu, ev]; exact pv)
            have m2 := (clq v (full v hv) b hb k hk (by rw [ev, eb, ea]; exact pk)).2
            have m3 := (clq u (full u hu) b hb j hj (by rw [eu, eb, ea, ej]; exact pxy)).2
            rw [m2, m1, m3, Bool.xor_assoc]
        exact fun i j k hi hj hk p => key _ (all j hj) i j k hi hj hk rfl p
      have gb : ∀ i, i < GN.length → μ (GN.getD i 0) = c.testBit i := fun i hi => by
        have g := gn i hi
        have := (clq e eq i hi (GN.getD i 0) g.2 (by rw [ee]; exact Pr.id_l (ok.c _ (getD_mem g.2)))).2
        rw [this, μe, Bool.false_xor]
      refine ⟨_, rfl, f1, rfl, fr, Or.inl ⟨rfl, fun i => if i < S.length then μ i else false, ⟨fun i j k hi hj hk p => ?_, fun i hi => ?_⟩, fun i hi => if_neg (by omega), fun j hj => ?_⟩⟩
      · dsimp only; rw [if_pos hi, if_pos hj, if_pos hk]; exact hom i j k hi hj hk p
      · dsimp only; rw [if_pos (gn i hi).2]; exact gb i hi
      · dsimp only; rw [if_pos hj]
        rcases mk j hj with q | q
        · exact absurd (full j hj) q.2
        · exact q.1
    intro d
    induction d with
    | zero =>
      intro k f1 Q μ hd hk I
      have ql := qlen Q I.2.1.1 I.2.1.2.1
      refine v_Ref_isHalf_2 _ _ _ _ _ _ _ ?_
      rw [nI_toI (by omega), nI_toI (by omega)]
      exact ⟨fun q => absurd q (by omega), fun _ => stop k f1 Q μ (by omega) I⟩
    | succ d ih =>
      intro k f1 Q μ hd hk I
      have ql := qlen Q I.2.1.1 I.2.1.2.1
      refine v_Ref_isHalf_2 _ _ _ _ _ _ _ ?_
      rw [nI_toI (by omega), nI_toI (by omega)]
      refine ⟨fun q => ?_, fun q => stop k f1 Q μ (by omega) I⟩
      have inner : ∀ b i (f1 : (Nat → Nat → Int32)) (Q : List Nat) (μ : Nat → Bool), GN.length - i = b → i ≤ GN.length → k < Q.length → Inv k f1 Q μ → (∀ i', i' < i → ∀ p, p < S.length → Pr (S.getD (Q.getD k 0) 0) (S.getD (GN.getD i' 0) 0) (S.getD p 0) → p ∈ Q ∧ μ p = (μ (Q.getD k 0) ^^ c.testBit i')) →
          WM k_Ref_isHalf p_Ref_isHalf_3 [.ref 54, Jv, Jv, .int (nI GN.length), .int (nI c), .int (nI Q.length), .int (nI k), .int (nI i), Jv, Jv] [] (sil h f1 l) 0 0 Rt := by
        intro b
        induction b with
        | zero =>
          intro i f1 Q μ hb hi kl I dn
          refine v_Ref_isHalf_3 _ _ _ _ _ _ _ _ ⟨fun q => absurd q (by rw [nI_toI (by omega), nI_toI (by omega)]; omega), fun _ => ?_⟩
          rw [nI_1]
          refine ih (k + 1) f1 Q μ (by omega) (by omega) ⟨I.1, I.2.1, I.2.2.1, I.2.2.2.1, I.2.2.2.2.1, fun k' hk' i' hi' p hp pp => ?_⟩
          by_cases e : k' = k
          · subst e; exact dn i' (by omega) p hp pp
          · exact I.2.2.2.2.2 k' (by omega) i' hi' p hp pp
        | succ b ihb =>
          intro i f1 Q μ hb hi kl I dn
          have ql := qlen Q I.2.1.1 I.2.1.2.1
          have il : i < GN.length := by omega
          have qk := I.2.1.2.1 _ (getD_mem kl)
          have gi := gn i il
          obtain ⟨p, hp, ep, pp⟩ := tb (Q.getD k 0) (GN.getD i 0) qk gi.2
          have e71 : f1 71 = f 71 := I.1 71 (by decide)
          have e73 : f1 73 = f 73 := I.1 73 (by decide)
          have un : ∀ p', p' < S.length → Pr (S.getD (Q.getD k 0) 0) (S.getD (GN.getD i 0) 0) (S.getD p' 0) → p' = p := fun p' hp' pp' => srt_ix ok.1 hp' hp (pp'.fn pp)
          have sd : ∀ m, Agr S GN c m → m p = (μ (Q.getD k 0) ^^ c.testBit i) := fun m hm => by
            rw [hm.1 _ _ _ qk gi.2 hp pp, I.2.2.2.2.1 m hm _ (getD_mem kl), hm.2 i il]
          have mq : f1 72 (Q.getD k 0) = b12 (μ (Q.getD k 0)) := by
            rcases I.2.2.2.1 _ qk with q | q
            · exact absurd (getD_mem kl) q.2
            · exact q.1
          have last : WM k_Ref_isHalf p_Ref_isHalf_4 [.ref 54, Jv, Jv, .int (nI GN.length), .int (nI c), .int (nI Q.length), .int (nI k), .int (nI i), .int (nI p), Jv] [.int (b12 (μ (Q.getD k 0) ^^ c.testBit i))] (sil h f1 l) 0 0 Rt := by
            generalize hs : (μ (Q.getD k 0) ^^ c.testBit i) = s at *
            refine v_Ref_isHalf_4 _ _ _ _ _ _ _ _ _ _ ⟨K54, ?_⟩
            rw [R54_25, R54_27, ix_nI (by omega), ix_nI (by omega), mi_sil]
            simp only [nI_1]
            refine ⟨K72, InB_nI (show p < 200 by omega) (by omega), fun q0 => ?_, fun q1 => ⟨fun q2 => ?_, fun q2 => ?_⟩⟩
            · have nm : p ∉ Q := by
                rcases I.2.2.2.1 p hp with q | q
                · exact q.2
                · rw [q.1] at q0; exact absurd q0 (b12_n0 _)
              rintro _ rfl
              have l2 := qlen _ (ls_nodup I.2.1.1 nm) (fun x hx => (ls_mem.mp hx).elim (fun q => I.2.1.2.1 x q) (fun q => q ▸ hp))
              rw [ls_len] at l2
              refine ⟨K74, InB_nI (show Q.length < 200 by omega) (by omega), ?_⟩
              rintro _ rfl
              have nq : ∀ q ∈ Q, q ≠ p := fun q hq e => nm (e ▸ hq)
              rw [wi_sil, wi_sil, ← ls_len Q p]
              refine ihb (i + 1) _ (Q ++ [p]) (fun j => if j = p then s else μ j) (by omega) (by omega) (by rw [ls_len]; omega) ⟨(I.1.up (by decide)).up (by decide), ⟨ls_nodup I.2.1.1 nm, fun q hq => ?_, ls_mem.mpr (Or.inl I.2.1.2.2.1), ?_⟩, ?_, ?_, fun m hm q hq => ?_, fun k' hk' i' hi' p' hp' pp' => ?_⟩ (fun i' hi' p' hp' pp' => ?_)
              · rcases ls_mem.mp hq with q | q
                · exact I.2.1.2.1 _ q
                · rw [q]; exact hp
              · show (if e = p then s else μ e) = false
                rw [if_neg (nq e I.2.1.2.2.1)]; exact I.2.1.2.2.2
              · have o1 : OrbL (up2 f1 72 p (b12 s)) Q := fun j hj => by rw [up2_ne (by decide)]; exact I.2.2.1 j hj
                exact o1.add
              · have m1 := I.2.2.2.1.add (b := s) nm
                intro j hj
                rw [up2_ne (by decide)]
                exact m1 j hj
              · show m q = if q = p then s else μ q
                rcases ls_mem.mp hq with z | z
                · rw [if_neg (nq q z)]; exact I.2.2.2.2.1 m hm q z
                · rw [if_pos z, z]; exact sd m hm
              · rw [getD_left (by omega)] at pp' ⊢
                have z := I.2.2.2.2.2 k' hk' i' hi' p' hp' pp'
                refine ⟨ls_mem.mpr (Or.inl z.1), ?_⟩
                show (if p' = p then s else μ p') = ((if Q.getD k' 0 = p then s else μ (Q.getD k' 0)) ^^ _)
                rw [if_neg (nq _ z.1), if_neg (nq _ (getD_mem (by omega)))]; exact z.2
              · rw [getD_left kl] at pp' ⊢
                show _ ∧ (if p' = p then s else μ p') = ((if Q.getD k 0 = p then s else μ (Q.getD k 0)) ^^ _)
                rw [if_neg (nq _ (getD_mem kl))]
                by_cases e : i' = i
                · subst e
                  rw [un p' hp' pp', if_pos rfl]
                  exact ⟨ls_mem.mpr (Or.inr rfl), hs.symm⟩
                · have z := dn i' (by omega) p' hp' pp'
                  rw [if_neg (nq _ z.1)]
                  exact ⟨ls_mem.mpr (Or.inl z.1), z.2⟩
            · have my : f1 72 p = b12 (μ p) ∧ p ∈ Q := by
                rcases I.2.2.2.1 p hp with q | q
                · exact absurd q.1 q1
                · exact q
              rw [my.1, b12_inj] at q2
              refine ihb (i + 1) f1 Q μ (by omega) (by omega) kl I (fun i' hi' p' hp' pp' => ?_)
              by_cases e : i' = i
              · subst e; rw [un p' hp' pp']; exact ⟨my.2, q2.trans hs.symm⟩
              · exact dn i' (by omega) p' hp' pp'
            · have my : f1 72 p = b12 (μ p) ∧ p ∈ Q := by
                rcases I.2.2.2.1 p hp with q | q
                · exact absurd q.1 q1
                · exact q
              rw [my.1, b12_inj] at q2
              exact ⟨_, rfl, f1, rfl, I.1, Or.inr ⟨rfl, fun ⟨m, hm⟩ => q2 (by rw [← I.2.2.2.2.1 m hm p my.2]; exact sd m hm)⟩⟩
          refine v_Ref_isHalf_3 _ _ _ _ _ _ _ _ ?_
          rw [nI_toI (by omega), nI_toI (by omega), R54_24, R54_25, R54_26, R54_27, ix_nI (by omega), ix_nI (by omega), mi_sil, e73, gi.1, I.2.2.1 k kl, t192, nI_mul, nI_add, ix_nI (by omega), e71, ep, ix_nI (by omega), mq, b12_3, sh_bit c hc i (by omega)]
          refine ⟨fun _ => ⟨K54, K74, InB_nI (show k < 200 by omega) (by omega), K73, InB_nI (show i < 16 by omega) (by omega), K71, InB_nI (show 192 * Q.getD k 0 + GN.getD i 0 < 36864 by omega) (by omega), fun q0 => ⟨K72, InB_nI (show Q.getD k 0 < 200 by omega) (by omega), ?_⟩, fun q1 => ⟨K72, InB_nI (show Q.getD k 0 < 200 by omega) (by omega), ?_⟩⟩, fun q => absurd (by omega) q⟩
          · rw [q0, Bool.xor_false] at last
            exact last
          · have q1 : c.testBit i = true := by revert q1; cases c.testBit i <;> decide
            rw [q1, Bool.xor_true] at last
            exact last
      exact inner _ 0 f1 Q μ rfl (Nat.zero_le _) (by omega) I (fun i' hi' => absurd hi' (Nat.not_lt_zero i'))
  have clr : ∀ d k (f1 : (Nat → Nat → Int32)), S.length - k = d → k ≤ S.length → Fr [72, 74] f f1 → (∀ j, j < k → f1 72 j = 0) →
      WM k_Ref_isHalf p_Ref_isHalf_1 [.ref 54, .int (nI e), .int (nI S.length), .int (nI GN.length), .int (nI c), .int (nI k), Jv, Jv, Jv, Jv] [] (sil h f1 l) 0 0 Rt := by
    intro d
    induction d with
    | zero =>
      intro k f1 hd hk fr z
      refine v_Ref_isHalf_1 _ _ _ _ _ _ _ _ ⟨fun q => absurd q (by rw [nI_toI (by omega), nI_toI (by omega)]; omega), fun _ => ⟨K54, ?_⟩⟩
      rw [R54_27, R54_25, ix_nI (by omega)]
      refine ⟨K72, InB_nI (show e < 200 by omega) (by omega), ?_⟩
      rintro _ rfl
      refine ⟨K74, InB_nI (a := 0) (show 0 < 200 by decide) (by decide), ?_⟩
      rintro _ rfl
      rw [wi_sil, wi_sil]
      refine outer _ 0 _ [e] (fun _ => false) rfl (Nat.zero_le _) ⟨(fr.up (by decide)).up (by decide), ⟨by simp, fun q hq => ?_, List.mem_singleton.mpr rfl, rfl⟩, fun j hj => ?_, fun j hj => ?_, fun m hm q hq => ?_, fun k' hk' => absurd hk' (Nat.not_lt_zero k')⟩
      · rw [List.mem_singleton] at hq; rw [hq]; exact he
      · have : j = 0 := by simp only [List.length_cons, List.length_nil] at hj; omega
        subst this
        exact up2_s
      · rw [up2_ne (by decide)]
        by_cases q : j = e
        · subst q; exact Or.inr ⟨by rw [up2_s]; rfl, List.mem_singleton.mpr rfl⟩
        · rw [up2_ni q]
          exact Or.inl ⟨z j (by omega), fun w => q (List.mem_singleton.mp w)⟩
      · rw [List.mem_singleton] at hq; rw [hq]; exact hm.1.id he ee
    | succ d ih =>
      intro k f1 hd hk fr z
      refine v_Ref_isHalf_1 _ _ _ _ _ _ _ _ ?_
      rw [nI_toI (by omega), nI_toI (by omega), R54_25, ix_nI (show k < 2147483648 by omega), nI_1]
      refine ⟨fun _ => ⟨K54, K72, InB_nI (show k < 200 by omega) (by omega), ?_⟩, fun q => absurd (by omega) q⟩
      rintro _ rfl
      rw [wi_sil]
      refine ih (k + 1) _ (by omega) (by omega) (fr.up (by decide)) (fun j hj => ?_)
      by_cases e : j = k
      · subst e; rw [up2_s]
      · rw [up2_ni e]; exact z j (by omega)
  exact v_Ref_isHalf _ _ _ _ _ _ _ (clr _ 0 f rfl (Nat.zero_le _) Fr.refl (fun j hj => absurd hj (Nat.not_lt_zero _)))
