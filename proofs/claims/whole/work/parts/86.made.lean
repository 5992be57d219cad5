/-! the reference's search: what some make, and whether a choice is a half -/
def GC (S GN : List Nat) (g : Nat) : Prop := ∃ i ∈ GN, S.getD i 0 = g
def GnAt (f : (Nat → Nat → Int32)) (n : Nat) (GN : List Nat) : Prop := ∀ i, i < GN.length → f 73 i = nI (GN.getD i 0) ∧ GN.getD i 0 < n
theorem GnAt.fr {f f' : (Nat → Nat → Int32)} {n : Nat} {GN : List Nat} (h : GnAt f n GN) (e : f' 73 = f 73) : GnAt f' n GN := fun i hi => by rw [e]; exact h i hi
theorem qlen {n : Nat} (Q : List Nat) (hn : Q.Nodup) (hq : ∀ q ∈ Q, q < n) : Q.length ≤ n := by
  have := sub_len Q (List.range n) hn (fun x hx => List.mem_range.mpr (hq x hx))
  rw [List.length_range] at this
  exact this
theorem ls_len (Q : List Nat) (j : Nat) : (Q ++ [j]).length = Q.length + 1 := by rw [List.length_append]; rfl
theorem ls_nodup {Q : List Nat} {j : Nat} (h : Q.Nodup) (n : j ∉ Q) : (Q ++ [j]).Nodup := List.nodup_append.mpr ⟨h, List.nodup_cons.mpr ⟨by simp, List.nodup_nil⟩, fun a ha b hb e => by
  rw [List.mem_singleton] at hb
  exact n (by rw [← hb, ← e]; exact ha)⟩
theorem ls_mem {Q : List Nat} {j x : Nat} : x ∈ Q ++ [j] ↔ x ∈ Q ∨ x = j := by rw [List.mem_append, List.mem_singleton]
def OrbL (f : (Nat → Nat → Int32)) (Q : List Nat) : Prop := ∀ j, j < Q.length → f 74 j = nI (Q.getD j 0)
theorem OrbL.add {f : (Nat → Nat → Int32)} {Q : List Nat} {j : Nat} (h : OrbL f Q) : OrbL (up2 f 74 Q.length (nI j)) (Q ++ [j]) := fun i hi => by
  rw [ls_len] at hi
  by_cases e : i = Q.length
  · subst e; rw [up2_s, getD_end]
  · rw [up2_ni e, getD_left (by omega)]; exact h i (by omega)
/-- what is closed under the makers holds all that they make -/
theorem cl_reach {S GN Q : List Nat} (ok : GOk S) (hQ : ∀ q ∈ Q, q < S.length) {e : Nat} (he : e ∈ Q) (ee : S.getD e 0 = idc) (cl : ∀ q ∈ Q, ∀ i ∈ GN, ∀ p, p < S.length → Pr (S.getD q 0) (S.getD i 0) (S.getD p 0) → p ∈ Q) (hG : ∀ i ∈ GN, i < S.length) : ∀ y, reach (GC S GN) y → ∃ j ∈ Q, S.getD j 0 = y := by
  refine reach_ind _ ⟨e, he, ee⟩ ?_
  rintro x g y _ ⟨j, hj, ej⟩ ⟨i, hi, ei⟩ p
  obtain ⟨y', hy, py⟩ := ok.2.2.2.2 _ (getD_mem (hQ j hj)) _ (getD_mem (hG i hi))
  rw [ej, ei] at py
  rw [py.fn p] at hy
  obtain ⟨k, hk, ek⟩ := mem_getD hy
  exact ⟨k, cl j hj i hi k hk (by rw [ej, ei, ek]; exact p), ek⟩
theorem sp_Ref_made {h : MH} {f : (Nat → Nat → Int32)} {l : (Nat → Nat → Int64)} {S GN : List Nat} {e : Nat} (ok : GOk S) (tb : TbAt f S) (gn : GnAt f S.length GN) (g8 : GN.length ≤ 8) (he : e < S.length) (ee : S.getD e 0 = idc) (z : ∀ j, j < S.length → f 72 j = nI 0) :
    SpI k_Ref_made [.ref 54, .int (nI e), .int (nI GN.length)] (sil h f l) (fun r g => (∃ Q : List Nat, Q.Nodup ∧ (∀ q ∈ Q, q < S.length) ∧ (∀ j, j < S.length → (j ∈ Q ↔ reach (GC S GN) (S.getD j 0))) ∧ r = nI Q.length) ∧ ∃ f', g = sil h f' l ∧ Fr [72, 74] f f') := by
  have w := ok.2.1
  have t192 : (192 : Int32) = nI 192 := rfl
  have hG : ∀ i ∈ GN, i < S.length := fun i hi => by
    obtain ⟨k, hk, ek⟩ := mem_getD hi
    rw [← ek]; exact (gn k hk).2
  let Rt : Value → MH → Prop := fun v g => ∃ r, v = .int r ∧ (∃ Q : List Nat, Q.Nodup ∧ (∀ q ∈ Q, q < S.length) ∧ (∀ j, j < S.length → (j ∈ Q ↔ reach (GC S GN) (S.getD j 0))) ∧ r = nI Q.length) ∧ ∃ f', g = sil h f' l ∧ Fr [72, 74] f f'
  let Inv : Nat → (Nat → Nat → Int32) → List Nat → Prop := fun k f1 Q => Fr [72, 74] f f1 ∧ Q.Nodup ∧ (∀ q ∈ Q, q < S.length ∧ reach (GC S GN) (S.getD q 0)) ∧ e ∈ Q ∧ OrbL f1 Q ∧ Mk2 f1 S.length (· ∈ Q) ∧ ∀ k', k' < k → ∀ i ∈ GN, ∀ p, p < S.length → Pr (S.getD (Q.getD k' 0) 0) (S.getD i 0) (S.getD p 0) → p ∈ Q
  have outer : ∀ d k (f1 : (Nat → Nat → Int32)) (Q : List Nat), S.length - k = d → k ≤ Q.length → Inv k f1 Q →
      WM k_Ref_made p_Ref_made_1 [.ref 54, Jv, .int (nI GN.length), .int (nI Q.length), .int (nI k), Jv, Jv] [] (sil h f1 l) 0 0 Rt := by
    have stop : ∀ k (f1 : (Nat → Nat → Int32)) (Q : List Nat), k = Q.length → Inv k f1 Q → Rt (.int (nI Q.length)) (sil h f1 l) := by
      rintro k f1 Q rfl ⟨fr, nd, rq, eq, ol, mk, cl⟩
      refine ⟨_, rfl, ⟨Q, nd, fun q hq => (rq q hq).1, fun j hj => ⟨fun hj => (rq j hj).2, fun r => ?_⟩, rfl⟩, f1, rfl, fr⟩
      obtain ⟨j', hj', ej⟩ := cl_reach ok (fun q hq => (rq q hq).1) eq ee (fun q hq i hi p hp pp => by
        obtain ⟨k', hk', ek⟩ := mem_getD hq
        exact cl k' hk' i hi p hp (by rw [ek]; exact pp)) hG _ r
      rw [srt_ix ok.1 hj (rq j' hj').1 ej.symm]
      exact hj'
    intro d
    induction d with
    | zero =>
      intro k f1 Q hd hk I
      have ql := qlen Q I.2.1 (fun q hq => (I.2.2.1 q hq).1)
      refine v_Ref_made_1 _ _ _ _ _ _ ?_
      rw [nI_toI (by omega), nI_toI (by omega)]
      exact ⟨fun q => absurd q (by omega), fun _ => stop k f1 Q (by omega) I⟩
    | succ d ih =>
      intro k f1 Q hd hk I
      have ql := qlen Q I.2.1 (fun q hq => (I.2.2.1 q hq).1)
      refine v_Ref_made_1 _ _ _ _ _ _ ?_
      rw [nI_toI (by omega), nI_toI (by omega)]
      refine ⟨fun q => ?_, fun q => stop k f1 Q (by omega) I⟩
      have inner : ∀ c i (f1 : (Nat → Nat → Int32)) (Q : List Nat), GN.length - i = c → i ≤ GN.length → k < Q.length → Inv k f1 Q → (∀ i', i' < i → ∀ p, p < S.length → Pr (S.getD (Q.getD k 0) 0) (S.getD (GN.getD i' 0) 0) (S.getD p 0) → p ∈ Q) →
          WM k_Ref_made p_Ref_made_2 [.ref 54, Jv, .int (nI GN.length), .int (nI Q.length), .int (nI k), .int (nI i), Jv] [] (sil h f1 l) 0 0 Rt := by
        intro c
        induction c with
        | zero =>
          intro i f1 Q hc hi kl I dn
          refine v_Ref_made_2 _ _ _ _ _ _ _ ⟨fun q => absurd q (by rw [nI_toI (by omega), nI_toI (by omega)]; omega), fun _ => ?_⟩
          rw [nI_1]
          refine ih (k + 1) f1 Q (by omega) (by omega) ⟨I.1, I.2.1, I.2.2.1, I.2.2.2.1, I.2.2.2.2.1, I.2.2.2.2.2.1, fun k' hk' i' hi' p hp pp => ?_⟩
          by_cases e : k' = k
          · subst e
            obtain ⟨a, ha, ea⟩ := mem_getD hi'
            exact dn a (by omega) p hp (by rw [ea]; exact pp)
          · exact I.2.2.2.2.2.2 k' (by omega) i' hi' p hp pp
        | succ c ihc =>
          intro i f1 Q hc hi kl I dn
          have ql := qlen Q I.2.1 (fun q hq => (I.2.2.1 q hq).1)
          have il : i < GN.length := by omega
          have qk := I.2.2.1 _ (getD_mem kl)
          have gi := gn i il
          obtain ⟨p, hp, ep, pp⟩ := tb (Q.getD k 0) (GN.getD i 0) qk.1 gi.2
          have e71 : f1 71 = f 71 := I.1 71 (by decide)
          have e73 : f1 73 = f 73 := I.1 73 (by decide)
          have rp : reach (GC S GN) (S.getD p 0) := reach_step qk.2 ⟨_, getD_mem il, rfl⟩ pp
          have un : ∀ p', p' < S.length → Pr (S.getD (Q.getD k 0) 0) (S.getD (GN.getD i 0) 0) (S.getD p' 0) → p' = p := fun p' hp' pp' => srt_ix ok.1 hp' hp (pp'.fn pp)
          refine v_Ref_made_2 _ _ _ _ _ _ _ ?_
          rw [nI_toI (by omega), nI_toI (by omega), R54_24, R54_25, R54_26, R54_27, ix_nI (by omega), ix_nI (by omega), mi_sil, e73, gi.1, I.2.2.2.2.1 k kl, t192, nI_mul, nI_add, ix_nI (by omega), e71, ep, ix_nI (by omega), ix_nI (by omega)]
          simp only [nI_1]
          refine ⟨fun _ => ⟨K54, K74, InB_nI (show k < 200 by omega) (by omega), K73, InB_nI (show i < 16 by omega) (by omega), K71, InB_nI (show 192 * Q.getD k 0 + GN.getD i 0 < 36864 by omega) (by omega), K72, InB_nI (show p < 200 by omega) (by omega), fun q0 => ?_, fun q1 => ?_⟩, fun q => absurd (by omega) q⟩
          · have nm : p ∉ Q := by
              rcases I.2.2.2.2.2.1 p hp with q | q
              · exact q.2
              · rw [q.1] at q0; exact absurd q0 (by decide)
            rintro _ rfl
            have l2 := qlen _ (ls_nodup I.2.1 nm) (fun x hx => (ls_mem.mp hx).elim (fun q => (I.2.2.1 x q).1) (fun q => q ▸ hp))
            rw [ls_len] at l2
            refine ⟨InB_nI (show Q.length < 200 by omega) (by omega), ?_⟩
            rintro _ rfl
            rw [wi_sil, wi_sil, ← ls_len Q p]
            refine ihc (i + 1) _ (Q ++ [p]) (by omega) (by omega) (by rw [ls_len]; omega) ⟨(I.1.up (by decide)).up (by decide), ls_nodup I.2.1 nm, fun q hq => ?_, ls_mem.mpr (Or.inl I.2.2.2.1), ?_, ?_, fun k' hk' i' hi' p' hp' pp' => ?_⟩ (fun i' hi' p' hp' pp' => ?_)
            · rcases ls_mem.mp hq with q | q
              · exact I.2.2.1 _ q
              · rw [q]; exact ⟨hp, rp⟩
            · have o1 : OrbL (up2 f1 72 p 1) Q := fun j hj => by rw [up2_ne (by decide)]; exact I.2.2.2.2.1 j hj
              exact o1.add
            · have m1 := (I.2.2.2.2.2.1.set (b := p)).iff (fun j _ => (ls_mem (Q := Q) (j := p) (x := j)).symm)
              intro j hj
              rw [up2_ne (by decide)]
              exact m1 j hj
            · rw [getD_left (by omega)] at pp'
              exact ls_mem.mpr (Or.inl (I.2.2.2.2.2.2 k' hk' i' hi' p' hp' pp'))
            · rw [getD_left kl] at pp'
              by_cases e : i' = i
              · subst e
                exact ls_mem.mpr (Or.inr (un p' hp' pp'))
              · exact ls_mem.mpr (Or.inl (dn i' (by omega) p' hp' pp'))
          · have my : p ∈ Q := by
              rcases I.2.2.2.2.2.1 p hp with q | q
              · rw [q.1] at q1; exact absurd rfl q1
              · exact q.2
            refine ihc (i + 1) f1 Q (by omega) (by omega) kl I (fun i' hi' p' hp' pp' => ?_)
            by_cases e : i' = i
            · subst e; rw [un p' hp' pp']; exact my
            · exact dn i' (by omega) p' hp' pp'
      exact inner _ 0 f1 Q rfl (Nat.zero_le _) (by omega) I (fun i' hi' => absurd hi' (Nat.not_lt_zero i'))
  refine v_Ref_made _ _ _ _ _ ⟨K54, ?_⟩
  rw [R54_27, R54_25, ix_nI (by omega)]
  refine ⟨K74, InB_nI (a := 0) (show 0 < 200 by decide) (by decide), ?_⟩
  rintro _ rfl
  refine ⟨K72, InB_nI (show e < 200 by omega) (by omega), ?_⟩
  rintro _ rfl
  rw [wi_sil, wi_sil]
  refine outer _ 0 _ [e] rfl (Nat.zero_le _) ⟨(Fr.refl.up (by decide)).up (by decide), by simp, fun q hq => ?_, List.mem_singleton.mpr rfl, fun j hj => ?_, fun j hj => ?_, fun k' hk' => absurd hk' (Nat.not_lt_zero k')⟩
  · rw [List.mem_singleton] at hq; rw [hq, ee]; exact ⟨he, reach_id⟩
  · have : j = 0 := by simp only [List.length_cons, List.length_nil] at hj; omega
    subst this
    rw [up2_ne (by decide)]; exact up2_s
  · by_cases q : j = e
    · subst q; exact Or.inr ⟨by rw [up2_s]; rfl, List.mem_singleton.mpr rfl⟩
    · rw [up2_ni q, up2_ne (by decide)]
      exact Or.inl ⟨z j hj, fun w => q (List.mem_singleton.mp w)⟩
