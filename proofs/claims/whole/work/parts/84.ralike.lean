/-! the reference's table and its count of what is alike -/
def Mk2 (f : (Nat → Nat → Int32)) (n : Nat) (M : Nat → Prop) : Prop := ∀ j, j < n → (f 72 j = nI 0 ∧ ¬ M j) ∨ (f 72 j = nI 1 ∧ M j)
theorem Mk2.iff {f : (Nat → Nat → Int32)} {n : Nat} {M M' : Nat → Prop} (h : Mk2 f n M) (e : ∀ j, j < n → (M j ↔ M' j)) : Mk2 f n M' := fun j hj => by
  rcases h j hj with ⟨a, b⟩ | ⟨a, b⟩
  · exact Or.inl ⟨a, fun q => b ((e j hj).mpr q)⟩
  · exact Or.inr ⟨a, (e j hj).mp b⟩
theorem Mk2.set {f : (Nat → Nat → Int32)} {n b : Nat} {M : Nat → Prop} (h : Mk2 f n M) : Mk2 (up2 f 72 b (nI 1)) n (fun j => M j ∨ j = b) := fun j hj => by
  by_cases e : j = b
  · subst e; exact Or.inr ⟨up2_s, Or.inr rfl⟩
  · rw [up2_ni e]
    rcases h j hj with q | q
    · exact Or.inl ⟨q.1, fun z => z.elim q.2 e⟩
    · exact Or.inr ⟨q.1, Or.inl q.2⟩
def TbAt (f : (Nat → Nat → Int32)) (S : List Nat) : Prop := ∀ i j, i < S.length → j < S.length → ∃ k, k < S.length ∧ f 71 (192 * i + j) = nI k ∧ Pr (S.getD i 0) (S.getD j 0) (S.getD k 0)
theorem TbAt.fr {f f' : (Nat → Nat → Int32)} {S : List Nat} (h : TbAt f S) (e : f' 71 = f 71) : TbAt f' S := fun i j hi hj => by rw [e]; exact h i j hi hj
def CjI (S : List Nat) (c a b : Nat) : Prop := Cj (S.getD c 0) (S.getD a 0) (S.getD b 0)
theorem alike_ix {S : List Nat} {a b : Nat} : Alike S (S.getD a 0) (S.getD b 0) ↔ ∃ c, c < S.length ∧ CjI S c a b := by
  constructor
  · rintro ⟨c, hc, z⟩
    obtain ⟨i, hi, e⟩ := mem_getD hc
    exact ⟨i, hi, by unfold CjI; rw [e]; exact z⟩
  · rintro ⟨c, hc, z⟩
    exact ⟨_, getD_mem hc, z⟩
theorem tb_cj {S : List Nat} (ok : GOk S) {c a b k k' : Nat} (hk : k < S.length) (hk' : k' < S.length) (p : Pr (S.getD c 0) (S.getD a 0) (S.getD k 0)) (p' : Pr (S.getD b 0) (S.getD c 0) (S.getD k' 0)) : (nI k' = nI k) = CjI S c a b := by
  have w := ok.2.1
  rw [nI_inj (by omega) (by omega)]
  refine propext ⟨fun e => ⟨_, p, by rw [← e]; exact p'⟩, fun ⟨z, q, q'⟩ => ?_⟩
  have e1 := p.fn q
  have e2 := p'.fn q'
  exact srt_ix ok.1 hk' hk (e2.trans e1.symm)
theorem sp_Ref_countAlike {h : MH} {f : (Nat → Nat → Int32)} {l : (Nat → Nat → Int64)} {S : List Nat} (ok : GOk S) (tb : TbAt f S) : SpI k_Ref_countAlike [.ref 54, .int (nI S.length)] (sil h f l) (fun r g => r = nI (alikeN S) ∧ ∃ f', g = sil h f' l ∧ Fr [72] f f') := by
  have w := ok.2.1
  have t192 : (192 : Int32) = nI 192 := rfl
  have row4 : ∀ d a c b (f1 : (Nat → Nat → Int32)) (s : Int32) (ca : Int32) (Rt : Value → MH → Prop) (M : Nat → Prop), S.length - b = d → b ≤ S.length → a < S.length → c < S.length → Fr [72] f f1 → f 71 (192 * c + a) = ca → Mk2 f1 S.length (fun j => M j ∨ (j < b ∧ CjI S c a j)) →
      (∀ f2 : (Nat → Nat → Int32), Fr [72] f f2 → Mk2 f2 S.length (fun j => M j ∨ CjI S c a j) → WM k_Ref_countAlike p_Ref_countAlike_3 [.ref 54, .int (nI S.length), .int s, .int (nI a), .int (nI (c + 1)), Jv, Jv] [] (sil h f2 l) 0 0 Rt) →
      WM k_Ref_countAlike p_Ref_countAlike_4 [.ref 54, .int (nI S.length), .int s, .int (nI a), .int (nI c), .int ca, .int (nI b)] [] (sil h f1 l) 0 0 Rt := by
    intro d
    induction d with
    | zero =>
      intro a c b f1 s ca Rt M hd hb ha hc fr eca mk go
      refine v_Ref_countAlike_4 _ _ _ _ _ _ _ _ _ ?_
      rw [nI_toI (by omega), nI_toI (by omega)]
      refine ⟨fun q => absurd q (by omega), fun _ => ?_⟩
      rw [nI_1]
      exact go f1 fr (mk.iff (fun j hj => or_congr_right ⟨fun q => q.2, fun q => ⟨by omega, q⟩⟩))
    | succ d ih =>
      intro a c b f1 s ca Rt M hd hb ha hc fr eca mk go
      have bl : b < S.length := by omega
      obtain ⟨k, hk, ek, pk⟩ := tb c a hc ha
      obtain ⟨k', hk', ek', pk'⟩ := tb b c bl hc
      have e71 : f1 71 = f 71 := fr 71 (by decide)
      refine v_Ref_countAlike_4 _ _ _ _ _ _ _ _ _ ?_
      rw [nI_toI (by omega), nI_toI (by omega), R54_24, R54_25, t192, nI_mul, nI_add, ix_nI (by omega), ix_nI (by omega), mi_sil, e71, ek', ← eca, ek, tb_cj ok hk hk' pk pk', nI_1]
      have nx : ∀ j, j < S.length → (((M j ∨ (j < b ∧ CjI S c a j)) ∨ (j = b ∧ CjI S c a b)) ↔ (M j ∨ (j < b + 1 ∧ CjI S c a j))) := fun j hj => by
        constructor
        · rintro ((q | q) | ⟨q, q'⟩)
          · exact Or.inl q
          · exact Or.inr ⟨by omega, q.2⟩
          · subst q; exact Or.inr ⟨by omega, q'⟩
        · rintro (q | ⟨q, q'⟩)
          · exact Or.inl (Or.inl q)
          · by_cases e : j = b
            · subst e; exact Or.inr ⟨rfl, q'⟩
            · exact Or.inl (Or.inr ⟨by omega, q'⟩)
      refine ⟨fun _ => ⟨K54, K71, InB_nI (show 192 * b + c < 36864 by omega) (by omega), fun q => ⟨K72, InB_nI (show b < 200 by omega) (by omega), ?_⟩, fun q => ?_⟩, fun q => absurd (by omega) q⟩
      · rintro _ rfl
        rw [wi_sil, ek.symm.trans eca]
        refine ih a c (b + 1) _ s ca Rt M (by omega) (by omega) ha hc (fr.up (by decide)) eca (mk.set.iff (fun j hj => ?_)) go
        rw [← nx j hj]
        exact or_congr_right ⟨fun z => ⟨z, q⟩, fun z => z.1⟩
      · rw [ek.symm.trans eca]
        refine ih a c (b + 1) f1 s ca Rt M (by omega) (by omega) ha hc fr eca (mk.iff (fun j hj => ?_)) go
        rw [← nx j hj]
        exact ⟨Or.inl, fun z => z.elim id (fun z => absurd z.2 q)⟩
  have row3 : ∀ d a c (f1 : (Nat → Nat → Int32)) (s : Int32) (Rt : Value → MH → Prop) (M : Nat → Prop), S.length - c = d → c ≤ S.length → a < S.length → Fr [72] f f1 → Mk2 f1 S.length (fun j => M j ∨ ∃ c', c' < c ∧ CjI S c' a j) →
      (∀ f2 : (Nat → Nat → Int32), Fr [72] f f2 → Mk2 f2 S.length (fun j => M j ∨ Alike S (S.getD a 0) (S.getD j 0)) → WM k_Ref_countAlike p_Ref_countAlike_2 [.ref 54, .int (nI S.length), .int s, .int (nI (a + 1)), Jv, Jv, Jv] [] (sil h f2 l) 0 0 Rt) →
      WM k_Ref_countAlike p_Ref_countAlike_3 [.ref 54, .int (nI S.length), .int s, .int (nI a), .int (nI c), Jv, Jv] [] (sil h f1 l) 0 0 Rt := by
    intro d
    induction d with
    | zero =>
      intro a c f1 s Rt M hd hc ha fr mk go
      refine v_Ref_countAlike_3 _ _ _ _ _ _ _ ?_
      rw [nI_toI (by omega), nI_toI (by omega)]
      refine ⟨fun q => absurd q (by omega), fun _ => ?_⟩
      rw [nI_1]
      refine go f1 fr (mk.iff (fun j hj => or_congr_right ?_))
      rw [alike_ix]
      exact ⟨fun ⟨c', q, z⟩ => ⟨c', by omega, z⟩, fun ⟨c', q, z⟩ => ⟨c', by omega, z⟩⟩
    | succ d ih =>
      intro a c f1 s Rt M hd hc ha fr mk go
      have e71 : f1 71 = f 71 := fr 71 (by decide)
      refine v_Ref_countAlike_3 _ _ _ _ _ _ _ ?_
      rw [nI_toI (by omega), nI_toI (by omega), R54_24, t192, nI_mul, nI_add, ix_nI (by omega), mi_sil, e71]
      refine ⟨fun _ => ⟨K54, K71, InB_nI (show 192 * c + a < 36864 by omega) (by omega), ?_⟩, fun q => absurd (by omega) q⟩
      refine row4 _ a c 0 f1 s _ Rt _ rfl (Nat.zero_le _) ha (by omega) fr rfl (mk.iff (fun j hj => ⟨Or.inl, fun z => z.elim id (fun z => absurd z.1 (Nat.not_lt_zero _))⟩)) (fun f2 fr2 mk2 => ?_)
      refine ih a (c + 1) f2 s Rt M (by omega) (by omega) ha fr2 (mk2.iff (fun j hj => ?_)) go
      constructor
      · rintro ((q | ⟨c', q, z⟩) | q)
        · exact Or.inl q
        · exact Or.inr ⟨c', by omega, z⟩
        · exact Or.inr ⟨c, by omega, q⟩
      · rintro (q | ⟨c', q, z⟩)
        · exact Or.inl (Or.inl q)
        · by_cases e : c' = c
          · subst e; exact Or.inr z
          · exact Or.inl (Or.inr ⟨c', by omega, z⟩)
  have row2 : ∀ d a (f1 : (Nat → Nat → Int32)), S.length - a = d → a ≤ S.length → Fr [72] f f1 → Mk2 f1 S.length (fun j => Alm S a j) →
      WM k_Ref_countAlike p_Ref_countAlike_2 [.ref 54, .int (nI S.length), .int (nI (alK S a)), .int (nI a), Jv, Jv, Jv] [] (sil h f1 l) 0 0 (fun v g => ∃ r, v = .int r ∧ r = nI (alikeN S) ∧ ∃ f', g = sil h f' l ∧ Fr [72] f f') := by
    intro d
    induction d with
    | zero =>
      intro a f1 hd ha fr mk
      have e : a = S.length := by omega
      subst e
      refine v_Ref_countAlike_2 _ _ _ _ _ _ ⟨fun q => absurd q (by omega), fun _ => ⟨_, rfl, rfl, f1, rfl, fr⟩⟩
    | succ d ih =>
      intro a f1 hd ha fr mk
      have al : a < S.length := by omega
      refine v_Ref_countAlike_2 _ _ _ _ _ _ ?_
      rw [nI_toI (by omega), nI_toI (by omega), R54_25, ix_nI (by omega)]
      simp only [nI_1]
      refine ⟨fun _ => ⟨K54, K72, InB_nI (show a < 200 by omega) (by omega), fun q0 => ?_, fun q1 => ?_⟩, fun q => absurd (by omega) q⟩
      · have nm : ¬ Alm S a a := by
          rcases mk a al with q | q
          · exact q.2
          · rw [mi_sil, q.1] at q0; exact absurd q0 (by decide)
        refine row3 _ a 0 f1 _ _ _ rfl (Nat.zero_le _) al fr (mk.iff (fun j hj => ⟨Or.inl, fun z => z.elim id (fun ⟨_, z, _⟩ => absurd z (Nat.not_lt_zero _))⟩)) (fun f2 fr2 mk2 => ?_)
        rw [← alK_y (Alm.fst.mp nm)]
        exact ih (a + 1) f2 (by omega) (by omega) fr2 (mk2.iff (fun j _ => Alm.s))
      · have my : Alm S a a := by
          rcases mk a al with q | q
          · rw [mi_sil, q.1] at q1; exact absurd rfl q1
          · exact q.2
        rw [← alK_n (fun q => Alm.fst.mpr q my)]
        exact ih (a + 1) f1 (by omega) (by omega) fr (mk.iff (fun j hj => Alm.k ok al my hj))
  have row1 : ∀ d k (f1 : (Nat → Nat → Int32)), S.length - k = d → k ≤ S.length → Fr [72] f f1 → (∀ j, j < k → f1 72 j = nI 0) →
      WM k_Ref_countAlike p_Ref_countAlike_1 [.ref 54, .int (nI S.length), .int (nI k), Jv, Jv, Jv, Jv] [] (sil h f1 l) 0 0 (fun v g => ∃ r, v = .int r ∧ r = nI (alikeN S) ∧ ∃ f', g = sil h f' l ∧ Fr [72] f f') := by
    intro d
    induction d with
    | zero =>
      intro k f1 hd hk fr z
      refine v_Ref_countAlike_1 _ _ _ _ _ ⟨fun q => absurd q (by rw [nI_toI (by omega), nI_toI (by omega)]; omega), fun _ => ?_⟩
      exact row2 _ 0 f1 rfl (Nat.zero_le _) fr (fun j hj => Or.inl ⟨z j (by omega), fun ⟨_, q, _⟩ => absurd q (Nat.not_lt_zero _)⟩)
    | succ d ih =>
      intro k f1 hd hk fr z
      refine v_Ref_countAlike_1 _ _ _ _ _ ?_
      rw [nI_toI (by omega), nI_toI (by omega), R54_25, ix_nI (by omega), nI_1]
      refine ⟨fun _ => ⟨K54, K72, InB_nI (show k < 200 by omega) (by omega), ?_⟩, fun q => absurd (by omega) q⟩
      rintro _ rfl
      rw [wi_sil]
      refine ih (k + 1) _ (by omega) (by omega) (fr.up (by decide)) (fun j hj => ?_)
      by_cases e : j = k
      · subst e; rw [up2_s]; rfl
      · rw [up2_ni e]; exact z j (by omega)
  exact v_Ref_countAlike _ _ _ _ (row1 _ 0 f rfl (Nat.zero_le _) Fr.refl (fun j hj => absurd hj (Nat.not_lt_zero _)))
