/-! the class counts what is alike -/
def MkAt (f : (Nat → Nat → Int32)) (n : Nat) (M : Nat → Prop) : Prop := ∀ j, j < n → (f 41 j = nI 0 ∧ ¬ M j) ∨ (f 41 j = nI 1 ∧ M j)
def AlIds : List Nat := 41 :: 42 :: MoIds
theorem MkAt.iff {f : (Nat → Nat → Int32)} {n : Nat} {M M' : Nat → Prop} (h : MkAt f n M) (e : ∀ j, j < n → (M j ↔ M' j)) : MkAt f n M' := fun j hj => by
  rcases h j hj with ⟨a, b⟩ | ⟨a, b⟩
  · exact Or.inl ⟨a, fun q => b ((e j hj).mpr q)⟩
  · exact Or.inr ⟨a, (e j hj).mp b⟩
theorem al_lt {t : Nat} {O : Nat → Nat} : ∀ a ∈ AlIds, a < 99 ∨ O a ≠ t := fun a ha => Or.inl (by revert a; decide)
theorem al_99 : ∀ a ∈ AlIds, a < 99 := by decide
theorem srt_ix {S : List Nat} (s : S.Pairwise (· < ·)) {i j : Nat} (hi : i < S.length) (hj : j < S.length) (e : S.getD i 0 = S.getD j 0) : i = j := by
  rcases Nat.lt_trichotomy i j with q | q | q
  · have := srt_lt s q hj; omega
  · exact q
  · have := srt_lt s q hi; omega
theorem sp_Ho_markAlike {h : MH} {f : (Nat → Nat → Int32)} {l : (Nat → Nat → Int64)} {O : Nat → Nat} {t g r a0 : Nat} {S MK : List Nat} {M : Nat → Prop} (H : SS h) (ok : GOk S) (b : GrpB (sil h f l) O t g S MK) (cl : Closed S MK) (iv : IvAt (sil h f l) r S MK) (mk : MkAt f S.length M) (Mc : ∀ i j, i < S.length → j < S.length → M i → Alike S (S.getD i 0) (S.getD j 0) → M j) (h0 : a0 < S.length) (n0 : ¬ M a0) :
    SpV k_Ho_markAlike [.ref 5, .ref g, .ref r, .int (nI a0)] (sil h f l) (fun k => ∃ f', k = sil h f' l ∧ Fr AlIds f f' ∧ MkAt f' S.length (fun j => M j ∨ Alike S (S.getD a0 0) (S.getD j 0))) := by
  have w := ok.2.1
  have m7 := cl.m7 w
  have t192 : (192 : Int32).toInt = 192 := rfl
  have inS : ∀ m ∈ MK, m ∈ S := fun m hm => (cl.1 m).mpr (reach_gen cl.2.2.2 hm)
  obtain ⟨⟨r99, rh, kr, lr⟩, IV, hIV⟩ := iv
  have tm : (Int32.ofNat MK.length).toInt = (MK.length : Int) := nI_toI (by omega)
  -- one more by its makers
  let Inv : Nat → (Nat → Nat → Int32) → List Nat → Prop := fun i f1 Q => Fr AlIds f f1 ∧ (Q.Nodup ∧ a0 ∈ Q ∧ ∀ q ∈ Q, q < S.length ∧ ¬ M q ∧ Alike S (S.getD a0 0) (S.getD q 0)) ∧ (∀ j, j < Q.length → f1 42 j = nI (Q.getD j 0)) ∧ MkAt f1 S.length (fun j => M j ∨ j ∈ Q) ∧ (∀ i', i' < i → ∀ m ∈ MK, ∀ j, j < S.length → Cj m (S.getD (Q.getD i' 0) 0) (S.getD j 0) → M j ∨ j ∈ Q)
  have qlen : ∀ Q : List Nat, Q.Nodup → (∀ q ∈ Q, q < S.length) → Q.length ≤ S.length := fun Q hn hq => by
    have := sub_len Q (List.range S.length) hn (fun x hx => List.mem_range.mpr (hq x hx))
    rw [List.length_range] at this
    exact this
  have fin : ∀ (i : Nat) (f1 : (Nat → Nat → Int32)) (Q : List Nat), Inv i f1 Q → i = Q.length → MkAt f1 S.length (fun j => M j ∨ Alike S (S.getD a0 0) (S.getD j 0)) := by
    rintro i f1 Q ⟨fr, ⟨q1, q2, q3⟩, q4, q5, q6⟩ hi
    refine q5.iff (fun j hj => ⟨fun q => q.imp id (fun z => (q3 j z).2.2), fun q => ?_⟩)
    rcases q with q | ⟨c, hc, cj⟩
    · exact Or.inl q
    · have X := cj_close ok cl (fun a => ∀ j, j < S.length → S.getD j 0 = a → M j ∨ j ∈ Q) (fun m hm a ha b' hb' xa cj' => by
        intro j hj ej
        obtain ⟨k, hk, ek⟩ := mem_getD ha
        rcases xa k hk ek with q | q
        · exact Or.inl (Mc k j hk hj q ⟨m, inS m hm, by rw [ek, ej]; exact cj'⟩)
        · obtain ⟨i', hi', ei⟩ := mem_getD q
          exact q6 i' (by omega) m hm j hj (by rw [ei, ek, ej]; exact cj')) c ((cl.1 c).mp hc) _ (getD_mem h0) _ (getD_mem hj) (fun k hk ek => by rw [srt_ix ok.1 hk h0 ek]; exact Or.inr q2) cj
      exact X j hj rfl
  have stop : ∀ (i : Nat) (f1 : (Nat → Nat → Int32)) (Q : List Nat), Inv i f1 Q → i = Q.length → WM k_Ho_markAlike p_Ho_markAlike_3 [Jv, Jv, Jv, Jv, Jv, Jv, Jv, Jv, Jv] [] (sil h f1 l) 0 0 (fun _ k => ∃ f', k = sil h f' l ∧ Fr AlIds f f' ∧ MkAt f' S.length (fun j => M j ∨ Alike S (S.getD a0 0) (S.getD j 0))) := fun i f1 Q I hi =>
    v_Ho_markAlike_3 _ _ ⟨f1, rfl, I.1, fin i f1 Q I hi⟩
  have outer : ∀ d i (f1 : (Nat → Nat → Int32)) (Q : List Nat), S.length - i = d → i ≤ Q.length → Inv i f1 Q →
      WM k_Ho_markAlike p_Ho_markAlike_1 [.ref 5, .ref g, .ref r, Jv, .int (nI Q.length), .int (nI i), Jv, Jv, Jv] [] (sil h f1 l) 0 0 (fun _ k => ∃ f', k = sil h f' l ∧ Fr AlIds f f' ∧ MkAt f' S.length (fun j => M j ∨ Alike S (S.getD a0 0) (S.getD j 0))) := by
    intro d
    induction d with
    | zero =>
      intro i f1 Q hd hi I
      have ql := qlen Q I.2.1.1 (fun q hq => (I.2.1.2.2 q hq).1)
      refine v_Ho_markAlike_1 _ _ _ _ _ _ _ ?_
      rw [nI_toI (by omega), nI_toI (by omega)]
      exact ⟨fun q => absurd q (by omega), fun _ => stop i f1 Q I (by omega)⟩
    | succ d ih =>
      intro i f1 Q hd hi I
      have ql := qlen Q I.2.1.1 (fun q hq => (I.2.1.2.2 q hq).1)
      refine v_Ho_markAlike_1 _ _ _ _ _ _ _ ?_
      rw [nI_toI (by omega), nI_toI (by omega), t192]
      refine ⟨fun qi => ⟨fun _ => ?_, fun q => absurd (by omega) q⟩, fun q => stop i f1 Q I (by omega)⟩
      have il : i < Q.length := by omega
      have inner : ∀ e k (f1 : (Nat → Nat → Int32)) (Q : List Nat), MK.length - k = e → k ≤ MK.length → i < Q.length → Inv i f1 Q → (∀ k', k' < k → ∀ j, j < S.length → Cj (MK.getD k' 0) (S.getD (Q.getD i 0) 0) (S.getD j 0) → M j ∨ j ∈ Q) →
          WM k_Ho_markAlike p_Ho_markAlike_2 [.ref 5, .ref g, .ref r, Jv, .int (nI Q.length), .int (nI i), .int (nI k), Jv, Jv] [] (sil h f1 l) 0 0 (fun _ k => ∃ f', k = sil h f' l ∧ Fr AlIds f f' ∧ MkAt f' S.length (fun j => M j ∨ Alike S (S.getD a0 0) (S.getD j 0))) := by
        intro e
        induction e with
        | zero =>
          intro k f1 Q he hk il I dn
          have b' := b.same (Kp.si2 H I.1 (Fr.refl (f := l))) al_99
          have k3 := b'.2.2.2.2.1
          have l3 := b'.2.2.2.2.2.1
          refine v_Ho_markAlike_2 _ _ _ _ _ _ _ _ ⟨b'.2.1.1, ?_⟩
          rw [b'.2.1.2.2, l3, tm, nI_toI (by omega)]
          simp only [nI_1]
          refine ⟨k3, fun q => absurd q (by omega), fun _ => ih (i + 1) f1 Q (by omega) (by omega) ⟨I.1, I.2.1, I.2.2.1, I.2.2.2.1, fun i' hi' m hm j hj cj => ?_⟩⟩
          by_cases e : i' = i
          · subst e
            obtain ⟨k', hk', ek⟩ := mem_getD hm
            exact dn k' (by omega) j hj (by rw [ek]; exact cj)
          · exact I.2.2.2.2 i' (by omega) m hm j hj cj
        | succ e ihe =>
          intro k f1 Q he hk il I dn
          have ql := qlen Q I.2.1.1 (fun q hq => (I.2.1.2.2 q hq).1)
          have kl : k < MK.length := by omega
          have b' := b.same (Kp.si2 H I.1 (Fr.refl (f := l))) al_99
          have qi := I.2.1.2.2 _ (getD_mem il)
          have mS := inS _ (getD_mem kl)
          have aS : S.getD (Q.getD i 0) 0 ∈ S := getD_mem qi.1
          have fr99 : ∀ {f2 : (Nat → Nat → Int32)}, Fr AlIds f f2 → f2 r = f r := fun fr => fr r (fun q => by have := al_99 r q; omega)
          refine v_Ho_markAlike_2 _ _ _ _ _ _ _ _ ⟨b'.2.1.1, ?_⟩
          rw [b'.2.1.2.2, b'.2.1.2.1, b'.2.2.1.2.1, b'.2.2.2.2.2.1, R5_12, show ln (sil h f1 l) r = MK.length from lr, tm, nI_toI (by omega), ix_nI (by omega), ix_nI (by omega), mi_sil, I.2.2.1 i il, ix_nI (by omega)]
          have e3 : f1 (g + 3) k = nI (MK.getD k 0) := b'.2.2.2.2.2.2 k kl
          have e2 : f1 (g + 2) (Q.getD i 0) = nI (S.getD (Q.getD i 0) 0) := b'.2.2.2.1.2.2 _ qi.1
          rw [e3, e2]
          refine ⟨b'.2.2.2.2.1, fun _ => ⟨kr, fun _ => ⟨InB_nI kl (by omega), b'.2.2.1.1, Kd5, K42, InB_nI (show i < 192 by omega) (by omega), b'.2.2.2.1.1, by rw [b'.2.2.2.1.2.1]; exact InB_nI qi.1 (by omega), SpI.mono (joined_fr (ok.c _ mS) (ok.c _ aS)) ?_⟩, fun q => absurd (by omega) q⟩, fun q => absurd (by omega) q⟩
          rintro r1 _ ⟨rfl, f2, rfl, fr2⟩
          have fr2' : Fr AlIds f f2 := I.1.trans (fr2.mono (by decide))
          obtain ⟨pz, zS, ez⟩ := ok.pr mS aS
          have eiv : f2 r k = nI (IV k) := by rw [fr99 fr2']; exact (hIV k kl).1
          rw [ez, zI_nat, show ln (sil h f2 l) r = MK.length from lr, mi_sil, eiv]
          refine ⟨kr, InB_nI kl (by omega), Kd5, SpI.mono (joined_fr (ok.c _ zS) (ok.c _ (hIV k kl).2.1)) ?_⟩
          rintro r2 _ ⟨rfl, f3, rfl, fr3⟩
          have fr3' : Fr AlIds f f3 := fr2'.trans (fr3.mono (by decide))
          obtain ⟨pw, wS, ew⟩ := ok.pr zS (hIV k kl).2.1
          generalize (prod (MK.getD k 0) (S.getD (Q.getD i 0) 0)).toNat = z at *
          generalize (prod z (IV k)).toNat = v at *
          have cjv : Cj (MK.getD k 0) (S.getD (Q.getD i 0) 0) v := by
            obtain ⟨u, hu, pu⟩ := ok.2.2.2.2 v wS _ mS
            have q := pw.assoc (hIV k kl).2.2.2 pu
            have := q.fn (Pr.id_r (ok.c z zS))
            subst this
            exact ⟨u, pz, pu⟩
          have b3 := b.same (Kp.si2 H fr3' (Fr.refl (f := l))) al_99
          rw [ew, zI_nat, b3.2.1.2.1]
          refine ⟨b3.2.1.1, b3.2.2.1.1, SpI.mono (sp_Row_find _ (b3.row ok.1 ok.2.1 ok.c)) ?_⟩
          have vb : v < 272097792 := ok.c _ wS
          rw [nI_toI (by omega)]
          rintro r3 g0 ⟨e0, fd⟩
          subst g0
          rcases fd with ⟨j, hj, ej, rfl⟩ | ⟨_, no⟩
          rotate_left
          · obtain ⟨j, hj, ej⟩ := mem_getD wS
            exact absurd (by omega) (no j hj)
          have ej : S.getD j 0 = v := by omega
          have nj : ¬ nI j = -1 := fun q => by
            have e := congrArg Int32.toInt q
            rw [nI_toI (by omega), l_m1] at e
            omega
          have e41 : f3 41 = f1 41 := (fr3 41 (by decide)).trans (fr2 41 (by decide))
          have e42 : f3 42 = f1 42 := (fr3 42 (by decide)).trans (fr2 42 (by decide))
          have I3 : Inv i f3 Q := ⟨fr3', I.2.1, by rw [e42]; exact I.2.2.1, by unfold MkAt; rw [e41]; exact I.2.2.2.1, I.2.2.2.2⟩
          have uniq : ∀ j', j' < S.length → Cj (MK.getD k 0) (S.getD (Q.getD i 0) 0) (S.getD j' 0) → j' = j := fun j' hj' c' => srt_ix ok.1 hj' hj ((cj_fn ok mS (getD_mem hj') wS c' cjv).trans ej.symm)
          refine ⟨fun q => absurd q nj, fun _ => ⟨Kd5, ?_⟩⟩
          rw [R5_11, R5_12, ix_nI (by omega), nI_toI (by omega), t192, ix_nI (by omega), nI_1]
          refine ⟨K41, InB_nI (show j < 192 by omega) (by omega), fun q0 => ?_, fun q1 => ?_⟩
          · -- a new one
            have nm : ¬ (M j ∨ j ∈ Q) := by
              rcases I3.2.2.2.1 j hj with q | q
              · exact q.2
              · rw [mi_sil, q.1] at q0; exact absurd q0 (by decide)
            have lq := qlen (j :: Q) (List.nodup_cons.mpr ⟨fun q => nm (Or.inr q), I.2.1.1⟩) (fun x hx => by
              rcases List.mem_cons.mp hx with q | q
              · rw [q]; exact hj
              · exact (I.2.1.2.2 x q).1)
            rw [List.length_cons] at lq
            refine ⟨fun _ => ?_, fun q => absurd (by omega) q⟩
            rintro _ rfl
            refine ⟨K42, InB_nI (show Q.length < 192 by omega) (by omega), ?_⟩
            rintro _ rfl
            have en : (Q ++ [j]).length = Q.length + 1 := by rw [List.length_append]; rfl
            have alj : Alike S (S.getD a0 0) (S.getD j 0) := Alike.tr ok (getD_mem h0) aS (getD_mem hj) qi.2.2 ⟨_, mS, by rw [ej]; exact cjv⟩
            rw [wi_sil, wi_sil, nI_1, ← en]
            refine ihe (k + 1) _ (Q ++ [j]) (by omega) (by omega) (by omega) ⟨(fr3'.up (by decide)).up (by decide), ⟨?_, List.mem_append_left _ I.2.1.2.1, fun q hq => ?_⟩, fun j' hj' => ?_, fun j' hj' => ?_, fun i' hi' m hm j' hj' cj' => ?_⟩ (fun k' hk' j' hj' cj' => ?_)
            · exact List.nodup_append.mpr ⟨I.2.1.1, List.nodup_cons.mpr ⟨by simp, List.nodup_nil⟩, fun a ha b hb e => by
                rw [List.mem_singleton] at hb
                exact nm (Or.inr (by rw [← hb, ← e]; exact ha))⟩
            · rcases List.mem_append.mp hq with q | q
              · exact I.2.1.2.2 _ q
              · rw [List.mem_singleton] at q; rw [q]; exact ⟨hj, fun z => nm (Or.inl z), alj⟩
            · rw [en] at hj'
              by_cases e : j' = Q.length
              · subst e; rw [up2_s, getD_end]
              · rw [up2_ni e, getD_left (by omega), up2_ne (by decide)]; exact I3.2.2.1 j' (by omega)
            · rw [up2_ne (by decide)]
              by_cases e : j' = j
              · subst e; exact Or.inr ⟨by rw [up2_s]; rfl, Or.inr (List.mem_append_right _ (List.mem_singleton.mpr rfl))⟩
              · rw [up2_ni e]
                rcases I3.2.2.2.1 j' hj' with q | q
                · exact Or.inl ⟨q.1, fun z => q.2 (z.imp id (fun z => by
                    rcases List.mem_append.mp z with z | z
                    · exact z
                    · rw [List.mem_singleton] at z; exact absurd z e))⟩
                · exact Or.inr ⟨q.1, q.2.imp id (fun z => List.mem_append_left _ z)⟩
            · rw [getD_left (by omega)] at cj'
              exact (I.2.2.2.2 i' hi' m hm j' hj' cj').imp id (fun z => List.mem_append_left _ z)
            · rw [getD_left il] at cj'
              by_cases e : k' = k
              · subst e
                rw [uniq j' hj' cj']
                exact Or.inr (List.mem_append_right _ (List.mem_singleton.mpr rfl))
              · exact (dn k' (by omega) j' hj' cj').imp id (fun z => List.mem_append_left _ z)
          · -- one that is marked
            have my : M j ∨ j ∈ Q := by
              rcases I3.2.2.2.1 j hj with q | q
              · rw [mi_sil, q.1] at q1; exact absurd rfl q1
              · exact q.2
            rw [nI_1]
            refine ihe (k + 1) f3 Q (by omega) (by omega) il I3 (fun k' hk' j' hj' cj' => ?_)
            by_cases e : k' = k
            · subst e
              rw [uniq j' hj' cj']; exact my
            · exact dn k' (by omega) j' hj' cj'
      exact inner _ 0 f1 Q rfl (Nat.zero_le _) il I (fun k' hk' => absurd hk' (Nat.not_lt_zero k'))
  refine v_Ho_markAlike _ _ _ _ _ _ ⟨Kd5, ?_⟩
  rw [R5_11, R5_12, ix_nI (by omega)]
  refine ⟨K41, InB_nI (show a0 < 192 by omega) (by omega), ?_⟩
  rintro _ rfl
  refine ⟨K42, InB_nI (a := 0) (show 0 < 192 by decide) (by decide), ?_⟩
  rintro _ rfl
  rw [wi_sil, wi_sil]
  refine outer _ 0 _ [a0] rfl (Nat.zero_le _) ⟨(Fr.refl.up (by decide)).up (by decide), ⟨by simp, List.mem_singleton.mpr rfl, fun q hq => ?_⟩, fun j hj => ?_, fun j hj => ?_, fun i' hi' => absurd hi' (Nat.not_lt_zero i')⟩
  · rw [List.mem_singleton] at hq; rw [hq]; exact ⟨h0, n0, Alike.rf ok (getD_mem h0)⟩
  · have : j = 0 := by simp only [List.length_cons, List.length_nil] at hj; omega
    subst this
    exact up2_s
  · rw [up2_ne (by decide)]
    by_cases e : j = a0
    · subst e; exact Or.inr ⟨by rw [up2_s]; rfl, Or.inr (List.mem_singleton.mpr rfl)⟩
    · rw [up2_ni e]
      rcases mk j hj with q | q
      · exact Or.inl ⟨q.1, fun z => by
          rcases z with z | z
          · exact q.2 z
          · rw [List.mem_singleton] at z; exact e z⟩
      · exact Or.inr ⟨q.1, Or.inl q.2⟩
