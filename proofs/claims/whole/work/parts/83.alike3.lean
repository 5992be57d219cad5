/-! the class's count of what is alike -/
noncomputable def alK (S : List Nat) (n : Nat) : Nat := ((List.range n).filter fun i => @decide (∀ j, j < i → ¬ Alike S (S.getD j 0) (S.getD i 0)) (Classical.propDecidable _)).length
theorem alK_N (S : List Nat) : alikeN S = alK S S.length := rfl
theorem alK_y {S : List Nat} {n : Nat} (h : ∀ j, j < n → ¬ Alike S (S.getD j 0) (S.getD n 0)) : alK S (n + 1) = alK S n + 1 := by
  unfold alK
  rw [List.range_succ, List.filter_append, List.length_append]
  rw [List.filter_cons_of_pos (a := n) (@decide_eq_true _ (Classical.propDecidable _) h)]
  rfl
theorem alK_n {S : List Nat} {n : Nat} (h : ¬ ∀ j, j < n → ¬ Alike S (S.getD j 0) (S.getD n 0)) : alK S (n + 1) = alK S n := by
  unfold alK
  rw [List.range_succ, List.filter_append, List.length_append]
  rw [List.filter_cons_of_neg (a := n) (fun q => h (@of_decide_eq_true _ (Classical.propDecidable _) q))]
  rfl
theorem alK_le (S : List Nat) (n : Nat) : alK S n ≤ n := by
  have := List.length_filter_le (fun i => @decide (∀ j, j < i → ¬ Alike S (S.getD j 0) (S.getD i 0)) (Classical.propDecidable _)) (List.range n)
  rw [List.length_range] at this
  exact this
theorem IvAt.fr {k : MH} {f : (Nat → Nat → Int32)} {l : (Nat → Nat → Int64)} {r : Nat} {S MK : List Nat} (H : SS k) (iv : IvAt k r S MK) (fr : Fr AlIds (mi k) f) : IvAt (sil k f l) r S MK := by
  obtain ⟨⟨a, b, c, d⟩, IV, e⟩ := iv
  refine ⟨⟨a, b, by rw [kd_sil H]; exact c, by rw [ln_sil H]; exact d⟩, IV, fun j hj => ?_⟩
  rw [mi_sil, fr r (fun q => by have := al_99 r q; omega)]
  exact e j hj
def Alm (S : List Nat) (i j : Nat) : Prop := ∃ j', j' < i ∧ Alike S (S.getD j' 0) (S.getD j 0)
theorem Alm.cl {S : List Nat} (ok : GOk S) {n : Nat} (hn : n ≤ S.length) : ∀ i j, i < S.length → j < S.length → Alm S n i → Alike S (S.getD i 0) (S.getD j 0) → Alm S n j := fun i j hi hj ⟨j', h1, h2⟩ h3 => ⟨j', h1, Alike.tr ok (getD_mem (by omega)) (getD_mem hi) (getD_mem hj) h2 h3⟩
theorem Alm.fst {S : List Nat} {n : Nat} : (¬ Alm S n n) ↔ ∀ j, j < n → ¬ Alike S (S.getD j 0) (S.getD n 0) := ⟨fun h j hj q => h ⟨j, hj, q⟩, fun h ⟨j, hj, q⟩ => h j hj q⟩
theorem Alm.s {S : List Nat} {n j : Nat} : (Alm S n j ∨ Alike S (S.getD n 0) (S.getD j 0)) ↔ Alm S (n + 1) j := by
  constructor
  · rintro (⟨j', a, b⟩ | q)
    · exact ⟨j', by omega, b⟩
    · exact ⟨n, by omega, q⟩
  · rintro ⟨j', a, b⟩
    by_cases e : j' = n
    · subst e; exact Or.inr b
    · exact Or.inl ⟨j', by omega, b⟩
theorem Alm.k {S : List Nat} (ok : GOk S) {n : Nat} (hn : n < S.length) (m : Alm S n n) {j : Nat} (hj : j < S.length) : Alm S n j ↔ Alm S (n + 1) j := by
  rw [← Alm.s]
  exact ⟨Or.inl, fun q => q.elim id (fun z => Alm.cl ok (by omega) n j hn hj m z)⟩
def CaP (h : MH) (g : Nat) (S : List Nat) (r : Int32) (k : MH) : Prop := r = nI (alikeN S) ∧ Kp (g :: AlIds) h k ∧ mi k g 2 = nI (alikeN S) ∧ (∀ j, j ≠ 2 → mi k g j = mi h g j) ∧ ml k g = ml h g ∧ mr k g = mr h g
theorem sp_Ho_countAlike0 {h : MH} {f : (Nat → Nat → Int32)} {l : (Nat → Nat → Int64)} {O : Nat → Nat} {t g : Nat} {S MK : List Nat} (H : SS h) (ok : GOk S) (b : GrpB (sil h f l) O t g S MK) (cl : Closed S MK) (c2 : f g 2 = -1 ∨ f g 2 = nI (alikeN S)) :
    SpI k_Ho_countAlike [.ref 5, .ref g] (sil h f l) (fun r k => CaP (sil h f l) g S r k) := by
  have w := ok.2.1
  have H0 : SS (sil h f l) := SS_sil H
  have g99 := b.1.1
  have gh := b.1.2.1
  refine v_Ho_countAlike _ _ _ _ ⟨b.2.1.1, fun _ => ⟨Kd5, ?_⟩, fun q => ?_⟩
  rotate_left
  · have e := c2.resolve_left q
    exact ⟨_, rfl, e, Kp.refl H0, e, fun _ _ => rfl, rfl, rfl⟩
  rw [R5_11]
  refine SpV.mono (sp_fillI 41 0 K41 (by rw [L41]; decide)) ?_
  rintro _ ⟨f1, rfl, o1, z1, -⟩
  rw [show si (sil h f l) f1 = sil h f1 l from rfl]
  have fr1 : Fr AlIds f f1 := fun a ha => o1 a (fun e => ha (by rw [e]; decide))
  have b1 := b.same (Kp.si2 H fr1 (Fr.refl (f := l))) al_99
  have c1 : Kp AlIds (sil h f l) (sil h f1 l) := Kp.si2 H fr1 (Fr.refl (f := l))
  refine ⟨b1.2.1.1, Kd5, ?_⟩
  rw [b1.2.1.2.2]
  refine SpR.mono (sp_Ho_inversesOf (SS_sil H) ok b1 cl) ?_
  rintro r k ⟨rfl, hk, kp, iv⟩
  have K := kp.1
  have c2 : Kp AlIds (sil h f l) k := c1.trans (kp.mono (by decide))
  have z41 : ∀ j, j < 192 → mi k 41 j = nI 0 := fun j hj => by
    rw [kp.i (show 41 < hn (sil h f1 l) by show 41 < hn (sil h f l); omega) (by decide)]
    exact z1 j hj
  have main : ∀ d i (f2 : (Nat → Nat → Int32)), S.length - i = d → i ≤ S.length → Fr AlIds (mi k) f2 → MkAt f2 S.length (fun j => Alm S i j) →
      WM k_Ho_countAlike p_Ho_countAlike_1 [.ref 5, .ref g, .ref (hn (sil h f1 l)), .int (nI (alK S i)), .int (nI i)] [] (sil k f2 (ml k)) 1 8 (fun v k => ∃ r, v = .int r ∧ CaP (sil h f l) g S r k) := by
    intro d
    induction d with
    | zero =>
      intro i f2 hd hi fr mk
      have e : i = S.length := by omega
      subst e
      have c3 : Kp AlIds (sil h f l) (sil k f2 (ml k)) := c2.trans (Kp.si3 K fr Fr.refl)
      have b3 := b.same c3 al_99
      refine v_Ho_countAlike_1 _ _ _ _ _ _ _ _ _ ⟨b3.2.1.1, ?_⟩
      rw [b3.2.1.2.1, b3.2.2.1.2.2, nI_toI (by omega)]
      refine ⟨b3.2.2.1.1, fun q => absurd q (by omega), fun _ => ?_⟩
      rintro _ rfl
      refine gd_t (by decide) (gd_t (by decide) ⟨_, rfl, ?_⟩)
      have ng : g ∉ AlIds := fun q => by have := al_99 g q; omega
      have gl : g < hn (sil h f l) := by omega
      have e2 : mi (wi (sil k f2 (ml k)) g 2 (nI (alK S S.length))) g 2 = nI (alK S S.length) := by rw [mi_wi, up2_s]
      refine ⟨e2, (c3.mono (fun a ha => List.mem_cons_of_mem _ ha)).wi (Or.inl List.mem_cons_self), e2, fun j hj => ?_, ?_, ?_⟩
      · rw [mi_wi, up2_ni hj, c3.i gl ng]
      · rw [ml_wi]; exact c3.l gl ng
      · rw [mr_wi]; exact c3.r gl ng
    | succ d ih =>
      intro i f2 hd hi fr mk
      have il : i < S.length := by omega
      have c3 : Kp AlIds (sil h f l) (sil k f2 (ml k)) := c2.trans (Kp.si3 K fr Fr.refl)
      have b3 := b.same c3 al_99
      refine v_Ho_countAlike_1 _ _ _ _ _ _ _ _ _ ⟨b3.2.1.1, ?_⟩
      rw [b3.2.1.2.1, b3.2.2.1.2.2, nI_toI (by omega), nI_toI (by omega), R5_11, ix_nI (by omega)]
      simp only [nI_1]
      refine ⟨b3.2.2.1.1, fun _ => ⟨Kd5, K41, InB_nI (show i < 192 by omega) (by omega), fun q0 => gd_t (by decide) (gd_t (by decide) ?_), fun q1 => ?_⟩, fun q => absurd (by omega) q⟩
      · have nm : ¬ Alm S i i := by
          rcases mk i il with q | q
          · exact q.2
          · rw [mi_sil, q.1] at q0; exact absurd q0 (by decide)
        refine SpV.mono (sp_Ho_markAlike K ok b3 cl (iv.fr K fr) mk (Alm.cl ok hi) il nm) ?_
        rintro _ ⟨f3, rfl, fr3, mk3⟩
        rw [← alK_y (Alm.fst.mp nm)]
        exact ih (i + 1) f3 (by omega) (by omega) (fr.trans fr3) (mk3.iff (fun j _ => Alm.s))
      · have my : Alm S i i := by
          rcases mk i il with q | q
          · rw [mi_sil, q.1] at q1; exact absurd rfl q1
          · exact q.2
        rw [← alK_n (fun q => Alm.fst.mpr q my)]
        exact ih (i + 1) f2 (by omega) (by omega) fr (mk.iff (fun j hj => Alm.k ok il my hj))
  have := main _ 0 (mi k) rfl (Nat.zero_le _) Fr.refl (fun j hj => Or.inl ⟨z41 j (by omega), fun ⟨_, q, _⟩ => absurd q (Nat.not_lt_zero _)⟩)
  rw [← K.sil] at this
  exact this
theorem sp_Ho_countAlike {h : MH} {O : Nat → Nat} {t g : Nat} {S MK : List Nat} (H : SS h) (ok : GOk S) (b : GrpB h O t g S MK) (cl : Closed S MK) (c2 : mi h g 2 = -1 ∨ mi h g 2 = nI (alikeN S)) :
    SpI k_Ho_countAlike [.ref 5, .ref g] h (fun r k => CaP h g S r k) := by
  have e := H.sil
  have := sp_Ho_countAlike0 (h := h) (f := mi h) (l := ml h) (O := O) (t := t) (g := g) (S := S) (MK := MK) H ok (by rw [← e]; exact b) cl c2
  rw [← e] at this
  exact this
