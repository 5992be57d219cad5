/-! orbits in the reference -/
def ArZ (f : (Nat → Nat → Int32)) (a : Nat) (T : List Int) : Prop := ∀ j, j < T.length → (f a j).toInt = T.getD j 0
/-- a number goes into the reference's orbit -/
theorem ref_orb_put {h : MH} {l : (Nat → Nat → Int64)} {x1 x2 x4 : Int32} {p : Int} {T : List Int} {Rt : Value → MH → Prop} (f0 : (Nat → Nat → Int32)) (ar : ArZ f0 74 T) (srt : T.Pairwise (· < ·)) (len : T.length < 192) (rg : -2147483648 ≤ p ∧ p < 2147483648)
    (old : p ∈ T → WM k_Ref_orbitOf p_Ref_orbitOf_1 [.ref 54, .int x1, .int x2, .int (nI T.length), .int (x4 + 1), Jv, Jv, Jv] [] (sil h f0 l) 0 0 Rt)
    (new : ∀ (f : (Nat → Nat → Int32)) (T' : List Int), p ∉ T → Fr [74] f0 f → ArZ f 74 T' → T'.Pairwise (· < ·) → T'.length = T.length + 1 → (∀ z, z ∈ T' ↔ z = p ∨ z ∈ T) → WM k_Ref_orbitOf p_Ref_orbitOf_1 [.ref 54, .int x1, .int x2, .int (nI T'.length), .int (x4 + 1), Jv, Jv, Jv] [] (sil h f l) 0 0 Rt) :
    WM k_Ref_orbitOf p_Ref_orbitOf_2 [.ref 54, .int x1, .int x2, .int (nI T.length), .int x4, .int (zI p), .int (nI T.length), Jv] [] (sil h f0 l) 0 0 Rt := by
  have tp : (zI p).toInt = p := zI_toI rg.1 (by omega)
  have e1 : ∀ m : Nat, nI (m + 1) - (1 : Int32) = nI m := fun m => by show nI (m + 1) - nI 1 = _; rw [pk_sub (by omega)]; rfl
  have e2 : ∀ m : Nat, nI (m + 1) + (-1 : Int32) = nI m := fun m => by rw [show (-1 : Int32) = zI (-1) from rfl, nI_addZ, ← zI_nat]; congr 1; omega
  -- shifting
  have shift : ∀ i, i ≤ T.length → p ∉ T → (∀ j, j < i → T.getD j 0 < p) → (∀ j, i ≤ j → j < T.length → p < T.getD j 0) → ∀ d m (f : (Nat → Nat → Int32)), m - i = d → i ≤ m → m ≤ T.length → Fr [74] f0 f → (∀ j, j < m → (f 74 j).toInt = T.getD j 0) → (∀ j, m < j → j ≤ T.length → (f 74 j).toInt = T.getD (j - 1) 0) →
      WM k_Ref_orbitOf p_Ref_orbitOf_4 [.ref 54, .int x1, .int x2, .int (nI T.length), .int x4, .int (zI p), .int (nI i), .int (nI m)] [] (sil h f l) 0 0 Rt := by
    intro i hi np lo hg d
    induction d with
    | zero =>
      intro m f hd h1 h2 fr a1 a2
      have em : m = i := by omega
      subst em
      refine v_Ref_orbitOf_4 _ _ _ _ _ _ _ _ _ _ ?_
      rw [nI_toI (by omega), R54_27, ix_nI (by omega)]
      refine ⟨fun c => absurd c (by omega), fun _ => ⟨K54, K74, InB_nI (show m < 200 by omega) (by omega), ?_⟩⟩
      rintro _ rfl
      rw [wi_sil, nI_1]
      have L := zS_len (insF (fun j => T.getD j 0) m p) (T.length + 1)
      have := new (up2 f 74 m (zI p)) (zS (insF (fun j => T.getD j 0) m p) (T.length + 1)) np (fr.up (by decide)) ?_ ?_ L ?_
      · rw [L] at this; exact this
      · intro j hj
        rw [L] at hj
        rw [zS_getD hj]
        by_cases q : j = m
        · subst q; rw [up2_s, insF_eq, tp]
        · rw [up2_ni q]
          by_cases q2 : j < m
          · rw [insF_lt q2]; exact a1 j q2
          · rw [insF_gt (by omega)]; exact a2 j (by omega) (by omega)
      · refine zS_srt (fun i j hij hj => ?_)
        by_cases q1 : j < m
        · rw [insF_lt (by omega), insF_lt q1]; exact zsrt_lt srt hij (by omega)
        · by_cases q2 : j = m
          · subst q2; rw [insF_lt hij, insF_eq]; exact lo i hij
          · rw [insF_gt (k := m) (i := j) (by omega)]
            by_cases q3 : i < m
            · rw [insF_lt q3]; exact zsrt_lt srt (by omega) (by omega)
            · by_cases q4 : i = m
              · subst q4; rw [insF_eq]; exact hg (j - 1) (by omega) (by omega)
              · rw [insF_gt (by omega)]; exact zsrt_lt srt (by omega) (by omega)
      · intro z
        rw [zS_mem, insF_mem hi]
        refine ⟨fun q => ?_, fun q => ?_⟩
        · rcases q with q | ⟨i, hi, e⟩
          · exact Or.inl q
          · exact Or.inr (by rw [← e]; exact zgetD_mem hi)
        · rcases q with q | q
          · exact Or.inl q
          · exact Or.inr (zmem_getD q)
    | succ d ih =>
      intro m f hd h1 h2 fr a1 a2
      obtain ⟨m, rfl⟩ : ∃ k, m = k + 1 := ⟨m - 1, by omega⟩
      refine v_Ref_orbitOf_4 _ _ _ _ _ _ _ _ _ _ ?_
      rw [nI_toI (by omega), nI_toI (by omega), R54_27, e1, e2, ix_nI (by omega), ix_nI (by omega)]
      refine ⟨fun _ => ⟨K54, K74, InB_nI (show m < 200 by omega) (by omega), InB_nI (show m + 1 < 200 by omega) (by omega), ?_⟩, fun c => absurd (by omega) c⟩
      rintro _ rfl
      rw [wi_sil]
      refine ih m _ (by omega) (by omega) (by omega) (fr.up (by decide)) (fun j hj => ?_) (fun j h3 h4 => ?_)
      · rw [up2_ni (by omega)]; exact a1 j (by omega)
      · by_cases q : j = m + 1
        · subst q; rw [up2_s, mi_sil]; exact a1 m (by omega)
        · rw [up2_ni q]; exact a2 j (by omega) h4
  have test : ∀ i, i ≤ T.length → (∀ j, i ≤ j → j < T.length → p < T.getD j 0) → (i = 0 ∨ T.getD (i - 1) 0 ≤ p) → WM k_Ref_orbitOf p_Ref_orbitOf_3 [.ref 54, .int x1, .int x2, .int (nI T.length), .int x4, .int (zI p), .int (nI i), Jv] [] (sil h f0 l) 0 0 Rt := by
    intro i hi hg st
    refine v_Ref_orbitOf_3 _ _ _ _ _ _ _ _ _ ?_
    cases i with
    | zero =>
      refine ⟨fun c => absurd c (by decide), fun _ => ?_⟩
      refine shift 0 hi (fun q => ?_) (fun j hj => absurd hj (Nat.not_lt_zero j)) hg _ _ f0 rfl (Nat.zero_le _) (Nat.le_refl _) Fr.refl ar (fun j h1 h2 => by omega)
      obtain ⟨j, hj, e⟩ := zmem_getD q
      have := hg j (Nat.zero_le _) hj
      omega
    | succ i =>
      have st : T.getD i 0 ≤ p := by
        rcases st with q | q
        · omega
        · exact q
      have ai := ar i (by omega)
      rw [nI_toI (by omega), R54_27, e1, ix_nI (by omega), mi_sil]
      refine ⟨fun _ => ⟨K54, K74, InB_nI (show i < 200 by omega) (by omega), fun q => old ?_, fun q => ?_⟩, fun c => absurd (by omega) c⟩
      · rw [q, tp] at ai
        rw [ai]; exact zgetD_mem (by omega)
      · have lt : T.getD i 0 < p := by
          by_cases e : T.getD i 0 = p
          · exact absurd (hb_eq (by rw [ai, e, tp])) q
          · omega
        have lo : ∀ j, j < i + 1 → T.getD j 0 < p := fun j hj => by
          by_cases e : j = i
          · rw [e]; exact lt
          · have := zsrt_lt srt (show j < i by omega) (by omega)
            omega
        refine shift (i + 1) hi (fun q => ?_) lo hg _ _ f0 rfl hi (Nat.le_refl _) Fr.refl ar (fun j h1 h2 => by omega)
        obtain ⟨j, hj, e⟩ := zmem_getD q
        by_cases w : j < i + 1
        · have := lo j w; omega
        · have := hg j (by omega) hj; omega
  have walk : ∀ i, i ≤ T.length → (∀ j, i ≤ j → j < T.length → p < T.getD j 0) → WM k_Ref_orbitOf p_Ref_orbitOf_2 [.ref 54, .int x1, .int x2, .int (nI T.length), .int x4, .int (zI p), .int (nI i), Jv] [] (sil h f0 l) 0 0 Rt := by
    intro i
    induction i with
    | zero =>
      intro hi hg
      exact v_Ref_orbitOf_2 _ _ _ _ _ _ _ _ _ ⟨fun c => absurd c (by decide), fun _ => test 0 hi hg (Or.inl rfl)⟩
    | succ i ih =>
      intro hi hg
      have ai := ar i (by omega)
      refine v_Ref_orbitOf_2 _ _ _ _ _ _ _ _ _ ?_
      rw [nI_toI (by omega), R54_27, e1, e2, ix_nI (by omega), mi_sil, ai, tp]
      refine ⟨fun _ => ⟨K54, K74, InB_nI (show i < 200 by omega) (by omega), fun q => ih (by omega) (fun j h1 h2 => ?_), fun q => test (i + 1) hi hg (Or.inr ?_)⟩, fun c => absurd (by omega) c⟩
      · by_cases e : j = i
        · rw [e]; exact q
        · exact hg j (by omega) h2
      · show T.getD i 0 ≤ p
        omega
  exact walk T.length (Nat.le_refl _) (fun j h1 h2 => by omega)
theorem RGrp.fr {f f' : (Nat → Nat → Int32)} {GS : List (List Nat)} (h : RGrp f GS) (e : f' 54 17 = f 54 17) (e4 : f' 64 = f 64) (e5 : f' 65 = f 65) : RGrp f' GS := ⟨h.1, h.2.1, e.trans h.2.2.1, fun i hi => by rw [e4, e5]; exact h.2.2.2 i hi⟩
theorem sp_Ref_orbitOf {h : MH} {f : (Nat → Nat → Int32)} {l : (Nat → Nat → Int64)} {GS : List (List Nat)} {i p : Nat} (hg : RGrp f GS) (hi : i < GS.length) (hp : p < 13824) : SpI k_Ref_orbitOf [.ref 54, .int (nI i), .int (nI p)] (sil h f l) (fun r g => ∃ f' T, g = sil h f' l ∧ Fr [57, 58, 74] f f' ∧ r = nI T.length ∧ ArZ f' 74 T ∧ Orb (GS.getD i []) p T ∧ T.length ≤ 192) := by
  have g1 := hg.1
  have w := (hg.2.1 _ (gD_mem hi)).1
  have cs := (hg.2.1 _ (gD_mem hi)).2
  have main : ∀ d k (f1 : (Nat → Nat → Int32)) (T : List Int), (GS.getD i []).length - k = d → k ≤ (GS.getD i []).length → Fr [57, 58, 74] f f1 → ArZ f1 74 T → OrbK (GS.getD i []) p k T →
      WM k_Ref_orbitOf p_Ref_orbitOf_1 [.ref 54, .int (nI i), .int (nI p), .int (nI T.length), .int (nI k), Jv, Jv, Jv] [] (sil h f1 l) 0 0 (fun v g => ∃ r, v = .int r ∧ ∃ f' T, g = sil h f' l ∧ Fr [57, 58, 74] f f' ∧ r = nI T.length ∧ ArZ f' 74 T ∧ Orb (GS.getD i []) p T ∧ T.length ≤ 192) := by
    intro d
    induction d with
    | zero =>
      intro k f1 T hd hk fr ar ob
      have e : k = (GS.getD i []).length := by omega
      subst e
      have ob2 := ob.2.2
      have gi := (hg.fr (f' := f1) (by rw [fr 54 (by decide)]) (fr 64 (by decide)) (fr 65 (by decide))).2.2.2 i hi
      refine v_Ref_orbitOf_1 _ _ _ _ _ _ _ ⟨K54, ?_⟩
      rw [R54_16, ix_nI (by omega), mi_sil, gi.1, nI_toI (by omega)]
      exact ⟨K65, InB_nI (show i < 60 by omega) (by omega), fun c => absurd c (by omega), fun _ => ⟨_, rfl, f1, T, rfl, fr, rfl, ar, ob.fin, by omega⟩⟩
    | succ d ih =>
      intro k f1 T hd hk fr ar ob
      have kl : k < (GS.getD i []).length := by omega
      have ob2 := ob.2.2
      have gi := (hg.fr (f' := f1) (by rw [fr 54 (by decide)]) (fr 64 (by decide)) (fr 65 (by decide))).2.2.2 i hi
      refine v_Ref_orbitOf_1 _ _ _ _ _ _ _ ⟨K54, ?_⟩
      rw [R54_16, R54_15, show (192 : Int32) = nI 192 from rfl, nI_mul, nI_add, ix_nI (by omega), ix_nI (by omega), mi_sil, gi.1, gi.2 k kl, nI_toI (by omega), nI_toI (by omega)]
      refine ⟨K65, InB_nI (show i < 60 by omega) (by omega), fun _ => ⟨K64, InB_nI (show 192 * i + k < 11520 by omega) (by omega), SpI.mono (sp_Ref_taken (cs _ (getD_mem kl)) hp) ?_⟩, fun c => absurd (by omega) c⟩
      rintro r _ ⟨rfl, f2, rfl, fr2⟩
      have mb := mvC_lt ((GS.getD i []).getD k 0) p
      have ar2 : ArZ f2 74 T := fun j hj => by rw [fr2 74 (by decide)]; exact ar j hj
      have fr2' : Fr [57, 58, 74] f f2 := fr.trans (fr2.mono (by decide))
      rw [nI_zI (mvC _ p)]
      refine ref_orb_put f2 ar2 ob.1 (by omega) (by omega) (fun my => ?_) (fun f3 T' ny fr3 ar3 srt3 len3 mem3 => ?_)
      · rw [nI_1]
        refine ih (k + 1) f2 T (by omega) (by omega) fr2' ar2 ⟨ob.1, fun z => ?_, by omega⟩
        rw [ob.2.1 z]
        constructor
        · rintro ⟨j, hj, e⟩; exact ⟨j, by omega, e⟩
        · rintro ⟨j, hj, e⟩
          by_cases q : j = k
          · subst q; rw [← e] at my; exact (ob.2.1 z).mp my
          · exact ⟨j, by omega, e⟩
      · rw [nI_1]
        refine ih (k + 1) f3 T' (by omega) (by omega) (fr2'.trans (fr3.mono (by decide))) ar3 ⟨srt3, fun z => ?_, by omega⟩
        rw [mem3 z, ob.2.1 z]
        constructor
        · rintro (q | ⟨j, hj, e⟩)
          · exact ⟨k, by omega, q⟩
          · exact ⟨j, by omega, e⟩
        · rintro ⟨j, hj, e⟩
          by_cases q : j = k
          · subst q; exact Or.inl e
          · exact Or.inr ⟨j, by omega, e⟩
  refine v_Ref_orbitOf _ _ _ _ _ ?_
  exact main _ 0 f [] rfl (Nat.zero_le _) Fr.refl (fun j hj => absurd hj (Nat.not_lt_zero j)) ⟨List.Pairwise.nil, fun z => ⟨fun q => absurd q List.not_mem_nil, fun ⟨j, hj, _⟩ => absurd hj (Nat.not_lt_zero j)⟩, Nat.zero_le _⟩
