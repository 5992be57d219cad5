/-! the closure in the class -/
def ClAt (f : (Nat → Nat → Int32)) (L MK : List Nat) : Prop :=
  (L.Nodup ∧ L.length ≤ 192 ∧ MK.length ≤ 8 ∧ (∀ x ∈ L, cOK x) ∧ ∀ x ∈ MK, cOK x) ∧ f 15 3 = nI MK.length ∧ (∀ j, j < MK.length → f 19 j = nI (MK.getD j 0)) ∧ (∀ j, j < L.length → f 18 j = nI (L.getD j 0)) ∧ f 16 1 = nI L.length ∧
  ∃ F : Nat → Int, (∀ i, i < L.length → (f 17 i).toInt = F i) ∧ (∀ i j, i < j → j < L.length → F i < F j) ∧ ∀ x : Nat, x ∈ L ↔ ∃ i, i < L.length ∧ F i = x
theorem getD_mem {L : List Nat} {j : Nat} (h : j < L.length) : L.getD j 0 ∈ L := by
  rw [List.getD_eq_getElem?_getD, List.getElem?_eq_getElem h]
  exact List.getElem_mem h
theorem mem_getD {L : List Nat} {x : Nat} (h : x ∈ L) : ∃ j, j < L.length ∧ L.getD j 0 = x := by
  obtain ⟨j, hj, e⟩ := List.mem_iff_getElem.mp h
  refine ⟨j, hj, ?_⟩
  rw [List.getD_eq_getElem?_getD, List.getElem?_eq_getElem hj]
  exact e
theorem getD_left {L N : List Nat} {j : Nat} (h : j < L.length) : (L ++ N).getD j 0 = L.getD j 0 := by
  rw [List.getD_eq_getElem?_getD, List.getD_eq_getElem?_getD, List.getElem?_append_left h]
theorem insF_mem {F : Nat → Int} {n k : Nat} {y : Int} (hk : k ≤ n) (z : Int) : (∃ i, i < n + 1 ∧ insF F k y i = z) ↔ (z = y ∨ ∃ i, i < n ∧ F i = z) := by
  constructor
  · rintro ⟨i, hi, e⟩
    by_cases h1 : i < k
    · rw [insF_lt h1] at e; exact Or.inr ⟨i, by omega, e⟩
    · by_cases h2 : i = k
      · subst h2; rw [insF_eq] at e; exact Or.inl e.symm
      · rw [insF_gt (by omega)] at e; exact Or.inr ⟨i - 1, by omega, e⟩
  · rintro (e | ⟨i, hi, e⟩)
    · exact ⟨k, by omega, by rw [insF_eq]; exact e.symm⟩
    · by_cases h1 : i < k
      · exact ⟨i, by omega, by rw [insF_lt h1]; exact e⟩
      · exact ⟨i + 1, by omega, by rw [insF_gt (by omega)]; exact e⟩
def ClIds : List Nat := [16, 17, 18, 21, 22, 24, 25, 27, 28]
theorem ClAt.fr {f f' : (Nat → Nat → Int32)} {L MK : List Nat} (h : ClAt f L MK) (e : ∀ a, a = 15 ∨ a = 16 ∨ a = 17 ∨ a = 18 ∨ a = 19 → f' a = f a) : ClAt f' L MK := by
  obtain ⟨h1, h2, h3, h4, h5, F, h6, h7, h8⟩ := h
  refine ⟨h1, by rw [e 15 (by decide)]; exact h2, fun j hj => by rw [e 19 (by decide)]; exact h3 j hj, fun j hj => by rw [e 18 (by decide)]; exact h4 j hj, by rw [e 16 (by decide)]; exact h5, F, fun i hi => by rw [e 17 (by decide)]; exact h6 i hi, h7, h8⟩
theorem ClAt.row {h : MH} {f : (Nat → Nat → Int32)} {l : (Nat → Nat → Int64)} {L MK : List Nat} (hc : ClAt f L MK) : ∃ F, RowAt (sil h f l) 16 L.length F ∧ ∀ x : Nat, x ∈ L ↔ ∃ i, i < L.length ∧ F i = x := by
  obtain ⟨h1, h2, h3, h4, h5, F, h6, h7, h8⟩ := hc
  refine ⟨F, ⟨K16, K17, h5, ?_, by omega, h6, h7⟩, h8⟩
  rw [R16_0, L17]
  exact h1.2.1
/-- a code is put in -/
theorem cl_put {h : MH} {f : (Nat → Nat → Int32)} {l : (Nat → Nat → Int64)} {L MK : List Nat} {y : Nat} (hc : ClAt f L MK) (hy : cOK y) : SpI k_Row_put [.ref 16, .int (nI y)] (sil h f l) (fun r g =>
    (r = 1 ∧ y ∈ L ∧ g = sil h f l) ∨ (r = 0 ∧ y ∉ L ∧ L.length = 192 ∧ g = sil h f l) ∨ (r = 1 ∧ y ∉ L ∧ L.length < 192 ∧ ∃ f', g = sil h f' l ∧ Fr [16, 17] f f' ∧ f' 16 1 = nI (L.length + 1) ∧ ClAt (up2 f' 18 L.length (nI y)) (L ++ [y]) MK)) := by
  have hy' : y < 272097792 := hy
  have ty : (nI y).toInt = (y : Int) := nI_toI (by omega)
  obtain ⟨F, hr, hm⟩ := hc.row (h := h) (l := l)
  refine SpI.mono (sp_Row_put (nI y) hr (by rw [R16_0]; decide) (by rw [R16_0, L17]; decide)) ?_
  rw [R16_0, L17, ty]
  rintro r g (⟨rfl, e, k, hk, ek⟩ | ⟨nm, (⟨rfl, e, hn⟩ | ⟨rfl, hn, k, hk, _, _, f2, e, p1, p2⟩)⟩)
  · exact Or.inl ⟨rfl, (hm y).mpr ⟨k, hk, ek⟩, e⟩
  · exact Or.inr (Or.inl ⟨rfl, fun q => by obtain ⟨i, hi, ei⟩ := (hm y).mp q; exact nm i hi ei, hn, e⟩)
  · have ny : y ∉ L := fun q => by obtain ⟨i, hi, ei⟩ := (hm y).mp q; exact nm i hi ei
    rw [R16_0] at p1
    subst e
    rw [si_sil] at p2
    obtain ⟨_, _, q1, _, _, q2, q3⟩ := p2
    rw [R16_0, mi_sil] at q2
    rw [mi_sil] at q1
    have fr : Fr [16, 17] f f2 := fun a ha => p1 a (fun q => ha (by rw [q]; decide)) (fun q => ha (by rw [q]; decide))
    refine Or.inr (Or.inr ⟨rfl, ny, hn, f2, rfl, fr, q1, ?_⟩)
    obtain ⟨h1, h2, h3, h4, h5, _⟩ := hc
    have len : (L ++ [y]).length = L.length + 1 := by rw [List.length_append]; rfl
    refine ⟨⟨?_, by rw [len]; omega, h1.2.2.1, fun x hx => ?_, h1.2.2.2.2⟩, ?_, fun j hj => ?_, fun j hj => ?_, ?_, insF F k y, fun i hi => ?_, fun i j h1 h2 => ?_, fun x => ?_⟩
    · exact List.nodup_append.mpr ⟨h1.1, List.nodup_cons.mpr ⟨by simp, List.nodup_nil⟩, fun a ha b hb e => by
        rw [List.mem_singleton] at hb
        rw [e, hb] at ha
        exact ny ha⟩
    · rcases List.mem_append.mp hx with hx | hx
      · exact h1.2.2.2.1 x hx
      · rw [List.mem_singleton] at hx; rw [hx]; exact hy
    · rw [up2_ne (by decide), fr 15 (by decide)]; exact h2
    · rw [up2_ne (by decide), fr 19 (by decide)]; exact h3 j hj
    · rw [len] at hj
      by_cases e : j = L.length
      · subst e; rw [up2_s, getD_end]
      · rw [up2_ni e, fr 18 (by decide), getD_left (by omega)]; exact h4 j (by omega)
    · rw [up2_ne (by decide), q1, len]
    · rw [len] at hi
      rw [up2_ne (by decide)]; exact q2 i hi
    · rw [len] at h2; exact q3 i j h1 h2
    · rw [len, List.mem_append, List.mem_singleton]
      rw [insF_mem hk]
      constructor
      · rintro (hx | hx)
        · exact Or.inr ((hm x).mp hx)
        · exact Or.inl (by rw [hx])
      · rintro (hx | hx)
        · exact Or.inr (by omega)
        · exact Or.inl ((hm x).mpr hx)
/-- the product that extend makes -/
theorem cl_prod {h : MH} {f : (Nat → Nat → Int32)} {l : (Nat → Nat → Int64)} {x m : Nat} (hx : MatAt f 21 (eM x)) (hz : ShAt f 22 (eZ x)) (hm : cOK m) {P : Int32 → MH → Prop}
    (nx : ∀ f', Fr [24, 25, 27, 28] f f' → P (zI (prod x m)) (sil h f' l)) :
    SpV k_Motion_open [.ref 23, .int (nI m)] (sil h f l) (fun g4 => kd g4 15 = 2 ∧ kd g4 (mr g4 15 6) = 7 ∧ SpV k_Motion_join [.ref (mr g4 15 6), .ref (mr g4 15 4), .ref (mr g4 15 5)] g4 (fun g7 => kd g7 15 = 2 ∧ kd g7 (mr g7 15 6) = 7 ∧ SpI k_Motion_code [.ref (mr g7 15 6)] g7 (fun r12 g10 => P r12 g10))) := by
  refine SpV.mono (sp_Motion_open (h := sil h f l) (x := 23) (a := 24) (b := 25) rfl rfl rfl rfl rfl rfl rfl (by decide) hm) ?_
  rintro _ ⟨f2, rfl, o2, m2, s2⟩
  rw [si_sil, R15_6, R15_4, R15_5]
  have m1 : MatAt f2 21 (eM x) := fun j hj => by rw [o2 21 (by decide) (by decide)]; exact hx j hj
  have s1 : ShAt f2 22 (eZ x) := fun j hj => by rw [o2 22 (by decide) (by decide)]; exact hz j hj
  have s2 : ShAt f2 25 (eZ m) := s2
  refine ⟨K15, K26, SpV.mono (sp_Motion_join (h := sil h f2 l) (x0 := 26) (x1 := 20) (x2 := 23) (a0 := 27) (b0 := 28) (a1 := 21) (b1 := 22) (a2 := 24) (b2 := 25) rfl rfl rfl rfl rfl rfl rfl rfl rfl rfl rfl rfl rfl rfl rfl rfl rfl rfl rfl rfl rfl (by decide) (by decide) (by decide) (by decide) (by decide) (by decide) (by decide) (by decide) (by decide) m1 s1 m2 s2 (eM_small x) (eM_small m) (eZ_ok x) (eZ_ok m)) ?_⟩
  rintro _ ⟨f3, rfl, o3, m3, s3⟩
  rw [si_sil, R15_6]
  refine ⟨K15, K26, SpI.mono (sp_Motion_code (h := sil h f3 l) (x := 26) (a := 27) (b := 28) rfl rfl rfl rfl rfl rfl rfl m3 s3 (mulS_ok _ _ _)) ?_⟩
  rintro r g ⟨e, hr⟩
  subst g
  have er : r = zI (prod x m) := by
    rcases hr with ⟨u1, u2⟩ | ⟨u1, u2⟩
    · rw [of_toI u2, prod_s u1]
    · rw [u2, prod_n u1]; rfl
  rw [er]
  refine nx f3 (fun a ha => ?_)
  rw [o3 a (fun q => ha (by rw [q]; decide)) (fun q => ha (by rw [q]; decide))]
  exact o2 a (fun q => ha (by rw [q]; decide)) (fun q => ha (by rw [q]; decide))
theorem prod_m1 {x m : Nat} : (zI (prod x m) = (-1 : Int32)) = (prod x m = -1) := by
  have b := prod_b x m
  exact zI_inj (x := prod x m) (y := -1) (by omega) (by omega) (by decide) (by decide)
def ExtP (h : MH) (f0 : (Nat → Nat → Int32)) (l : (Nat → Nat → Int64)) (G : Nat → Prop) (L MK : List Nat) (x from_ : Nat) (r : Int32) (g : MH) : Prop := ∃ f', g = sil h f' l ∧ Fr ClIds f0 f' ∧ ((r = 1 ∧ ∃ N, ClAt f' (L ++ N) MK ∧ (∀ y ∈ N, reach G y) ∧ ∀ j, from_ ≤ j → j < MK.length → ∃ y ∈ L ++ N, Pr x (MK.getD j 0) y) ∨ (r = 0 ∧ ¬ Good G))
theorem cl_extend {h : MH} {f : (Nat → Nat → Int32)} {l : (Nat → Nat → Int64)} {G : Nat → Prop} {L MK : List Nat} {x fm : Nat} (hc : ClAt f L MK) (hG : Ops G) (hMK : ∀ m ∈ MK, G m) (hL : ∀ y ∈ L, reach G y) (hx : reach G x) (hf : fm ≤ MK.length) :
    SpI k_Closure_extend [.ref 15, .int (nI x), .int (nI fm)] (sil h f l) (fun r g => ExtP h f l G L MK x fm r g) := by
  have hxo := reach_op hG x hx
  have m8 := hc.1.2.2.1
  refine v_Closure_extend _ _ _ _ _ ⟨K15, ?_⟩
  rw [R15_4]
  refine ⟨K20, SpV.mono (sp_Motion_open (h := sil h f l) (x := 20) (a := 21) (b := 22) rfl rfl rfl rfl rfl rfl rfl (by decide) hxo.1) ?_⟩
  rintro _ ⟨f1, rfl, o1, m1, s1⟩
  rw [si_sil]
  have fr1 : Fr ClIds f f1 := fun a ha => o1 a (fun q => ha (by rw [q]; decide)) (fun q => ha (by rw [q]; decide))
  have c1 : ClAt f1 L MK := hc.fr (fun a ha => o1 a (by omega) (by omega))
  have main : ∀ (d k : Nat) (f2 : (Nat → Nat → Int32)) (N : List Nat), MK.length - k ≤ d → fm ≤ k → k ≤ MK.length → Fr ClIds f f2 → f2 21 = f1 21 → f2 22 = f1 22 → ClAt f2 (L ++ N) MK → (∀ y ∈ N, reach G y) → (∀ j, fm ≤ j → j < k → ∃ y ∈ L ++ N, Pr x (MK.getD j 0) y) →
      WM k_Closure_extend p_Closure_extend_1 [.ref 15, Jv, Jv, .int (nI k), Jv, Jv] [] (sil h f2 l) 0 0 (fun v g => ∃ r, v = .int r ∧ ExtP h f l G L MK x fm r g) := by
    intro d
    induction d with
    | zero =>
      intro k f2 N h1 h2 h3 fr e21 e22 c2 hN done
      have e3 : mi (sil h f2 l) 15 3 = nI MK.length := c2.2.1
      refine v_Closure_extend_1 _ _ _ _ ⟨K15, ?_⟩
      rw [e3, nI_toI (by omega), nI_toI (by omega)]
      exact ⟨fun w => absurd w (by omega), fun _ => ⟨_, rfl, f2, rfl, fr, Or.inl ⟨rfl, N, c2, hN, fun j j1 j2 => done j j1 (by omega)⟩⟩⟩
    | succ d ih =>
      intro k f2 N h1 h2 h3 fr e21 e22 c2 hN done
      have e3 : mi (sil h f2 l) 15 3 = nI MK.length := c2.2.1
      refine v_Closure_extend_1 _ _ _ _ ⟨K15, ?_⟩
      rw [e3, nI_toI (by omega), nI_toI (by omega)]
      refine ⟨fun w => ?_, fun _ => ⟨_, rfl, f2, rfl, fr, Or.inl ⟨rfl, N, c2, hN, fun j j1 j2 => done j j1 (by omega)⟩⟩⟩
      have hk : k < MK.length := by omega
      have mk : MK.getD k 0 ∈ MK := getD_mem hk
      have em : mi (sil h f2 l) 19 (ix (nI k)) = nI (MK.getD k 0) := by rw [ix_nI (by omega)]; exact c2.2.2.1 k hk
      rw [R15_2, em, R15_5]
      refine ⟨K19, InB_nI (show k < 8 by omega) (by omega), K23, ?_⟩
      refine cl_prod (x := x) (fun j hj => by rw [e21]; exact m1 j hj) (fun j hj => by rw [e22]; exact s1 j hj) (c2.1.2.2.2.2 _ mk) ?_
      intro f3 fr3
      have fr3' : Fr ClIds f f3 := fr.trans (fr3.mono (by decide))
      have c3 : ClAt f3 (L ++ N) MK := c2.fr (fun a ha => fr3 a (by simp only [List.mem_cons, List.not_mem_nil, or_false]; omega))
      rw [R15_0]
      refine ⟨K15, K16, ?_⟩
      rw [prod_m1]
      refine ⟨fun w => ⟨_, rfl, f3, rfl, fr3', Or.inr ⟨rfl, fun gd => ?_⟩⟩, fun w => ?_⟩
      · obtain ⟨y, hy⟩ := gd.1 x hx _ (hMK _ mk)
        exact (prod_iff hy.1 hy.2.1).mp w ⟨y, hy⟩
      have pr := prod_Pr hxo.1 (c2.1.2.2.2.2 _ mk) w
      have ep : prod x (MK.getD k 0) = ((prod x (MK.getD k 0)).toNat : Int) := by have := prod_b x (MK.getD k 0); omega
      generalize (prod x (MK.getD k 0)).toNat = y at pr ep
      rw [ep, zI_nat]
      have ry : reach G y := reach_step hx (hMK _ mk) pr
      have n16 : mi (sil h f3 l) 16 1 = nI (L ++ N).length := c3.2.2.2.2.1
      have l192 := c3.1.2.1
      refine SpI.mono (cl_put c3 pr.2.2.1) ?_
      rintro r g (⟨rfl, hy, e⟩ | ⟨rfl, hy, hn, e⟩ | ⟨rfl, hy, hn, f4, e, fr4, n4, c4⟩)
      · subst g
        refine ⟨fun w => absurd w (by decide), fun _ => ⟨K15, ?_⟩⟩
        rw [R15_0, nI_1]
        refine ⟨K16, fun w => absurd w (by omega), fun _ => ?_⟩
        refine ih (k + 1) f3 N (by omega) (by omega) (by omega) fr3' (by rw [fr3 21 (by decide)]; exact e21) (by rw [fr3 22 (by decide)]; exact e22) c3 hN (fun j j1 j2 => ?_)
        by_cases ej : j = k
        · subst ej; exact ⟨y, hy, pr⟩
        · exact done j j1 (by omega)
      · subst g
        refine ⟨fun _ => ⟨_, rfl, f3, rfl, fr3', Or.inr ⟨rfl, fun gd => ?_⟩⟩, fun w => absurd rfl w⟩
        have := gd.2 ((L ++ N) ++ [y]) (List.nodup_append.mpr ⟨c3.1.1, List.nodup_cons.mpr ⟨by simp, List.nodup_nil⟩, fun a ha b hb e => by
          rw [List.mem_singleton] at hb
          rw [e, hb] at ha
          exact hy ha⟩) (fun z hz => by
          rcases List.mem_append.mp hz with hz | hz
          · rcases List.mem_append.mp hz with hz | hz
            · exact hL z hz
            · exact hN z hz
          · rw [List.mem_singleton] at hz; rw [hz]; exact ry)
        rw [List.length_append, hn] at this
        exact absurd this (by show ¬ (192 + 1 ≤ 192); omega)
      · subst g
        have fr4' : Fr ClIds f f4 := fr3'.trans (fr4.mono (by decide))
        refine ⟨fun w => absurd w (by decide), fun _ => ⟨K15, ?_⟩⟩
        rw [R15_0, n16, show mi (sil h f4 l) 16 1 = nI ((L ++ N).length + 1) from n4, nI_toI (by omega), nI_toI (by omega), R15_1, ix_nI (by omega), nI_1]
        refine ⟨K16, fun _ => ⟨K18, InB_nI (show (L ++ N).length < 192 from hn) (by omega), ?_⟩, fun w => absurd (by omega) w⟩
        rintro _ rfl
        rw [wi_sil]
        rw [List.append_assoc] at c4
        refine ih (k + 1) _ (N ++ [y]) (by omega) (by omega) (by omega) (fr4'.up (by decide)) (by rw [up2_row (by decide), fr4 21 (by decide), fr3 21 (by decide)]; exact e21) (by rw [up2_row (by decide), fr4 22 (by decide), fr3 22 (by decide)]; exact e22) c4 (fun z hz => ?_) (fun j j1 j2 => ?_)
        · rcases List.mem_append.mp hz with hz | hz
          · exact hN z hz
          · rw [List.mem_singleton] at hz; rw [hz]; exact ry
        · by_cases ej : j = k
          · subst ej; exact ⟨y, by simp, pr⟩
          · obtain ⟨z, hz, pz⟩ := done j j1 (by omega)
            refine ⟨z, ?_, pz⟩
            rw [← List.append_assoc]
            exact List.mem_append_left _ hz
  exact main MK.length fm f1 [] (by omega) (Nat.le_refl _) hf fr1 rfl rfl (by rw [List.append_nil]; exact c1) (fun y hy => by cases hy) (fun j j1 j2 => by omega)
