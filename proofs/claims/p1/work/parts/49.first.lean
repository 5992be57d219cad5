/-! the first call on a fresh object -/
def Fresh (h : MH) : Prop := (mi h 5 3 = nI 0 ∧ mi h 5 6 = nI 0 ∧ mi h 5 14 = nI 0 ∧ mi h 5 16 = nI 0 ∧ mi h 50 3 = nI 0 ∧ mi h 6 2 = nI 0 ∧ mi h 6 4 = nI 0 ∧ mi h 6 5 = zI (-1) ∧ mi h 6 8 = nI 0) ∧
  (mi h 54 1 = nI 0 ∧ mi h 54 9 = nI 0 ∧ mi h 54 10 = nI 0 ∧ mi h 54 11 = zI (-1) ∧ mi h 54 14 = nI 0 ∧ mi h 54 17 = nI 0 ∧ mi h 54 32 = nI 0 ∧ mi h 54 45 = nI 0 ∧ mi h 54 56 = nI 0)
def Tr (_ : MH) : Prop := True
theorem lay4_row {f : (Nat → Nat → Int32)} {a k b : Nat} {x : Int32} (h : b ≠ a) : lay4 f a k x b = f b := by
  unfold lay4; rw [up2_row h, up2_row h, up2_row h, up2_row h]
theorem lay5_row {f : (Nat → Nat → Int32)} {q i y : Nat} {a b c d e : Int32} (h : y ≠ q) : lay5 f q i a b c d e y = f y := by
  unfold lay5; rw [up2_row h, up2_row h, up2_row h, up2_row h, up2_row h]
theorem f_feed : C_feed Fresh Tr := by
  intro h a b c d e hS hF
  have A := sp_Ho_feed (h := h) (f := mi h) (l := ml h) a b c d e
  rw [← hS.sil] at A
  refine SpV.mono A ?_
  rintro _ rfl
  refine ⟨Sc_sil hS (by rw [lay4_row (by decide), lay4_row (by decide), lay4_row (by decide), lay4_row (by decide), lay4_row (by decide)]), SpV.mono (sp_Ref_feed a b c d e) ?_⟩
  rintro _ rfl
  exact ⟨Sc_sil hS (by rw [lay5_row (by decide), lay5_row (by decide), lay5_row (by decide), lay5_row (by decide), lay4_row (by decide), lay4_row (by decide), lay4_row (by decide), lay4_row (by decide), lay4_row (by decide)]), trivial⟩
theorem f_end : C_end Fresh Tr := by
  intro h a hS hF
  have A := sp_Ho_end (h := h) (f := mi h) (l := ml h) (n := 0) hF.1.2.2.2.2.2.1 (by decide) a
  rw [← hS.sil] at A
  refine SpI.mono A ?_
  rintro r g (⟨ok, f1, rfl, ⟨p1, p2, p3, p4, p5⟩, rfl⟩ | ⟨ok, eg, rfl⟩)
  · have e54 : f1 54 = mi h 54 := p1 54 (by decide) (by decide) (by decide)
    refine ⟨Sc_sil hS (p1 1 (by decide) (by decide) (by decide)), SpI.mono (sp_Ref_end (n := 0) (by rw [e54]; exact hF.2.2.1) (by decide) a) ?_⟩
    rintro r g (⟨_, f2, rfl, ⟨q1, _⟩, rfl⟩ | ⟨no, _⟩)
    · exact ⟨rfl, Sc_sil hS (by rw [q1 1 (by decide) (by decide) (by decide)]; exact p1 1 (by decide) (by decide) (by decide)), trivial⟩
    · exact absurd ok no
  · rw [eg]
    refine ⟨⟨hS, rfl, rfl⟩, ?_⟩
    have B := sp_Ref_end (h := h) (f := mi h) (l := ml h) (n := 0) hF.2.2.1 (by decide) a
    rw [← hS.sil] at B
    refine SpI.mono B ?_
    rintro r g (⟨yes, _⟩ | ⟨_, eg, rfl⟩)
    · exact absurd yes ok
    · rw [eg]; exact ⟨rfl, ⟨hS, rfl, rfl⟩, trivial⟩
theorem f_read : C_read Fresh Tr := by
  intro h hS hF
  have A := read0_Ho (h := h) (f := mi h) (l := ml h) hF.1.2.2.2.2.2.1
  rw [← hS.sil] at A
  refine SpI.mono A ?_
  rintro r g ⟨rfl, f1, rfl, p1⟩
  refine ⟨Sc_sil hS (p1 1 (by decide)), SpI.mono (read0_Ref (by rw [p1 54 (by decide)]; exact hF.2.2.1)) ?_⟩
  rintro r g ⟨rfl, f2, rfl, p2⟩
  exact ⟨rfl, Sc_sil hS (by rw [p2 1 (by decide)]; exact p1 1 (by decide)), trivial⟩
theorem f_fault : C_fault Fresh Tr := by
  intro h a hS hF
  have A := sp_Ho_fault (h := h) (f := mi h) (l := ml h) a
  have B := sp_Ref_fault (h := h) (f := mi h) (l := ml h) a
  rw [hF.1.2.2.2.2.2.2.1, hF.1.2.2.2.2.2.2.2.1] at A
  rw [hF.2.2.2.1, hF.2.2.2.2.1] at B
  rw [← hS.sil] at A B
  exact pairI hS trivial A B
theorem f_operation : C_operation Fresh Tr := by
  intro h a b hS hF
  have A := sp_Ho_operation (h := h) (f := mi h) (l := ml h) (T := 0) hF.1.1 (by decide) a b
  rw [← hS.sil] at A
  refine SpI.mono A ?_
  rintro r g (⟨ok, rfl, f1, fr, rfl⟩ | ⟨ok, rfl, f1, fr, rfl⟩)
  · have k54 : keepF f1 0 (13824 * ix a + ix b) 54 = mi h 54 := by unfold keepF; rw [up2_row (by decide), up2_row (by decide), up2_row (by decide)]; exact fr 54 (by decide)
    have k1 : keepF f1 0 (13824 * ix a + ix b) 1 = mi h 1 := by unfold keepF; rw [up2_row (by decide), up2_row (by decide), up2_row (by decide)]; exact fr 1 (by decide)
    refine ⟨Sc_sil hS k1, SpI.mono (sp_Ref_operation (T := 0) (by rw [k54]; exact hF.2.1) (by decide) a b) ?_⟩
    rintro r g (⟨_, rfl, f2, fr2, rfl⟩ | ⟨no, _⟩)
    · refine ⟨rfl, Sc_sil hS ?_, trivial⟩
      unfold tellF
      rw [up2_row (by decide), up2_row (by decide), fr2 1 (by decide)]
      exact k1
    · exact absurd ok no
  · refine ⟨Sc_sil hS (fr 1 (by decide)), SpI.mono (sp_Ref_operation (T := 0) (by rw [fr 54 (by decide)]; exact hF.2.1) (by decide) a b) ?_⟩
    rintro r g (⟨yes, _⟩ | ⟨_, rfl, f2, fr2, rfl⟩)
    · exact absurd yes ok
    · exact ⟨rfl, Sc_sil hS (by rw [fr2 1 (by decide)]; exact fr 1 (by decide)), trivial⟩
theorem f_group : C_group Fresh Tr := by
  intro h hS hF
  have A := group0_Ho (h := h) (f := mi h) (l := ml h) hS rfl rfl hF.1.1 hF.1.2.1
  rw [← hS.sil] at A
  refine SpI.mono A ?_
  rintro r g ⟨rfl, c⟩
  refine ⟨c.sc, ?_⟩
  have e54 := c.2.2.2.1
  have B := group0_Ref (h := g) (f := mi g) (l := ml g) (by rw [e54]; exact hF.2.1) (by rw [e54]; exact hF.2.2.2.2.2.2.1)
  rw [← c.1.sil] at B
  refine SpI.mono B ?_
  rintro r g' ⟨rfl, f', rfl, fr⟩
  exact ⟨rfl, c.sc.trans (Sc_sil c.1 (fr 1 (by decide))), trivial⟩
theorem f_cell : C_cell Fresh Tr := by
  intro h a b c d e f hS hF
  refine SpI.mono (sp_Ho_cell hS hF.1.2.2.1 (by decide) a b c d e f) ?_
  rintro r g (⟨ok, rfl, cs⟩ | ⟨ok, rfl, rfl⟩)
  · refine ⟨cs.sc, ?_⟩
    have B := sp_Ref_cell (h := g) (f := mi g) (l := ml g) (n := 0) (by rw [cs.2.2.2.1]; exact hF.2.2.2.2.2.2.2.1) (by decide) a b c d e f
    rw [← cs.1.sil] at B
    refine SpI.mono B ?_
    rintro r g' (⟨_, rfl, f', l', rfl, fr⟩ | ⟨no, _⟩)
    · exact ⟨rfl, cs.sc.trans (Sc_sil cs.1 (fr 1 (by decide))), trivial⟩
    · exact absurd ok no
  · refine ⟨⟨hS, rfl, rfl⟩, ?_⟩
    have B := sp_Ref_cell (h := g) (f := mi g) (l := ml g) (n := 0) hF.2.2.2.2.2.2.2.1 (by decide) a b c d e f
    rw [← hS.sil] at B
    refine SpI.mono B ?_
    rintro r g' (⟨yes, _⟩ | ⟨_, rfl, l', rfl⟩)
    · exact absurd yes ok
    · exact ⟨rfl, Sc_sil hS rfl, trivial⟩
theorem f_phase : C_phase Fresh Tr := by
  intro h a b e hS hF
  have A := sp_Ho_phase (h := h) (f := mi h) (l := ml h) (n := 0) hF.1.2.2.2.2.1 (by decide) a b e
  rw [← hS.sil] at A
  refine SpI.mono A ?_
  rintro r g (⟨ok, rfl, rfl⟩ | ⟨ok, rfl, eg⟩)
  · have k54 : phF (mi h) 51 52 50 3 0 a b 54 = mi h 54 := by unfold phF; rw [up2_row (by decide), up2_row (by decide), up2_row (by decide)]
    have k1 : phF (mi h) 51 52 50 3 0 a b 1 = mi h 1 := by unfold phF; rw [up2_row (by decide), up2_row (by decide), up2_row (by decide)]
    refine ⟨Sc_sil hS k1, SpI.mono (sp_Ref_phase (n := 0) (by rw [k54]; exact hF.2.2.2.2.2.2.2.2.2) (by decide) a b e) ?_⟩
    rintro r g (⟨_, rfl, rfl⟩ | ⟨no, _⟩)
    · refine ⟨rfl, Sc_sil hS ?_, trivial⟩
      unfold phF
      rw [up2_row (by decide), up2_row (by decide), up2_row (by decide), up2_row (by decide), up2_row (by decide), up2_row (by decide)]
    · exact absurd ok no
  · rw [eg]
    refine ⟨⟨hS, rfl, rfl⟩, ?_⟩
    have B := sp_Ref_phase (h := h) (f := mi h) (l := ml h) (n := 0) hF.2.2.2.2.2.2.2.2.2 (by decide) a b e
    rw [← hS.sil] at B
    refine SpI.mono B ?_
    rintro r g (⟨yes, _⟩ | ⟨_, rfl, eg⟩)
    · exact absurd yes ok
    · rw [eg]; exact ⟨rfl, ⟨hS, rfl, rfl⟩, trivial⟩
theorem f_above : C_above Fresh Tr := by
  intro h a b hS hF
  have A := no_Ho_above (h := h) (f := mi h) (l := ml h) hF.1.2.2.2.2.1 a b
  have B := no_Ref_above (h := h) (f := mi h) (l := ml h) hF.2.2.2.2.2.2.2.2.2 a b
  rw [← hS.sil] at A B
  exact pairL hS trivial A B
theorem f_calls : Calls Fresh Tr := by
  have ot : ∀ {h : MH} {a i : Nat} (x : Int32), mi h a i = nI 0 → Out h a i x := fun x e => Out.zero x e
  refine ⟨f_feed, f_end, f_read, f_fault, f_operation, ?_, ?_, ?_, ?_, f_group, ?_, ?_, ?_, ?_, ?_, ?_, ?_, f_cell, ?_, ?_, ?_, ?_, ?_, ?_, ?_, ?_, ?_, ?_, ?_, ?_, ?_, f_phase, f_above⟩
  · intro h a hS hF; exact pairI hS trivial (no_Ho_tell hS.k5 (ot _ hF.1.1)) (no_Ref_tell hS.k54 (ot _ hF.2.1))
  · intro h a b hS hF; exact pairI hS trivial (no_Ho_tellOf hS.k5 (ot _ hF.1.2.1)) (no_Ref_tellOf hS.k54 (ot _ hF.2.2.2.2.2.2.1))
  · intro h a hS hF; exact pairI hS trivial (no_Ho_letter hS.k5 (hS.2.2.2 (5, 0, 6) (by decide)) hS.k6 (ot _ hF.1.2.2.2.2.2.2.2.2)) (no_Ref_letter hS.k54 (ot _ hF.2.2.2.2.2.1))
  · intro h a hS hF; exact pairI hS trivial (no_Ho_choose hS.k5 (ot _ hF.1.1)) (no_Ref_choose hS.k54 (ot _ hF.2.1))
  · intro h a b hS hF; exact pairI hS trivial (no_Ho_about hS.k5 (ot _ hF.1.2.1)) (no_Ref_about hS.k54 (ot _ hF.2.2.2.2.2.2.1))
  · intro h a b c hS hF; exact pairI hS trivial (no_Ho_of hS.k5 (ot _ hF.1.2.1)) (no_Ref_of hS.k54 (ot _ hF.2.2.2.2.2.2.1))
  · intro h a b c hS hF; exact pairI hS trivial (no_Ho_product hS.k5 (ot _ hF.1.2.1)) (no_Ref_product hS.k54 (ot _ hF.2.2.2.2.2.2.1))
  · intro h a b hS hF; exact pairI hS trivial (no_Ho_half hS.k5 (ot _ hF.1.2.1)) (no_Ref_half hS.k54 (ot _ hF.2.2.2.2.2.2.1))
  · intro h a b hS hF; exact pairI hS trivial (no_Ho_within hS.k5 (ot _ hF.1.2.1) (ot _ hF.1.2.1)) (no_Ref_within hS.k54 (ot _ hF.2.2.2.2.2.2.1))
  · intro h a b c hS hF; exact pairI hS trivial (no_Ho_orbit hS.k5 (ot _ hF.1.2.1)) (no_Ref_orbit hS.k54 (ot _ hF.2.2.2.2.2.2.1))
  · intro h a b c d e hS hF; exact pairI hS trivial (no_Ho_wave hS.k5 (ot _ hF.1.2.1)) (no_Ref_wave hS.k54 (ot _ hF.2.2.2.2.2.2.1))
  · intro h a b hS hF; exact pairL hS trivial (no_Ho_reduced hS.k5 (ot _ hF.1.2.2.1)) (no_Ref_reduced hS.k54 (ot _ hF.2.2.2.2.2.2.2.1))
  · intro h a b hS hF; exact pairI hS trivial (no_Ho_fits hS.k5 (ot _ hF.1.2.1) (ot _ hF.1.2.2.1)) (no_Ref_fits hS.k54 (ot _ hF.2.2.2.2.2.2.1))
  · intro h a b hS hF; exact pairI hS trivial (no_Ho_multiples hS.k5 (ot _ hF.1.2.2.1)) (no_Ref_multiples hS.k54 (ot _ hF.2.2.2.2.2.2.2.1))
  · intro h a b c d hS hF; exact pairL hS trivial (no_Ho_multiple hS.k5 (ot _ hF.1.2.2.1)) (no_Ref_multiple hS.k54 (ot _ hF.2.2.2.2.2.2.2.1))
  · intro h a b hS hF; exact pairI hS trivial (no_Ho_model hS.k5 (ot _ hF.1.2.1) (ot _ hF.1.2.2.1)) (no_Ref_model hS.k54 (ot _ hF.2.2.2.2.2.2.1))
  · intro h a b c hS hF; exact pairI hS trivial (no_Ho_atom hS.k5 (ot _ hF.1.2.2.2.1)) (no_Ref_atom hS.k54 (ot _ hF.2.2.2.2.2.2.2.2.1))
  · intro h a b c hS hF; exact pairI hS trivial (no_Ho_placed hS.k5 (ot _ hF.1.2.2.2.1)) (no_Ref_placed hS.k54 (ot _ hF.2.2.2.2.2.2.2.2.1))
  · intro h a b c d e hS hF; exact pairL hS trivial (no_Ho_amplitude hS.k5 (ot _ hF.1.2.2.2.1)) (no_Ref_amplitude hS.k54 (ot _ hF.2.2.2.2.2.2.2.2.1))
  · intro h a b c hS hF; exact pairL hS trivial (no_Ho_distance hS.k5 (ot _ hF.1.2.2.2.1)) (no_Ref_distance hS.k54 (ot _ hF.2.2.2.2.2.2.2.2.1))
  · intro h a b c hS hF; exact pairI hS trivial (no_Ho_near hS.k5 (ot _ hF.1.2.2.2.1)) (no_Ref_near hS.k54 (ot _ hF.2.2.2.2.2.2.2.2.1))
  · intro h a b hS hF; exact pairI hS trivial (no_Ho_lines hS.k5 (ot _ hF.1.2.2.2.1)) (no_Ref_lines hS.k54 (ot _ hF.2.2.2.2.2.2.2.2.1))
  · intro h a b c d hS hF; exact pairL hS trivial (no_Ho_line hS.k5 (ot _ hF.1.2.2.2.1)) (no_Ref_line hS.k54 (ot _ hF.2.2.2.2.2.2.2.2.1))
  · intro h a b hS hF; exact pairL hS trivial (no_Ho_map hS.k5 (ot _ hF.1.2.2.2.1)) (no_Ref_map hS.k54 (ot _ hF.2.2.2.2.2.2.2.2.1))
theorem B_fresh (z : h0T) : Fresh (B203 z) := by
  have v : ∀ a j, vO 2 opL 5 a j = some 0 → mi (B203 z) a j = nI 0 := fun a j e => B_i z e
  exact ⟨⟨v 5 3 (by decide +kernel), v 5 6 (by decide +kernel), v 5 14 (by decide +kernel), v 5 16 (by decide +kernel), v 50 3 (by decide +kernel), v 6 2 (by decide +kernel), v 6 4 (by decide +kernel), B_i z (by decide +kernel), v 6 8 (by decide +kernel)⟩,
    ⟨v 54 1 (by decide +kernel), v 54 9 (by decide +kernel), v 54 10 (by decide +kernel), B_i z (by decide +kernel), v 54 14 (by decide +kernel), v 54 17 (by decide +kernel), v 54 32 (by decide +kernel), v 54 45 (by decide +kernel), v 54 56 (by decide +kernel)⟩⟩
/-- the law over a script of one call at most -/
theorem law_first (z : h0T) (hk : ∀ a, 0 < a → a < 5 → kd (5, z) a = 19) (h2 : ln (5, z) 2 = 32) (h3 : ln (5, z) 3 = 96) (h4 : ln (5, z) 4 = 13) (h1 : ln (5, z) 1 ≤ 7) : WM k_Law_law 0 (ent (lM k_Law_law) [.ref 1]) [] (5, z) 0 0 (fun v _ => v = .int 1) := by
  have S := B_SS z hk h2 h3 h4
  have e1 := (B_1 z).1
  refine law_start z _ ?_
  refine law_loop (I := fun i => match i with | 0 => Fresh | _ => Tr) (L := ln (5, z) 1) (by omega) ?_ ?_ 7 0 (B203 z) 94 110249 (by omega) (by omega) S (B_fresh z) e1 (by omega) (by omega)
  · intro i hi
    have : i = 0 := by omega
    subst this
    exact f_calls
  · intro i h hi _ _
    have : i = 0 := by omega
    subst this
    exact trivial
