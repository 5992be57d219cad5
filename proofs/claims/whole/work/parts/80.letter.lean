/-! the letter in the reference -/
theorem sp_Ref_letterOf {h : MH} {f : (Nat → Nat → Int32)} {l : (Nat → Nat → Int64)} {GS : List (List Nat)} {i n : Nat} (hg : RGrp f GS) (hi : i < GS.length) (ok : GOk (GS.getD i [])) (hn : n ≤ 192) : SpI k_Ref_letterOf [.ref 54, .int (nI i), .int (nI n)] (sil h f l) (fun r y => y = sil h f l ∧ r = nI (letN (GS.getD i []) n)) := by
  have one : ∀ (s : Nat) (x : Int32) (Rt : Int32 → MH → Prop), x = nI s → s < 13824 → (idc + s ∈ GS.getD i [] → Rt 1 (sil h f l)) → (idc + s ∉ GS.getD i [] → Rt 0 (sil h f l)) → SpI k_Ref_hasShift [.ref 54, .int (nI i), .int x] (sil h f l) Rt := by
    intro s x Rt ex hs y n
    rw [ex]
    refine SpI.mono (sp_hasShift hg hi ok hs) ?_
    rintro r g0 ⟨e0, res⟩
    subst g0
    rcases res with ⟨rfl, q⟩ | ⟨rfl, q⟩
    · exact y q
    · exact n q
  have p2 : idc + 5008 ∉ GS.getD i [] → n = 3 → ¬ n = 1 → ¬ n = 2 → WM k_Ref_letterOf p_Ref_letterOf_2 [.ref 54, .int (nI i), Jv, Jv, Jv, Jv] [] (sil h f l) 0 0 (fun v y => ∃ r, v = .int r ∧ y = sil h f l ∧ r = nI (letN (GS.getD i []) n)) := by
    intro na e3 n1 n2
    unfold letN
    rw [if_neg n1, if_neg n2, if_pos e3, if_neg na]
    refine v_Ref_letterOf_2 _ _ _ _ ⟨K54, one 5000 _ _ rfl (by decide) (fun y => ⟨fun q => absurd q (by decide), fun _ => ⟨K54, ?_⟩⟩) (fun nb => ⟨fun _ => ⟨_, rfl, rfl, by rw [if_neg nb]; rfl⟩, fun q => absurd rfl q⟩)⟩
    exact one 9424 _ _ rfl (by decide) (fun _ => ⟨fun q => absurd q (by decide), fun _ => ⟨_, rfl, rfl, by rw [if_pos y]; rfl⟩⟩) (fun nd => absurd (tr_pr pr_3 ok y y) nd)
  have rest : ∀ r3 r6 r9 : Int32, ((r3 = 1 ∧ idc + 300 ∈ GS.getD i []) ∨ (r3 = 0 ∧ idc + 300 ∉ GS.getD i [])) → ((r6 = 1 ∧ idc + 6924 ∈ GS.getD i []) ∨ (r6 = 0 ∧ idc + 6924 ∉ GS.getD i [])) → ((r9 = 1 ∧ idc + 7200 ∈ GS.getD i []) ∨ (r9 = 0 ∧ idc + 7200 ∉ GS.getD i [])) →
      (nI n = (1) → ∃ r, Value.int (0) = .int r ∧ sil h f l = sil h f l ∧ r = nI (letN (GS.getD i []) n)) ∧ (¬ nI n = (1) → (nI n = (2) → (r3 = 0 → (r6 = 0 → (r9 = 0 → kd (sil h f l) 54 = 13 ∧ SpI k_Ref_hasShift [.ref 54, .int (nI i), .int (7212)] (sil h f l) (fun r18 g16 => (r18 = 0 → ∃ r, Value.int (8) = .int r ∧ g16 = sil h f l ∧ r = nI (letN (GS.getD i []) n)) ∧ (¬ r18 = 0 → ∃ r, Value.int (4) = .int r ∧ g16 = sil h f l ∧ r = nI (letN (GS.getD i []) n)))) ∧ (¬ r9 = 0 → ∃ r, Value.int (3) = .int r ∧ sil h f l = sil h f l ∧ r = nI (letN (GS.getD i []) n))) ∧ (¬ r6 = 0 → ∃ r, Value.int (2) = .int r ∧ sil h f l = sil h f l ∧ r = nI (letN (GS.getD i []) n))) ∧ (¬ r3 = 0 → ∃ r, Value.int (1) = .int r ∧ sil h f l = sil h f l ∧ r = nI (letN (GS.getD i []) n))) ∧
      (¬ nI n = (2) → (nI n = (4) → (r3 = 0 → ∃ r, Value.int (8) = .int r ∧ sil h f l = sil h f l ∧ r = nI (letN (GS.getD i []) n)) ∧ (¬ r3 = 0 → (r6 = 0 → ∃ r, Value.int (8) = .int r ∧ sil h f l = sil h f l ∧ r = nI (letN (GS.getD i []) n)) ∧ (¬ r6 = 0 → (r9 = 0 → ∃ r, Value.int (8) = .int r ∧ sil h f l = sil h f l ∧ r = nI (letN (GS.getD i []) n)) ∧ (¬ r9 = 0 → ∃ r, Value.int (5) = .int r ∧ sil h f l = sil h f l ∧ r = nI (letN (GS.getD i []) n))))) ∧
      (¬ nI n = (4) → (nI n = (3) → kd (sil h f l) 54 = 13 ∧ SpI k_Ref_hasShift [.ref 54, .int (nI i), .int (5008)] (sil h f l) (fun r12 g10 => (r12 = 0 → WM k_Ref_letterOf p_Ref_letterOf_2 [.ref 54, .int (nI i), Jv, Jv, Jv, Jv] [] g10 0 0 (fun v y => ∃ r, v = .int r ∧ y = sil h f l ∧ r = nI (letN (GS.getD i []) n))) ∧ (¬ r12 = 0 → kd g10 54 = 13 ∧ SpI k_Ref_hasShift [.ref 54, .int (nI i), .int (9416)] g10 (fun r15 g13 => (r15 = 0 → WM k_Ref_letterOf p_Ref_letterOf_2 [.ref 54, .int (nI i), Jv, Jv, Jv, Jv] [] g13 0 0 (fun v y => ∃ r, v = .int r ∧ y = sil h f l ∧ r = nI (letN (GS.getD i []) n))) ∧ (¬ r15 = 0 → ∃ r, Value.int (6) = .int r ∧ g13 = sil h f l ∧ r = nI (letN (GS.getD i []) n)))))) ∧
      (¬ nI n = (3) → WM k_Ref_letterOf p_Ref_letterOf_1 [Jv, Jv, Jv, Jv, Jv, Jv] [] (sil h f l) 0 0 (fun v y => ∃ r, v = .int r ∧ y = sil h f l ∧ r = nI (letN (GS.getD i []) n)))))) := by
    intro r3 r6 r9 A B C
    have eqn : ∀ m : Nat, m < 10 → (nI n = nI m) = (n = m) := fun m hm => nI_inj (by omega) (by omega)
    rw [show (nI n = (1 : Int32)) = (n = 1) from eqn 1 (by decide), show (nI n = (2 : Int32)) = (n = 2) from eqn 2 (by decide), show (nI n = (3 : Int32)) = (n = 3) from eqn 3 (by decide), show (nI n = (4 : Int32)) = (n = 4) from eqn 4 (by decide)]
    have ab := fun y1 y2 => tr_pr pr_1 ok (S := GS.getD i []) y1 y2
    refine ⟨fun e => ⟨_, rfl, rfl, by unfold letN; rw [if_pos e]; rfl⟩, fun n1 => ⟨fun e2 => ?_, fun n2 => ⟨fun e4 => ?_, fun n4 => ⟨fun e3 => ⟨K54, ?_⟩, fun n3 => v_Ref_letterOf_1 _ _ ⟨_, rfl, rfl, by unfold letN; rw [if_neg n1, if_neg n2, if_neg n3, if_neg n4]; rfl⟩⟩⟩⟩⟩
    · unfold letN
      rw [if_neg n1, if_pos e2]
      rcases A with ⟨rfl, a⟩ | ⟨rfl, a⟩
      · exact ⟨fun q => absurd q (by decide), fun _ => ⟨_, rfl, rfl, by rw [if_pos a]; rfl⟩⟩
      · refine ⟨fun _ => ?_, fun q => absurd rfl q⟩
        rcases B with ⟨rfl, b⟩ | ⟨rfl, b⟩
        · exact ⟨fun q => absurd q (by decide), fun _ => ⟨_, rfl, rfl, by rw [if_neg a, if_pos b]; rfl⟩⟩
        · refine ⟨fun _ => ?_, fun q => absurd rfl q⟩
          rcases C with ⟨rfl, c⟩ | ⟨rfl, c⟩
          · exact ⟨fun q => absurd q (by decide), fun _ => ⟨_, rfl, rfl, by rw [if_neg a, if_neg b, if_pos c]; rfl⟩⟩
          · exact ⟨fun _ => ⟨K54, one 7212 _ _ rfl (by decide) (fun d => ⟨fun q => absurd q (by decide), fun _ => ⟨_, rfl, rfl, by rw [if_neg a, if_neg b, if_neg c, if_pos d]; rfl⟩⟩) (fun d => ⟨fun _ => ⟨_, rfl, rfl, by rw [if_neg a, if_neg b, if_neg c, if_neg d]; rfl⟩, fun q => absurd rfl q⟩)⟩, fun q => absurd rfl q⟩
    · unfold letN
      rw [if_neg n1, if_neg n2, if_neg (by omega), if_pos e4]
      rcases A with ⟨rfl, a⟩ | ⟨rfl, a⟩
      · refine ⟨fun q => absurd q (by decide), fun _ => ?_⟩
        rcases B with ⟨rfl, b⟩ | ⟨rfl, b⟩
        · refine ⟨fun q => absurd q (by decide), fun _ => ?_⟩
          rcases C with ⟨rfl, c⟩ | ⟨rfl, c⟩
          · exact ⟨fun q => absurd q (by decide), fun _ => ⟨_, rfl, rfl, by rw [if_pos a, if_pos b]; rfl⟩⟩
          · exact absurd (ab a b) c
        · exact ⟨fun _ => ⟨_, rfl, rfl, by rw [if_pos a, if_neg b]; rfl⟩, fun q => absurd rfl q⟩
      · exact ⟨fun _ => ⟨_, rfl, rfl, by rw [if_neg a]; rfl⟩, fun q => absurd rfl q⟩
    · refine one 5008 _ _ rfl (by decide) (fun y => ⟨fun q => absurd q (by decide), fun _ => ⟨K54, ?_⟩⟩) (fun na => ⟨fun _ => p2 na e3 n1 n2, fun q => absurd rfl q⟩)
      exact one 9416 _ _ rfl (by decide) (fun _ => ⟨fun q => absurd q (by decide), fun _ => ⟨_, rfl, rfl, by unfold letN; rw [if_neg n1, if_neg n2, if_pos e3, if_pos y]; rfl⟩⟩) (fun nd => absurd (tr_pr pr_2 ok y y) nd)
  refine v_Ref_letterOf _ _ _ _ _ ⟨K54, SpI.mono (sp_hasShift (s := 300) hg hi ok (by decide)) ?_⟩
  rintro r3 g0 ⟨e0, A⟩
  subst g0
  refine ⟨K54, SpI.mono (sp_hasShift (s := 6924) hg hi ok (by decide)) ?_⟩
  rintro r6 g0 ⟨e0, B⟩
  subst g0
  refine ⟨K54, SpI.mono (sp_hasShift (s := 7200) hg hi ok (by decide)) ?_⟩
  rintro r9 g0 ⟨e0, C⟩
  subst g0
  exact rest r3 r6 r9 A B C
