/-! refused calls: no such operation, group, cell, model (printed: wip/gen/gennone.py) -/
def Out (h : MH) (a i : Nat) (x : Int32) : Prop := ¬ (0 ≤ x.toInt ∧ x.toInt < (mi h a i).toInt)
theorem Out.lt {h : MH} {a i : Nat} {x : Int32} (o : Out h a i x) (h0 : ¬ x.toInt < 0) : ¬ x.toInt < (mi h a i).toInt := fun q => o ⟨by omega, q⟩
theorem Out.zero {h : MH} {a i : Nat} (x : Int32) (e : mi h a i = 0) : Out h a i x := fun q => by rw [e] at q; have : (0 : Int32).toInt = 0 := rfl; omega
theorem no_Ref_isOperation {h : MH} {x : Int32} (k : kd h 54 = 13) (e : Out h 54 1 x) : SpI k_Ref_isOperation [.ref 54, .int x] h (fun r g => g = h ∧ r = 0) :=
  v_Ref_isOperation 54 x h _ ⟨fun _ => ⟨_, rfl, rfl, rfl⟩, fun c => ⟨k, fun q => absurd q (e.lt c), fun _ => ⟨_, rfl, rfl, rfl⟩⟩⟩
theorem no_Ref_isGroup {h : MH} {x : Int32} (k : kd h 54 = 13) (e : Out h 54 17 x) : SpI k_Ref_isGroup [.ref 54, .int x] h (fun r g => g = h ∧ r = 0) :=
  v_Ref_isGroup 54 x h _ ⟨fun _ => ⟨_, rfl, rfl, rfl⟩, fun c => ⟨k, fun q => absurd q (e.lt c), fun _ => ⟨_, rfl, rfl, rfl⟩⟩⟩
theorem no_Ref_isCell {h : MH} {x : Int32} (k : kd h 54 = 13) (e : Out h 54 32 x) : SpI k_Ref_isCell [.ref 54, .int x] h (fun r g => g = h ∧ r = 0) :=
  v_Ref_isCell 54 x h _ ⟨fun _ => ⟨_, rfl, rfl, rfl⟩, fun c => ⟨k, fun q => absurd q (e.lt c), fun _ => ⟨_, rfl, rfl, rfl⟩⟩⟩
theorem no_Ref_isModel {h : MH} {x : Int32} (k : kd h 54 = 13) (e : Out h 54 45 x) : SpI k_Ref_isModel [.ref 54, .int x] h (fun r g => g = h ∧ r = 0) :=
  v_Ref_isModel 54 x h _ ⟨fun _ => ⟨_, rfl, rfl, rfl⟩, fun c => ⟨k, fun q => absurd q (e.lt c), fun _ => ⟨_, rfl, rfl, rfl⟩⟩⟩
theorem no_Ho_groupAt {h : MH} {x : Int32} (k : kd h 5 = 12) (e : Out h 5 6 x) : SpR k_Ho_groupAt [.ref 5, .int x] h (fun r g => g = h ∧ r = 0) :=
  v_Ho_groupAt 5 x h _ ⟨fun _ => ⟨_, rfl, rfl, rfl⟩, fun c => ⟨k, fun q => absurd q (e.lt c), fun _ => ⟨_, rfl, rfl, rfl⟩⟩⟩
theorem no_Ho_cellAt {h : MH} {x : Int32} (k : kd h 5 = 12) (e : Out h 5 14 x) : SpR k_Ho_cellAt [.ref 5, .int x] h (fun r g => g = h ∧ r = 0) :=
  v_Ho_cellAt 5 x h _ ⟨fun _ => ⟨_, rfl, rfl, rfl⟩, fun c => ⟨k, fun q => absurd q (e.lt c), fun _ => ⟨_, rfl, rfl, rfl⟩⟩⟩
theorem no_Ho_modelAt {h : MH} {x : Int32} (k : kd h 5 = 12) (e : Out h 5 16 x) : SpR k_Ho_modelAt [.ref 5, .int x] h (fun r g => g = h ∧ r = 0) :=
  v_Ho_modelAt 5 x h _ ⟨fun _ => ⟨_, rfl, rfl, rfl⟩, fun c => ⟨k, fun q => absurd q (e.lt c), fun _ => ⟨_, rfl, rfl, rfl⟩⟩⟩
theorem no_Ref_isMember {h : MH} {x1 : Int32} {x2 : Int32} (k : kd h 54 = 13) (e : Out h 54 17 x1) : SpI k_Ref_isMember [.ref 54, .int x1, .int x2] h (fun r g => g = h ∧ r = 0) := by
  refine v_Ref_isMember 54 x1 x2 h _ ⟨k, ?_⟩
  refine SpI.mono (no_Ref_isGroup k e) ?_
  rintro r g ⟨e0, e1⟩
  subst g e1
  exact ⟨fun _ => ⟨_, rfl, rfl, rfl⟩, fun c => absurd rfl c⟩
theorem no_Ref_isPlaced {h : MH} {x1 : Int32} {x2 : Int32} (k : kd h 54 = 13) (e : Out h 54 45 x1) : SpI k_Ref_isPlaced [.ref 54, .int x1, .int x2] h (fun r g => g = h ∧ r = 0) := by
  refine v_Ref_isPlaced 54 x1 x2 h _ ⟨k, ?_⟩
  refine SpI.mono (no_Ref_isModel k e) ?_
  rintro r g ⟨e0, e1⟩
  subst g e1
  exact ⟨fun _ => ⟨_, rfl, rfl, rfl⟩, fun c => absurd rfl c⟩
theorem no_Ref_tellOf {h : MH} {x1 : Int32} {x2 : Int32} (k : kd h 54 = 13) (e : Out h 54 17 x1) : SpI k_Ref_tellOf [.ref 54, .int x1, .int x2] h (fun r g => g = h ∧ r = -1) := by
  refine v_Ref_tellOf 54 x1 x2 h _ ⟨k, ?_⟩
  refine SpI.mono (no_Ref_isGroup k e) ?_
  rintro r g ⟨e0, e1⟩
  subst g e1
  exact ⟨fun _ => ⟨_, rfl, rfl, rfl⟩, fun c => absurd rfl c⟩
theorem no_Ref_about {h : MH} {x1 : Int32} {x2 : Int32} (k : kd h 54 = 13) (e : Out h 54 17 x1) : SpI k_Ref_about [.ref 54, .int x1, .int x2] h (fun r g => g = h ∧ r = -1) := by
  refine v_Ref_about 54 x1 x2 h _ ⟨k, ?_⟩
  refine SpI.mono (no_Ref_isGroup k e) ?_
  rintro r g ⟨e0, e1⟩
  subst g e1
  exact ⟨fun _ => ⟨_, rfl, rfl, rfl⟩, fun c => absurd rfl c⟩
theorem no_Ref_half {h : MH} {x1 : Int32} {x2 : Int32} (k : kd h 54 = 13) (e : Out h 54 17 x1) : SpI k_Ref_half [.ref 54, .int x1, .int x2] h (fun r g => g = h ∧ r = -1) := by
  refine v_Ref_half 54 x1 x2 h _ ⟨k, ?_⟩
  refine SpI.mono (no_Ref_isGroup k e) ?_
  rintro r g ⟨e0, e1⟩
  subst g e1
  exact ⟨fun _ => ⟨_, rfl, rfl, rfl⟩, fun c => absurd rfl c⟩
theorem no_Ref_within {h : MH} {x1 : Int32} {x2 : Int32} (k : kd h 54 = 13) (e : Out h 54 17 x1) : SpI k_Ref_within [.ref 54, .int x1, .int x2] h (fun r g => g = h ∧ r = 0) := by
  refine v_Ref_within 54 x1 x2 h _ ⟨k, ?_⟩
  refine SpI.mono (no_Ref_isGroup k e) ?_
  rintro r g ⟨e0, e1⟩
  subst g e1
  exact ⟨fun _ => ⟨_, rfl, rfl, rfl⟩, fun c => absurd rfl c⟩
theorem no_Ref_orbit {h : MH} {x1 : Int32} {x2 : Int32} {x3 : Int32} (k : kd h 54 = 13) (e : Out h 54 17 x1) : SpI k_Ref_orbit [.ref 54, .int x1, .int x2, .int x3] h (fun r g => g = h ∧ r = -1) := by
  refine v_Ref_orbit 54 x1 x2 x3 h _ ⟨k, ?_⟩
  refine SpI.mono (no_Ref_isGroup k e) ?_
  rintro r g ⟨e0, e1⟩
  subst g e1
  exact ⟨fun _ => ⟨_, rfl, rfl, rfl⟩, fun c => absurd rfl c⟩
theorem no_Ref_wave {h : MH} {x1 : Int32} {x2 : Int32} {x3 : Int32} {x4 : Int32} {x5 : Int32} (k : kd h 54 = 13) (e : Out h 54 17 x1) : SpI k_Ref_wave [.ref 54, .int x1, .int x2, .int x3, .int x4, .int x5] h (fun r g => g = h ∧ r = -1) := by
  refine v_Ref_wave 54 x1 x2 x3 x4 x5 h _ ⟨k, ?_⟩
  refine SpI.mono (no_Ref_isGroup k e) ?_
  rintro r g ⟨e0, e1⟩
  subst g e1
  exact ⟨fun _ => ⟨_, rfl, rfl, rfl⟩, fun c => absurd rfl c⟩
theorem no_Ref_fits {h : MH} {x1 : Int32} {x2 : Int32} (k : kd h 54 = 13) (e : Out h 54 17 x1) : SpI k_Ref_fits [.ref 54, .int x1, .int x2] h (fun r g => g = h ∧ r = 0) := by
  refine v_Ref_fits 54 x1 x2 h _ ⟨k, ?_⟩
  refine SpI.mono (no_Ref_isGroup k e) ?_
  rintro r g ⟨e0, e1⟩
  subst g e1
  exact ⟨fun _ => ⟨_, rfl, rfl, rfl⟩, fun c => absurd rfl c⟩
theorem no_Ref_of {h : MH} {x1 : Int32} {x2 : Int32} {x3 : Int32} (k : kd h 54 = 13) (e : Out h 54 17 x1) : SpI k_Ref_of [.ref 54, .int x1, .int x2, .int x3] h (fun r g => g = h ∧ r = -1) := by
  refine v_Ref_of 54 x1 x2 x3 h _ ⟨k, ?_⟩
  refine SpI.mono (no_Ref_isMember k e) ?_
  rintro r g ⟨e0, e1⟩
  subst g e1
  exact ⟨fun _ => ⟨_, rfl, rfl, rfl⟩, fun c => absurd rfl c⟩
theorem no_Ref_product {h : MH} {x1 : Int32} {x2 : Int32} {x3 : Int32} (k : kd h 54 = 13) (e : Out h 54 17 x1) : SpI k_Ref_product [.ref 54, .int x1, .int x2, .int x3] h (fun r g => g = h ∧ r = -1) := by
  refine v_Ref_product 54 x1 x2 x3 h _ ⟨k, ?_⟩
  refine SpI.mono (no_Ref_isMember k e) ?_
  rintro r g ⟨e0, e1⟩
  subst g e1
  exact ⟨fun _ => ⟨_, rfl, rfl, rfl⟩, fun c => absurd rfl c⟩
theorem no_Ref_reduced {h : MH} {x1 : Int32} {x2 : Int32} (k : kd h 54 = 13) (e : Out h 54 32 x1) : SpL k_Ref_reduced [.ref 54, .int x1, .int x2] h (fun r g => g = h ∧ r = 0) := by
  refine v_Ref_reduced 54 x1 x2 h _ ⟨k, ?_⟩
  refine SpI.mono (no_Ref_isCell k e) ?_
  rintro r g ⟨e0, e1⟩
  subst g e1
  exact ⟨fun _ => ⟨_, rfl, rfl, rfl⟩, fun c => absurd rfl c⟩
theorem no_Ref_multiples {h : MH} {x1 : Int32} {x2 : Int32} (k : kd h 54 = 13) (e : Out h 54 32 x1) : SpI k_Ref_multiples [.ref 54, .int x1, .int x2] h (fun r g => g = h ∧ r = -1) := by
  refine v_Ref_multiples 54 x1 x2 h _ ⟨k, ?_⟩
  refine SpI.mono (no_Ref_isCell k e) ?_
  rintro r g ⟨e0, e1⟩
  subst g e1
  exact ⟨fun _ => ⟨_, rfl, rfl, rfl⟩, fun c => absurd rfl c⟩
theorem no_Ref_multiple {h : MH} {x1 : Int32} {x2 : Int32} {x3 : Int32} {x4 : Int32} (k : kd h 54 = 13) (e : Out h 54 32 x1) : SpL k_Ref_multiple [.ref 54, .int x1, .int x2, .int x3, .int x4] h (fun r g => g = h ∧ r = 0) := by
  refine v_Ref_multiple 54 x1 x2 x3 x4 h _ ⟨k, ?_⟩
  refine SpI.mono (no_Ref_isCell k e) ?_
  rintro r g ⟨e0, e1⟩
  subst g e1
  exact ⟨fun _ => ⟨_, rfl, rfl, rfl⟩, fun c => absurd rfl c⟩
theorem no_Ref_atom {h : MH} {x1 : Int32} {x2 : Int32} {x3 : Int32} (k : kd h 54 = 13) (e : Out h 54 45 x1) : SpI k_Ref_atom [.ref 54, .int x1, .int x2, .int x3] h (fun r g => g = h ∧ r = -1) := by
  refine v_Ref_atom 54 x1 x2 x3 h _ ⟨k, ?_⟩
  refine SpI.mono (no_Ref_isModel k e) ?_
  rintro r g ⟨e0, e1⟩
  subst g e1
  exact ⟨fun _ => ⟨_, rfl, rfl, rfl⟩, fun c => absurd rfl c⟩
theorem no_Ref_amplitude {h : MH} {x1 : Int32} {x2 : Int32} {x3 : Int32} {x4 : Int32} {x5 : Int32} (k : kd h 54 = 13) (e : Out h 54 45 x1) : SpL k_Ref_amplitude [.ref 54, .int x1, .int x2, .int x3, .int x4, .int x5] h (fun r g => g = h ∧ r = 0) := by
  refine v_Ref_amplitude 54 x1 x2 x3 x4 x5 h _ ⟨k, ?_⟩
  refine SpI.mono (no_Ref_isModel k e) ?_
  rintro r g ⟨e0, e1⟩
  subst g e1
  exact ⟨fun _ => ⟨_, rfl, rfl, rfl⟩, fun c => absurd rfl c⟩
theorem no_Ref_lines {h : MH} {x1 : Int32} {x2 : Int32} (k : kd h 54 = 13) (e : Out h 54 45 x1) : SpI k_Ref_lines [.ref 54, .int x1, .int x2] h (fun r g => g = h ∧ r = -1) := by
  refine v_Ref_lines 54 x1 x2 h _ ⟨k, ?_⟩
  refine SpI.mono (no_Ref_isModel k e) ?_
  rintro r g ⟨e0, e1⟩
  subst g e1
  exact ⟨fun _ => ⟨_, rfl, rfl, rfl⟩, fun c => absurd rfl c⟩
theorem no_Ref_line {h : MH} {x1 : Int32} {x2 : Int32} {x3 : Int32} {x4 : Int32} (k : kd h 54 = 13) (e : Out h 54 45 x1) : SpL k_Ref_line [.ref 54, .int x1, .int x2, .int x3, .int x4] h (fun r g => g = h ∧ r = 0) := by
  refine v_Ref_line 54 x1 x2 x3 x4 h _ ⟨k, ?_⟩
  refine SpI.mono (no_Ref_isModel k e) ?_
  rintro r g ⟨e0, e1⟩
  subst g e1
  exact ⟨fun _ => ⟨_, rfl, rfl, rfl⟩, fun c => absurd rfl c⟩
theorem no_Ref_map {h : MH} {x1 : Int32} {x2 : Int32} (k : kd h 54 = 13) (e : Out h 54 45 x1) : SpL k_Ref_map [.ref 54, .int x1, .int x2] h (fun r g => g = h ∧ r = 0) := by
  refine v_Ref_map 54 x1 x2 h _ ⟨k, ?_⟩
  refine SpI.mono (no_Ref_isModel k e) ?_
  rintro r g ⟨e0, e1⟩
  subst g e1
  exact ⟨fun _ => ⟨_, rfl, rfl, rfl⟩, fun c => absurd rfl c⟩
theorem no_Ref_placed {h : MH} {x1 : Int32} {x2 : Int32} {x3 : Int32} (k : kd h 54 = 13) (e : Out h 54 45 x1) : SpI k_Ref_placed [.ref 54, .int x1, .int x2, .int x3] h (fun r g => g = h ∧ r = -1) := by
  refine v_Ref_placed 54 x1 x2 x3 h _ ⟨k, ?_⟩
  refine SpI.mono (no_Ref_isPlaced k e) ?_
  rintro r g ⟨e0, e1⟩
  subst g e1
  exact ⟨fun _ => ⟨_, rfl, rfl, rfl⟩, fun c => absurd rfl c⟩
theorem no_Ref_distance {h : MH} {x1 : Int32} {x2 : Int32} {x3 : Int32} (k : kd h 54 = 13) (e : Out h 54 45 x1) : SpL k_Ref_distance [.ref 54, .int x1, .int x2, .int x3] h (fun r g => g = h ∧ r = 0) := by
  refine v_Ref_distance 54 x1 x2 x3 h _ ⟨k, ?_⟩
  refine SpI.mono (no_Ref_isPlaced k e) ?_
  rintro r g ⟨e0, e1⟩
  subst g e1
  exact ⟨fun _ => ⟨_, rfl, rfl, rfl⟩, fun c => absurd rfl c⟩
theorem no_Ref_near {h : MH} {x1 : Int32} {x2 : Int32} {x3 : Int64} (k : kd h 54 = 13) (e : Out h 54 45 x1) : SpI k_Ref_near [.ref 54, .int x1, .int x2, .long x3] h (fun r g => g = h ∧ r = -1) := by
  refine v_Ref_near 54 x1 x2 x3 h _ ⟨k, ?_⟩
  refine SpI.mono (no_Ref_isPlaced k e) ?_
  rintro r g ⟨e0, e1⟩
  subst g e1
  exact ⟨fun _ => ⟨_, rfl, rfl, rfl⟩, fun c => absurd rfl c⟩
theorem no_Ref_tell {h : MH} {x1 : Int32} (k : kd h 54 = 13) (e : Out h 54 1 x1) : SpI k_Ref_tell [.ref 54, .int x1] h (fun r g => g = h ∧ r = -1) := by
  refine v_Ref_tell 54 x1 h _ ⟨k, ?_⟩
  refine SpI.mono (no_Ref_isOperation k e) ?_
  rintro r g ⟨e0, e1⟩
  subst g e1
  exact ⟨fun _ => ⟨_, rfl, rfl, rfl⟩, fun c => absurd rfl c⟩
theorem no_Ref_choose {h : MH} {x1 : Int32} (k : kd h 54 = 13) (e : Out h 54 1 x1) : SpI k_Ref_choose [.ref 54, .int x1] h (fun r g => g = h ∧ r = 0) := by
  refine v_Ref_choose 54 x1 h _ ⟨k, ?_⟩
  refine SpI.mono (no_Ref_isOperation k e) ?_
  rintro r g ⟨e0, e1⟩
  subst g e1
  exact ⟨fun _ => ⟨_, rfl, rfl, rfl⟩, fun c => absurd rfl c⟩
theorem no_Ref_letter {h : MH} {x1 : Int32} (k : kd h 54 = 13) (e : Out h 54 14 x1) : SpI k_Ref_letter [.ref 54, .int x1] h (fun r g => g = h ∧ r = -1) :=
  v_Ref_letter 54 x1 h _ ⟨fun _ => ⟨_, rfl, rfl, rfl⟩, fun c => ⟨k, fun q => absurd q (e.lt c), fun _ => ⟨_, rfl, rfl, rfl⟩⟩⟩
theorem no_Ref_model {h : MH} {x1 x2 : Int32} (k : kd h 54 = 13) (e : Out h 54 17 x1) : SpI k_Ref_model [.ref 54, .int x1, .int x2] h (fun r g => g = h ∧ r = -1) := by
  refine v_Ref_model 54 x1 x2 h _ ⟨k, fun _ => ⟨_, rfl, rfl, rfl⟩, fun _ => ?_⟩
  refine SpI.mono (no_Ref_fits k e) ?_
  rintro r g ⟨e0, e1⟩
  subst g e1
  exact ⟨fun _ => ⟨_, rfl, rfl, rfl⟩, fun c => absurd rfl c⟩
theorem no_Ho_tellOf {h : MH} {x1 : Int32} {x2 : Int32} (k : kd h 5 = 12) (e : Out h 5 6 x1) : SpI k_Ho_tellOf [.ref 5, .int x1, .int x2] h (fun r g => g = h ∧ r = -1) := by
  refine v_Ho_tellOf 5 x1 x2 h _ ⟨k, ?_⟩
  refine SpR.mono (no_Ho_groupAt k e) ?_
  rintro r g ⟨e0, e1⟩
  subst g e1
  exact ⟨fun _ => ⟨_, rfl, rfl, rfl⟩, fun c => absurd rfl c⟩
theorem no_Ho_about {h : MH} {x1 : Int32} {x2 : Int32} (k : kd h 5 = 12) (e : Out h 5 6 x1) : SpI k_Ho_about [.ref 5, .int x1, .int x2] h (fun r g => g = h ∧ r = -1) := by
  refine v_Ho_about 5 x1 x2 h _ ⟨k, ?_⟩
  refine SpR.mono (no_Ho_groupAt k e) ?_
  rintro r g ⟨e0, e1⟩
  subst g e1
  exact ⟨fun _ => ⟨_, rfl, rfl, rfl⟩, fun c => absurd rfl c⟩
theorem no_Ho_half {h : MH} {x1 : Int32} {x2 : Int32} (k : kd h 5 = 12) (e : Out h 5 6 x1) : SpI k_Ho_half [.ref 5, .int x1, .int x2] h (fun r g => g = h ∧ r = -1) := by
  refine v_Ho_half 5 x1 x2 h _ ⟨k, ?_⟩
  refine SpR.mono (no_Ho_groupAt k e) ?_
  rintro r g ⟨e0, e1⟩
  subst g e1
  exact ⟨fun _ => ⟨_, rfl, rfl, rfl⟩, fun c => absurd rfl c⟩
theorem no_Ho_orbit {h : MH} {x1 : Int32} {x2 : Int32} {x3 : Int32} (k : kd h 5 = 12) (e : Out h 5 6 x1) : SpI k_Ho_orbit [.ref 5, .int x1, .int x2, .int x3] h (fun r g => g = h ∧ r = -1) := by
  refine v_Ho_orbit 5 x1 x2 x3 h _ ⟨k, ?_⟩
  refine SpR.mono (no_Ho_groupAt k e) ?_
  rintro r g ⟨e0, e1⟩
  subst g e1
  exact ⟨fun _ => ⟨_, rfl, rfl, rfl⟩, fun c => absurd rfl c⟩
theorem no_Ho_wave {h : MH} {x1 : Int32} {x2 : Int32} {x3 : Int32} {x4 : Int32} {x5 : Int32} (k : kd h 5 = 12) (e : Out h 5 6 x1) : SpI k_Ho_wave [.ref 5, .int x1, .int x2, .int x3, .int x4, .int x5] h (fun r g => g = h ∧ r = -1) := by
  refine v_Ho_wave 5 x1 x2 x3 x4 x5 h _ ⟨k, ?_⟩
  refine SpR.mono (no_Ho_groupAt k e) ?_
  rintro r g ⟨e0, e1⟩
  subst g e1
  exact ⟨fun _ => ⟨_, rfl, rfl, rfl⟩, fun c => absurd rfl c⟩
theorem no_Ho_of {h : MH} {x1 : Int32} {x2 : Int32} {x3 : Int32} (k : kd h 5 = 12) (e : Out h 5 6 x1) : SpI k_Ho_of [.ref 5, .int x1, .int x2, .int x3] h (fun r g => g = h ∧ r = -1) := by
  refine v_Ho_of 5 x1 x2 x3 h _ ⟨k, ?_⟩
  refine SpR.mono (no_Ho_groupAt k e) ?_
  rintro r g ⟨e0, e1⟩
  subst g e1
  exact ⟨fun _ => ⟨_, rfl, rfl, rfl⟩, fun c => absurd rfl c⟩
theorem no_Ho_product {h : MH} {x1 : Int32} {x2 : Int32} {x3 : Int32} (k : kd h 5 = 12) (e : Out h 5 6 x1) : SpI k_Ho_product [.ref 5, .int x1, .int x2, .int x3] h (fun r g => g = h ∧ r = -1) := by
  refine v_Ho_product 5 x1 x2 x3 h _ ⟨k, ?_⟩
  refine SpR.mono (no_Ho_groupAt k e) ?_
  rintro r g ⟨e0, e1⟩
  subst g e1
  exact ⟨fun _ => ⟨_, rfl, rfl, rfl⟩, fun c => absurd rfl c⟩
theorem no_Ho_reduced {h : MH} {x1 : Int32} {x2 : Int32} (k : kd h 5 = 12) (e : Out h 5 14 x1) : SpL k_Ho_reduced [.ref 5, .int x1, .int x2] h (fun r g => g = h ∧ r = 0) := by
  refine v_Ho_reduced 5 x1 x2 h _ ⟨k, ?_⟩
  refine SpR.mono (no_Ho_cellAt k e) ?_
  rintro r g ⟨e0, e1⟩
  subst g e1
  exact ⟨fun _ => ⟨_, rfl, rfl, rfl⟩, fun c => absurd rfl c⟩
theorem no_Ho_multiples {h : MH} {x1 : Int32} {x2 : Int32} (k : kd h 5 = 12) (e : Out h 5 14 x1) : SpI k_Ho_multiples [.ref 5, .int x1, .int x2] h (fun r g => g = h ∧ r = -1) := by
  refine v_Ho_multiples 5 x1 x2 h _ ⟨k, ?_⟩
  refine SpR.mono (no_Ho_cellAt k e) ?_
  rintro r g ⟨e0, e1⟩
  subst g e1
  exact ⟨fun _ => ⟨_, rfl, rfl, rfl⟩, fun c => absurd rfl c⟩
theorem no_Ho_multiple {h : MH} {x1 : Int32} {x2 : Int32} {x3 : Int32} {x4 : Int32} (k : kd h 5 = 12) (e : Out h 5 14 x1) : SpL k_Ho_multiple [.ref 5, .int x1, .int x2, .int x3, .int x4] h (fun r g => g = h ∧ r = 0) := by
  refine v_Ho_multiple 5 x1 x2 x3 x4 h _ ⟨k, ?_⟩
  refine SpR.mono (no_Ho_cellAt k e) ?_
  rintro r g ⟨e0, e1⟩
  subst g e1
  exact ⟨fun _ => ⟨_, rfl, rfl, rfl⟩, fun c => absurd rfl c⟩
theorem no_Ho_linesAt {h : MH} {x1 : Int32} {x2 : Int32} (k : kd h 5 = 12) (e : Out h 5 16 x1) : SpR k_Ho_linesAt [.ref 5, .int x1, .int x2] h (fun r g => g = h ∧ r = 0) := by
  refine v_Ho_linesAt 5 x1 x2 h _ ⟨k, ?_⟩
  refine SpR.mono (no_Ho_modelAt k e) ?_
  rintro r g ⟨e0, e1⟩
  subst g e1
  exact ⟨fun _ => ⟨_, rfl, rfl, rfl⟩, fun c => absurd rfl c⟩
theorem no_Ho_atom {h : MH} {x1 : Int32} {x2 : Int32} {x3 : Int32} (k : kd h 5 = 12) (e : Out h 5 16 x1) : SpI k_Ho_atom [.ref 5, .int x1, .int x2, .int x3] h (fun r g => g = h ∧ r = -1) := by
  refine v_Ho_atom 5 x1 x2 x3 h _ ⟨k, ?_⟩
  refine SpR.mono (no_Ho_modelAt k e) ?_
  rintro r g ⟨e0, e1⟩
  subst g e1
  exact ⟨fun _ => ⟨_, rfl, rfl, rfl⟩, fun c => absurd rfl c⟩
theorem no_Ho_amplitude {h : MH} {x1 : Int32} {x2 : Int32} {x3 : Int32} {x4 : Int32} {x5 : Int32} (k : kd h 5 = 12) (e : Out h 5 16 x1) : SpL k_Ho_amplitude [.ref 5, .int x1, .int x2, .int x3, .int x4, .int x5] h (fun r g => g = h ∧ r = 0) := by
  refine v_Ho_amplitude 5 x1 x2 x3 x4 x5 h _ ⟨k, ?_⟩
  refine SpR.mono (no_Ho_modelAt k e) ?_
  rintro r g ⟨e0, e1⟩
  subst g e1
  exact ⟨fun _ => ⟨_, rfl, rfl, rfl⟩, fun c => absurd rfl c⟩
theorem no_Ho_map {h : MH} {x1 : Int32} {x2 : Int32} (k : kd h 5 = 12) (e : Out h 5 16 x1) : SpL k_Ho_map [.ref 5, .int x1, .int x2] h (fun r g => g = h ∧ r = 0) := by
  refine v_Ho_map 5 x1 x2 h _ ⟨k, ?_⟩
  refine SpR.mono (no_Ho_modelAt k e) ?_
  rintro r g ⟨e0, e1⟩
  subst g e1
  exact ⟨fun _ => ⟨_, rfl, rfl, rfl⟩, fun c => absurd rfl c⟩
theorem no_Ho_placed {h : MH} {x1 : Int32} {x2 : Int32} {x3 : Int32} (k : kd h 5 = 12) (e : Out h 5 16 x1) : SpI k_Ho_placed [.ref 5, .int x1, .int x2, .int x3] h (fun r g => g = h ∧ r = -1) := by
  refine v_Ho_placed 5 x1 x2 x3 h _ ⟨k, ?_⟩
  refine SpR.mono (no_Ho_modelAt k e) ?_
  rintro r g ⟨e0, e1⟩
  subst g e1
  exact ⟨fun _ => ⟨_, rfl, rfl, rfl⟩, fun c => absurd rfl c⟩
theorem no_Ho_distance {h : MH} {x1 : Int32} {x2 : Int32} {x3 : Int32} (k : kd h 5 = 12) (e : Out h 5 16 x1) : SpL k_Ho_distance [.ref 5, .int x1, .int x2, .int x3] h (fun r g => g = h ∧ r = 0) := by
  refine v_Ho_distance 5 x1 x2 x3 h _ ⟨k, ?_⟩
  refine SpR.mono (no_Ho_modelAt k e) ?_
  rintro r g ⟨e0, e1⟩
  subst g e1
  exact ⟨fun _ => ⟨_, rfl, rfl, rfl⟩, fun c => absurd rfl c⟩
theorem no_Ho_near {h : MH} {x1 : Int32} {x2 : Int32} {x3 : Int64} (k : kd h 5 = 12) (e : Out h 5 16 x1) : SpI k_Ho_near [.ref 5, .int x1, .int x2, .long x3] h (fun r g => g = h ∧ r = -1) := by
  refine v_Ho_near 5 x1 x2 x3 h _ ⟨k, ?_⟩
  refine SpR.mono (no_Ho_modelAt k e) ?_
  rintro r g ⟨e0, e1⟩
  subst g e1
  exact ⟨fun _ => ⟨_, rfl, rfl, rfl⟩, fun c => absurd rfl c⟩
theorem no_Ho_lines {h : MH} {x1 : Int32} {x2 : Int32} (k : kd h 5 = 12) (e : Out h 5 16 x1) : SpI k_Ho_lines [.ref 5, .int x1, .int x2] h (fun r g => g = h ∧ r = -1) := by
  refine v_Ho_lines 5 x1 x2 h _ ⟨k, ?_⟩
  refine SpR.mono (no_Ho_linesAt k e) ?_
  rintro r g ⟨e0, e1⟩
  subst g e1
  exact ⟨fun _ => ⟨_, rfl, rfl, rfl⟩, fun c => absurd rfl c⟩
theorem no_Ho_line {h : MH} {x1 : Int32} {x2 : Int32} {x3 : Int32} {x4 : Int32} (k : kd h 5 = 12) (e : Out h 5 16 x1) : SpL k_Ho_line [.ref 5, .int x1, .int x2, .int x3, .int x4] h (fun r g => g = h ∧ r = 0) := by
  refine v_Ho_line 5 x1 x2 x3 x4 h _ ⟨k, ?_⟩
  refine SpR.mono (no_Ho_linesAt k e) ?_
  rintro r g ⟨e0, e1⟩
  subst g e1
  exact ⟨fun _ => ⟨_, rfl, rfl, rfl⟩, fun c => absurd rfl c⟩
theorem no_Ho_within {h : MH} {x1 x2 : Int32} (k : kd h 5 = 12) (e : Out h 5 6 x1) (e2 : Out h 5 6 x2) : SpI k_Ho_within [.ref 5, .int x1, .int x2] h (fun r g => g = h ∧ r = 0) := by
  refine v_Ho_within 5 x1 x2 h _ ⟨k, ?_⟩
  refine SpR.mono (no_Ho_groupAt k e) ?_
  rintro r g ⟨e0, e1⟩
  subst g e1
  refine ⟨k, ?_⟩
  refine SpR.mono (no_Ho_groupAt k e2) ?_
  rintro r g ⟨e0, e1⟩
  subst g e1
  exact ⟨fun _ => ⟨_, rfl, rfl, rfl⟩, fun c => absurd rfl c⟩
theorem no_Ho_fits {h : MH} {x1 x2 : Int32} (k : kd h 5 = 12) (e : Out h 5 6 x1) (e2 : Out h 5 14 x2) : SpI k_Ho_fits [.ref 5, .int x1, .int x2] h (fun r g => g = h ∧ r = 0) := by
  refine v_Ho_fits 5 x1 x2 h _ ⟨k, ?_⟩
  refine SpR.mono (no_Ho_groupAt k e) ?_
  rintro r g ⟨e0, e1⟩
  subst g e1
  refine ⟨k, ?_⟩
  refine SpR.mono (no_Ho_cellAt k e2) ?_
  rintro r g ⟨e0, e1⟩
  subst g e1
  exact ⟨fun _ => ⟨_, rfl, rfl, rfl⟩, fun c => absurd rfl c⟩
theorem no_Ho_model {h : MH} {x1 x2 : Int32} (k : kd h 5 = 12) (e : Out h 5 6 x1) (e2 : Out h 5 14 x2) : SpI k_Ho_model [.ref 5, .int x1, .int x2] h (fun r g => g = h ∧ r = -1) := by
  refine v_Ho_model 5 x1 x2 h _ ⟨k, ?_⟩
  refine SpR.mono (no_Ho_groupAt k e) ?_
  rintro r g ⟨e0, e1⟩
  subst g e1
  refine ⟨k, ?_⟩
  refine SpR.mono (no_Ho_cellAt k e2) ?_
  rintro r g ⟨e0, e1⟩
  subst g e1
  exact ⟨k, fun _ => ⟨fun _ => ⟨_, rfl, rfl, rfl⟩, fun c => absurd rfl c⟩, fun _ => ⟨_, rfl, rfl, rfl⟩⟩
theorem no_Ho_tell {h : MH} {x1 : Int32} (k : kd h 5 = 12) (e : Out h 5 3 x1) : SpI k_Ho_tell [.ref 5, .int x1] h (fun r g => g = h ∧ r = -1) :=
  v_Ho_tell 5 x1 h _ ⟨fun _ => ⟨_, rfl, rfl, rfl⟩, fun c => ⟨k, fun q => absurd q (e.lt c), fun _ => ⟨_, rfl, rfl, rfl⟩⟩⟩
theorem no_Ho_choose {h : MH} {x1 : Int32} (k : kd h 5 = 12) (e : Out h 5 3 x1) : SpI k_Ho_choose [.ref 5, .int x1] h (fun r g => g = h ∧ r = 0) :=
  v_Ho_choose 5 x1 h _ ⟨fun _ => ⟨_, rfl, rfl, rfl⟩, fun c => ⟨k, fun q => absurd q (e.lt c), fun _ => ⟨_, rfl, rfl, rfl⟩⟩⟩
theorem no_Ho_letter {h : MH} {x1 : Int32} (k : kd h 5 = 12) (r : mr h 5 0 = 6) (k6 : kd h 6 = 10) (e : Out h 6 8 x1) : SpI k_Ho_letter [.ref 5, .int x1] h (fun r g => g = h ∧ r = -1) := by
  refine v_Ho_letter 5 x1 h _ ?_
  rw [r]
  exact ⟨fun _ => ⟨_, rfl, rfl, rfl⟩, fun c => ⟨k, k6, fun q => absurd q (e.lt c), fun _ => ⟨_, rfl, rfl, rfl⟩⟩⟩
theorem pairI {kH kR : Nat} {as : List Value} {h : MH} {J : MH → Prop} {v : Int32} (hS : SS h) (hJ : J h) (a : SpI kH (.ref 5 :: as) h (fun r g => g = h ∧ r = v)) (b : SpI kR (.ref 54 :: as) h (fun r g => g = h ∧ r = v)) : PaI kH kR as h J := by
  refine SpI.mono a ?_
  rintro r g ⟨e0, e1⟩
  subst g e1
  refine ⟨⟨hS, rfl, rfl⟩, SpI.mono b ?_⟩
  rintro r g ⟨e0, e1⟩
  subst g e1
  exact ⟨rfl, ⟨hS, rfl, rfl⟩, hJ⟩
theorem pairL {kH kR : Nat} {as : List Value} {h : MH} {J : MH → Prop} {v : Int64} (hS : SS h) (hJ : J h) (a : SpL kH (.ref 5 :: as) h (fun r g => g = h ∧ r = v)) (b : SpL kR (.ref 54 :: as) h (fun r g => g = h ∧ r = v)) : PaL kH kR as h J := by
  refine SpL.mono a ?_
  rintro r g ⟨e0, e1⟩
  subst g e1
  refine ⟨⟨hS, rfl, rfl⟩, SpL.mono b ?_⟩
  rintro r g ⟨e0, e1⟩
  subst g e1
  exact ⟨rfl, ⟨hS, rfl, rfl⟩, hJ⟩
