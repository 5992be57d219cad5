/-! the six numbers of a cell in the class: whatever they are, only they change -/
def sl (h : MH) (l : (Nat → Nat → Int64)) : MH := (hn h, kd h, ln h, mi h, l, mr h)
theorem sl_self {h : MH} : sl h (ml h) = h := rfl
theorem sl_wl {h : MH} {l : (Nat → Nat → Int64)} {a i : Nat} {x : Int64} : wl (sl h l) a i x = sl h (up2 l a i x) := rfl
theorem sl_kd {h : MH} {l : (Nat → Nat → Int64)} : kd (sl h l) = kd h := rfl
theorem sl_mr {h : MH} {l : (Nat → Nat → Int64)} : mr (sl h l) = mr h := rfl
theorem sl_mi {h : MH} {l : (Nat → Nat → Int64)} : mi (sl h l) = mi h := rfl
theorem sl_ml {h : MH} {l : (Nat → Nat → Int64)} : ml (sl h l) = l := rfl
def Any (a : Nat) (h : MH) (l : (Nat → Nat → Int64)) (g : MH) : Prop := ∃ l', g = sl h l' ∧ Fr [a] l l'
theorem Any.refl {a : Nat} {h : MH} {l : (Nat → Nat → Int64)} : Any a h l (sl h l) := ⟨l, rfl, Fr.refl⟩
theorem Fr.tr {α : Type} {A : List Nat} {f g k : Nat → Nat → α} (h1 : Fr A f g) (h2 : Fr A g k) : Fr A f k := h1.trans h2
theorem Any.tr {a : Nat} {h : MH} {l l' : (Nat → Nat → Int64)} {g : MH} (h1 : Fr [a] l l') (h2 : Any a h l' g) : Any a h l g := by
  obtain ⟨k, e, q⟩ := h2
  exact ⟨k, e, h1.trans q⟩
theorem absL_any {h : MH} (x : Int64) : SpL k_Math_absJJ [.long x] h (fun _ g => g = h) := v_Math_absJJ x h _ ⟨fun _ => ⟨_, rfl, rfl⟩, fun _ => ⟨_, rfl, rfl⟩⟩
theorem any_set {h : MH} {a : Nat} (hk : kd h a = 3) {l : (Nat → Nat → Int64)} (x1 x2 x3 x4 x5 x6 : Int64) : SpV k_Form_set [.ref a, .long x1, .long x2, .long x3, .long x4, .long x5, .long x6] (sl h l) (fun g => g = sl h (up2 (up2 (up2 (up2 (up2 (up2 l a 0 x1) a 1 x2) a 2 x3) a 3 x4) a 4 x5) a 5 x6)) := by
  refine v_Form_set _ _ _ _ _ _ _ _ _ ⟨hk, ?_⟩
  rintro _ rfl
  rintro _ rfl
  rintro _ rfl
  rintro _ rfl
  refine v_Form_set_1 _ _ _ _ _ ⟨hk, ?_⟩
  rintro _ rfl
  rintro _ rfl
  rfl
theorem any_setA {h : MH} {a : Nat} (hk : kd h a = 3) {l : (Nat → Nat → Int64)} (x1 x2 x3 x4 x5 x6 : Int64) : SpV k_Form_set [.ref a, .long x1, .long x2, .long x3, .long x4, .long x5, .long x6] (sl h l) (fun g => Any a h l g) := by
  refine SpV.mono (any_set hk x1 x2 x3 x4 x5 x6) ?_
  rintro _ rfl
  have m : a ∈ [a] := List.mem_cons_self
  exact ⟨_, rfl, (((((Fr.refl.up m).up m).up m).up m).up m).up m⟩
theorem any_swapFirst {h : MH} {a : Nat} (hk : kd h a = 3) {l : (Nat → Nat → Int64)} : SpV k_Form_swapFirst [.ref a] (sl h l) (fun g => Any a h l g) := by
  have one : WM k_Form_swapFirst p_Form_swapFirst_1 [.ref a] [] (sl h l) 0 0 (fun _ g => Any a h l g) := v_Form_swapFirst_1 _ _ _ ⟨hk, any_setA hk _ _ _ _ _ _⟩
  refine v_Form_swapFirst _ _ _ ⟨hk, fun _ => one, fun _ => ⟨fun _ => SpL.mono (absL_any _) ?_, fun _ => Any.refl⟩⟩
  rintro _ _ rfl
  refine ⟨hk, SpL.mono (absL_any _) ?_⟩
  rintro _ _ rfl
  exact ⟨fun _ => one, fun _ => Any.refl⟩
theorem any_swapLast {h : MH} {a : Nat} (hk : kd h a = 3) {l : (Nat → Nat → Int64)} : SpI k_Form_swapLast [.ref a] (sl h l) (fun _ g => Any a h l g) := by
  have one : WM k_Form_swapLast p_Form_swapLast_1 [.ref a] [] (sl h l) 0 0 (fun v g => ∃ x, v = .int x ∧ Any a h l g) := v_Form_swapLast_1 _ _ _ ⟨hk, SpV.mono (any_setA hk _ _ _ _ _ _) (fun g q => ⟨_, rfl, q⟩)⟩
  refine v_Form_swapLast _ _ _ ⟨hk, fun _ => one, fun _ => ⟨fun _ => SpL.mono (absL_any _) ?_, fun _ => ⟨_, rfl, Any.refl⟩⟩⟩
  rintro _ _ rfl
  refine ⟨hk, SpL.mono (absL_any _) ?_⟩
  rintro _ _ rfl
  exact ⟨fun _ => one, fun _ => ⟨_, rfl, Any.refl⟩⟩
theorem any_alignSigns {h : MH} {a : Nat} (hk : kd h a = 3) {l : (Nat → Nat → Int64)} : SpV k_Form_alignSigns [.ref a] (sl h l) (fun g => Any a h l g) := by
  have m : a ∈ [a] := List.mem_cons_self
  have three : ∀ s : Int64, WM k_Form_alignSigns p_Form_alignSigns_3 [.ref a, Jv, Jv, Jv] [.long s] (sl h l) 0 0 (fun _ g => Any a h l g) := fun s => by
    refine v_Form_alignSigns_3 _ _ _ _ ⟨hk, SpL.mono (absL_any _) ?_⟩
    rintro _ _ rfl
    refine ⟨hk, ?_⟩
    rintro _ rfl
    refine SpL.mono (absL_any _) ?_
    rintro _ _ rfl
    refine ⟨hk, ?_⟩
    rintro _ rfl
    refine SpL.mono (absL_any _) ?_
    rintro _ _ rfl
    refine ⟨hk, ?_⟩
    rintro _ rfl
    exact ⟨_, rfl, ((Fr.refl.up m).up m).up m⟩
  have two : ∀ s0 s1 : Int32, WM k_Form_alignSigns p_Form_alignSigns_2 [.ref a, Jv, Jv, Jv] [.int s1, .int s0] (sl h l) 0 0 (fun _ g => Any a h l g) := fun s0 s1 =>
    v_Form_alignSigns_2 _ _ _ _ _ ⟨hk, fun _ => three _, fun _ => ⟨fun _ => three _, fun _ => ⟨fun _ => three _, fun _ => ⟨fun _ => three _, fun _ => three _⟩⟩⟩⟩
  have one : ∀ s0 s1 : Int32, WM k_Form_alignSigns p_Form_alignSigns_1 [.ref a, Jv, Jv, Jv] [.int s1, .int s0] (sl h l) 0 0 (fun _ g => Any a h l g) := fun s0 s1 =>
    v_Form_alignSigns_1 _ _ _ _ _ ⟨hk, fun _ => two _ _, fun _ => two _ _⟩
  exact v_Form_alignSigns _ _ _ ⟨hk, fun _ => ⟨fun _ => one _ _, fun _ => one _ _⟩, fun _ => ⟨fun _ => one _ _, fun _ => one _ _⟩⟩
theorem any_lessenX {h : MH} {a : Nat} (hk : kd h a = 3) {l : (Nat → Nat → Int64)} : SpI k_Form_lessenX [.ref a] (sl h l) (fun _ g => Any a h l g) := by
  have two : ∀ s : Int64, WM k_Form_lessenX p_Form_lessenX_2 [.ref a, Jv, Jv] [.long s] (sl h l) 0 0 (fun v g => ∃ x, v = .int x ∧ Any a h l g) := fun s => v_Form_lessenX_2 _ _ _ _ ⟨hk, SpV.mono (any_setA hk _ _ _ _ _ _) (fun g q => ⟨_, rfl, q⟩)⟩
  have one : WM k_Form_lessenX p_Form_lessenX_1 [.ref a, Jv, Jv] [] (sl h l) 0 0 (fun v g => ∃ x, v = .int x ∧ Any a h l g) :=
    v_Form_lessenX_1 _ _ _ ⟨hk, fun _ => ⟨fun _ => ⟨fun _ => two _, fun _ => two _⟩, fun _ => ⟨_, rfl, Any.refl⟩⟩, fun _ => ⟨_, rfl, Any.refl⟩⟩
  refine v_Form_lessenX _ _ _ ⟨hk, SpL.mono (absL_any _) ?_⟩
  rintro _ _ rfl
  exact ⟨hk, fun _ => ⟨fun _ => two _, fun _ => two _⟩, fun _ => ⟨fun _ => ⟨fun _ => ⟨fun _ => two _, fun _ => two _⟩, fun _ => one⟩, fun _ => one⟩⟩
theorem any_lessenY {h : MH} {a : Nat} (hk : kd h a = 3) {l : (Nat → Nat → Int64)} : SpI k_Form_lessenY [.ref a] (sl h l) (fun _ g => Any a h l g) := by
  have two : ∀ s : Int64, WM k_Form_lessenY p_Form_lessenY_2 [.ref a, Jv, Jv] [.long s] (sl h l) 0 0 (fun v g => ∃ x, v = .int x ∧ Any a h l g) := fun s => v_Form_lessenY_2 _ _ _ _ ⟨hk, SpV.mono (any_setA hk _ _ _ _ _ _) (fun g q => ⟨_, rfl, q⟩)⟩
  have one : WM k_Form_lessenY p_Form_lessenY_1 [.ref a, Jv, Jv] [] (sl h l) 0 0 (fun v g => ∃ x, v = .int x ∧ Any a h l g) :=
    v_Form_lessenY_1 _ _ _ ⟨hk, fun _ => ⟨fun _ => ⟨fun _ => two _, fun _ => two _⟩, fun _ => ⟨_, rfl, Any.refl⟩⟩, fun _ => ⟨_, rfl, Any.refl⟩⟩
  refine v_Form_lessenY _ _ _ ⟨hk, SpL.mono (absL_any _) ?_⟩
  rintro _ _ rfl
  exact ⟨hk, fun _ => ⟨fun _ => two _, fun _ => two _⟩, fun _ => ⟨fun _ => ⟨fun _ => ⟨fun _ => two _, fun _ => two _⟩, fun _ => one⟩, fun _ => one⟩⟩
theorem any_lessenZ {h : MH} {a : Nat} (hk : kd h a = 3) {l : (Nat → Nat → Int64)} : SpI k_Form_lessenZ [.ref a] (sl h l) (fun _ g => Any a h l g) := by
  have two : ∀ s : Int64, WM k_Form_lessenZ p_Form_lessenZ_2 [.ref a, Jv, Jv] [.long s] (sl h l) 0 0 (fun v g => ∃ x, v = .int x ∧ Any a h l g) := fun s => v_Form_lessenZ_2 _ _ _ _ ⟨hk, SpV.mono (any_setA hk _ _ _ _ _ _) (fun g q => ⟨_, rfl, q⟩)⟩
  have one : WM k_Form_lessenZ p_Form_lessenZ_1 [.ref a, Jv, Jv] [] (sl h l) 0 0 (fun v g => ∃ x, v = .int x ∧ Any a h l g) :=
    v_Form_lessenZ_1 _ _ _ ⟨hk, fun _ => ⟨fun _ => ⟨fun _ => two _, fun _ => two _⟩, fun _ => ⟨_, rfl, Any.refl⟩⟩, fun _ => ⟨_, rfl, Any.refl⟩⟩
  refine v_Form_lessenZ _ _ _ ⟨hk, SpL.mono (absL_any _) ?_⟩
  rintro _ _ rfl
  exact ⟨hk, fun _ => ⟨fun _ => two _, fun _ => two _⟩, fun _ => ⟨fun _ => ⟨fun _ => ⟨fun _ => two _, fun _ => two _⟩, fun _ => one⟩, fun _ => one⟩⟩
theorem any_lessenSum {h : MH} {a : Nat} (hk : kd h a = 3) {l : (Nat → Nat → Int64)} : SpI k_Form_lessenSum [.ref a] (sl h l) (fun _ g => Any a h l g) := by
  have one : ∀ s : Int64, WM k_Form_lessenSum p_Form_lessenSum_1 [.ref a, .long s, Jv] [] (sl h l) 0 0 (fun v g => ∃ x, v = .int x ∧ Any a h l g) := fun s => v_Form_lessenSum_1 _ _ _ _ ⟨hk, SpV.mono (any_setA hk _ _ _ _ _ _) (fun g q => ⟨_, rfl, q⟩)⟩
  exact v_Form_lessenSum _ _ _ ⟨hk, fun _ => one _, fun _ => ⟨fun _ => ⟨fun _ => one _, fun _ => ⟨_, rfl, Any.refl⟩⟩, fun _ => ⟨_, rfl, Any.refl⟩⟩⟩
theorem any_reduce {h : MH} {a : Nat} (hk : kd h a = 3) {l : (Nat → Nat → Int64)} : SpV k_Form_reduce [.ref a] (sl h l) (fun g => Any a h l g) := by
  refine v_Form_reduce _ _ _ ?_
  refine up_ind 1000000 (fun _ (l1 : (Nat → Nat → Int64)) => Fr [a] l l1) (fun i l1 => WM k_Form_reduce p_Form_reduce_1 [.ref a, .int (nI i)] [] (sl h l1) 0 0 _) ?_ ?_ 0 l (Nat.zero_le _) Fr.refl
  · intro i l1 hi i1 ih
    have nx : ∀ (l2 : (Nat → Nat → Int64)), Fr [a] l l2 → WM k_Form_reduce p_Form_reduce_1 [.ref a, .int (nI i + 1)] [] (sl h l2) 0 0 (fun _ g => Any a h l g) := fun l2 q => by
      rw [nI_1]; exact ih l2 q
    refine v_Form_reduce_1 _ _ _ _ ⟨fun _ => ⟨hk, SpV.mono (any_swapFirst hk) ?_⟩, fun _ => ⟨l1, rfl, i1⟩⟩
    rintro _ ⟨l2, rfl, q2⟩
    refine ⟨hk, SpI.mono (any_swapLast hk) ?_⟩
    rintro r _ ⟨l3, rfl, q3⟩
    have f3 := (i1.trans q2).trans q3
    refine ⟨fun _ => ⟨hk, SpV.mono (any_alignSigns hk) ?_⟩, fun _ => nx _ f3⟩
    rintro _ ⟨l4, rfl, q4⟩
    refine ⟨hk, SpI.mono (any_lessenX hk) ?_⟩
    rintro r _ ⟨l5, rfl, q5⟩
    have f5 := (f3.trans q4).trans q5
    refine ⟨fun _ => ⟨hk, SpI.mono (any_lessenY hk) ?_⟩, fun _ => nx _ f5⟩
    rintro r _ ⟨l6, rfl, q6⟩
    have f6 := f5.trans q6
    refine ⟨fun _ => ⟨hk, SpI.mono (any_lessenZ hk) ?_⟩, fun _ => nx _ f6⟩
    rintro r _ ⟨l7, rfl, q7⟩
    have f7 := f6.trans q7
    refine ⟨fun _ => ⟨hk, SpI.mono (any_lessenSum hk) ?_⟩, fun _ => nx _ f7⟩
    rintro r _ ⟨l8, rfl, q8⟩
    exact ⟨fun _ => ⟨l8, rfl, f7.trans q8⟩, fun _ => nx _ (f7.trans q8)⟩
  · intro l1 i1
    refine v_Form_reduce_1 _ _ _ _ ⟨fun c => absurd c ?_, fun _ => ⟨l1, rfl, i1⟩⟩
    rw [nI_toI (by decide)]
    decide
theorem sp_Form_init {h : MH} {a : Nat} (h0 : a ≠ 0) (hk : kd h a = 3) : SpV k_Form_init [.ref a] h (fun g => ∃ l', g = sl h l') := by
  refine v_Form_init _ _ _ ⟨h0, hk, ?_⟩
  rintro _ rfl
  refine v_Form_init_1 _ _ _ ⟨hk, ?_⟩
  rintro _ rfl
  rintro _ rfl
  refine v_Form_init_2 _ _ _ ⟨hk, ?_⟩
  rintro _ rfl
  rintro _ rfl
  refine v_Form_init_3 _ _ _ ⟨hk, ?_⟩
  rintro _ rfl
  exact ⟨_, rfl⟩
