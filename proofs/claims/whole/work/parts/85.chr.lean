/-! the halves of a group: its characters, in their order -/
theorem tb_lt : ∀ (i x y : Nat), x.testBit i = false → y.testBit i = true → (∀ j, i < j → x.testBit j = y.testBit j) → x < y
  | 0, x, y, h1, h2, h3 => by
    rw [Nat.testBit_zero] at h1 h2
    have a := of_decide_eq_false h1
    have b := of_decide_eq_true h2
    have e : x / 2 = y / 2 := Nat.eq_of_testBit_eq (fun j => by
      rw [← Nat.testBit_add_one, ← Nat.testBit_add_one]; exact h3 (j + 1) (by omega))
    omega
  | i + 1, x, y, h1, h2, h3 => by
    rw [Nat.testBit_add_one] at h1 h2
    have := tb_lt i (x / 2) (y / 2) h1 h2 (fun j hj => by
      rw [← Nat.testBit_add_one, ← Nat.testBit_add_one]; exact h3 (j + 1) (by omega))
    omega
theorem tb_hi : ∀ (t x y : Nat), x < 2 ^ t → y < 2 ^ t → x < y → ∃ k, k < t ∧ x.testBit k = false ∧ y.testBit k = true ∧ ∀ j, k < j → x.testBit j = y.testBit j
  | 0, x, y, h1, h2, h3 => by rw [Nat.pow_zero] at h1 h2; omega
  | t + 1, x, y, h1, h2, h3 => by
    rw [Nat.pow_succ] at h1 h2
    by_cases e : x / 2 = y / 2
    · refine ⟨0, by omega, ?_, ?_, fun j hj => ?_⟩
      · rw [Nat.testBit_zero]; exact decide_eq_false (by omega)
      · rw [Nat.testBit_zero]; exact decide_eq_true (by omega)
      · obtain ⟨j, rfl⟩ : ∃ i, j = i + 1 := ⟨j - 1, by omega⟩
        rw [Nat.testBit_add_one, Nat.testBit_add_one, e]
    · obtain ⟨k, a, b, c, d⟩ := tb_hi t (x / 2) (y / 2) (by omega) (by omega) (by omega)
      refine ⟨k + 1, by omega, by rw [Nat.testBit_add_one]; exact b, by rw [Nat.testBit_add_one]; exact c, fun j hj => ?_⟩
      obtain ⟨j, rfl⟩ : ∃ i, j = i + 1 := ⟨j - 1, by omega⟩
      rw [Nat.testBit_add_one, Nat.testBit_add_one]
      exact d j (by omega)
def par (x : Nat) : Bool := x.testBit 0 ^^ (x.testBit 1 ^^ (x.testBit 2 ^^ (x.testBit 3 ^^ (x.testBit 4 ^^ (x.testBit 5 ^^ x.testBit 6)))))
theorem par_xor (x y : Nat) : par (x ^^^ y) = (par x ^^ par y) := by
  unfold par
  simp only [Nat.testBit_xor]
  generalize x.testBit 0 = a0; generalize x.testBit 1 = a1; generalize x.testBit 2 = a2; generalize x.testBit 3 = a3; generalize x.testBit 4 = a4; generalize x.testBit 5 = a5; generalize x.testBit 6 = a6
  generalize y.testBit 0 = b0; generalize y.testBit 1 = b1; generalize y.testBit 2 = b2; generalize y.testBit 3 = b3; generalize y.testBit 4 = b4; generalize y.testBit 5 = b5; generalize y.testBit 6 = b6
  simp only [Bool.xor_assoc, Bool.xor_left_comm, Bool.xor_comm]
theorem par_and (x y L : Nat) : par ((x ^^^ y) &&& L) = (par (x &&& L) ^^ par (y &&& L)) := by rw [Nat.and_xor_distrib_right, par_xor]
theorem par_zero (L : Nat) : par (0 &&& L) = false := by rw [Nat.zero_and]; rfl
theorem par_pow {k L : Nat} (hk : k < 7) : par (2 ^ k &&& L) = L.testBit k := by
  unfold par
  simp only [Nat.testBit_and, Nat.testBit_two_pow]
  have : k = 0 ∨ k = 1 ∨ k = 2 ∨ k = 3 ∨ k = 4 ∨ k = 5 ∨ k = 6 := by omega
  rcases this with rfl | rfl | rfl | rfl | rfl | rfl | rfl <;> simp
def HomI (S : List Nat) (m : Nat → Bool) : Prop := ∀ i j k, i < S.length → j < S.length → k < S.length → Pr (S.getD i 0) (S.getD j 0) (S.getD k 0) → m k = (m i ^^ m j)
def Chr (S : List Nat) (m : Nat → Bool) : Prop := (∀ i, S.length ≤ i → m i = false) ∧ HomI S m ∧ ∃ i, i < S.length ∧ m i = true
def Ahd (n : Nat) (m m' : Nat → Bool) : Prop := ∃ i, i < n ∧ m i = false ∧ m' i = true ∧ ∀ j, j < i → m j = m' j
def HvL (S : List Nat) (L : List (Nat → Bool)) : Prop := L.Pairwise (Ahd S.length) ∧ ∀ m, m ∈ L ↔ Chr S m
theorem Ahd.as {n : Nat} {a b : Nat → Bool} (h : Ahd n a b) (h' : Ahd n b a) : False := by
  obtain ⟨i, _, h1, h2, h3⟩ := h
  obtain ⟨j, _, k1, k2, k3⟩ := h'
  rcases Nat.lt_trichotomy i j with q | q | q
  · have := k3 i q; rw [h1, h2] at this; exact absurd this (by decide)
  · subst q; rw [h1] at k2; exact absurd k2 (by decide)
  · have := h3 j q; rw [k1, k2] at this; exact absurd this (by decide)
theorem srtG {α : Type} {R : α → α → Prop} (as : ∀ a b, R a b → R b a → False) : ∀ {S S' : List α}, S.Pairwise R → S'.Pairwise R → (∀ x, x ∈ S ↔ x ∈ S') → S = S'
  | [], [], _, _, _ => rfl
  | [], b :: S', _, _, h => absurd ((h b).mpr List.mem_cons_self) List.not_mem_nil
  | a :: S, [], _, _, h => absurd ((h a).mp List.mem_cons_self) List.not_mem_nil
  | a :: S, b :: S', h1, h2, h => by
    have p1 := List.pairwise_cons.mp h1
    have p2 := List.pairwise_cons.mp h2
    have e : a = b := by
      rcases List.mem_cons.mp ((h a).mp List.mem_cons_self) with q | q
      · exact q
      · rcases List.mem_cons.mp ((h b).mpr List.mem_cons_self) with q' | q'
        · exact q'.symm
        · exact (as a b (p1.1 b q') (p2.1 a q)).elim
    subst e
    have : S = S' := srtG as p1.2 p2.2 (fun x => ⟨fun hx => by
      rcases List.mem_cons.mp ((h x).mp (List.mem_cons_of_mem _ hx)) with q | q
      · subst q; exact (as x x (p1.1 x hx) (p1.1 x hx)).elim
      · exact q, fun hx => by
      rcases List.mem_cons.mp ((h x).mpr (List.mem_cons_of_mem _ hx)) with q | q
      · subst q; exact (as x x (p2.1 x hx) (p2.1 x hx)).elim
      · exact q⟩)
    rw [this]
theorem HvL.fn {S : List Nat} {L L' : List (Nat → Bool)} (h : HvL S L) (h' : HvL S L') : L = L' := srtG (fun _ _ => Ahd.as) h.1 h'.1 (fun x => (h.2 x).trans (h'.2 x).symm)
theorem HomI.id {S : List Nat} {m : Nat → Bool} (hm : HomI S m) {e : Nat} (he : e < S.length) (ee : S.getD e 0 = idc) : m e = false := by
  have := hm e e e he he he (by rw [ee]; exact Pr.id_l id_ok)
  revert this; cases m e <;> decide
def SqG (S : List Nat) (g : Nat) : Prop := ∃ x ∈ S, Pr x x g
theorem sq_mem {S : List Nat} (ok : GOk S) : ∀ y, reach (SqG S) y → y ∈ S := by
  refine reach_ind _ ok.2.2.2.1 ?_
  rintro x g y _ hx ⟨z, hz, pz⟩ p
  obtain ⟨g', hg, pg⟩ := ok.2.2.2.2 z hz z hz
  rw [pg.fn pz] at hg
  obtain ⟨y', hy, py⟩ := ok.2.2.2.2 x hx g hg
  rw [py.fn p] at hy
  exact hy
theorem HomI.sq {S : List Nat} (ok : GOk S) {m : Nat → Bool} (hm : HomI S m) : ∀ y, reach (SqG S) y → ∀ i, i < S.length → S.getD i 0 = y → m i = false := by
  refine reach_ind _ ?_ ?_
  · intro i hi e; exact hm.id hi e
  · rintro x g y rx ih ⟨z, hz, pz⟩ p i hi e
    obtain ⟨a, ha, ea⟩ := mem_getD (sq_mem ok x rx)
    obtain ⟨b, hb, eb⟩ := mem_getD hz
    have gS : g ∈ S := by
      obtain ⟨g', hg, pg⟩ := ok.2.2.2.2 z hz z hz
      rw [pg.fn pz] at hg; exact hg
    obtain ⟨c, hc, ec⟩ := mem_getD gS
    have m1 := hm b b c hb hb hc (by rw [eb, ec]; exact pz)
    have m2 := hm a c i ha hc hi (by rw [ea, ec, e]; exact p)
    rw [m2, ih a ha ea, m1]
    cases m b <;> rfl
/-- the character of a set of bits -/
def mL (S : List Nat) (s : Nat → Nat) (L : Nat) (i : Nat) : Bool := if i < S.length then par (s i &&& L) else false
theorem mL_lt {S : List Nat} {s : Nat → Nat} {L i : Nat} (h : i < S.length) : mL S s L i = par (s i &&& L) := if_pos h
theorem sd_b7 {b : Nat} (h : 2 ^ b ≤ 192) : b ≤ 7 := by
  rcases Nat.lt_or_ge 7 b with q | q
  · have p := Nat.pow_le_pow_right (show 0 < 2 by decide) (show 8 ≤ b from q)
    omega
  · exact q
theorem bits_of (b : Nat) (F : Nat → Bool) : ∃ L, L < 2 ^ b ∧ ∀ k, k < b → L.testBit k = F k := by
  induction b with
  | zero => exact ⟨0, by decide, fun k hk => absurd hk (Nat.not_lt_zero k)⟩
  | succ b ih =>
    obtain ⟨L, h1, h2⟩ := ih
    have p : 2 ^ (b + 1) = 2 ^ b * 2 := Nat.pow_succ ..
    by_cases e : F b = true
    · refine ⟨L ^^^ 2 ^ b, Nat.xor_lt_two_pow (by omega) (by omega), fun k hk => ?_⟩
      rw [Nat.testBit_xor, Nat.testBit_two_pow]
      by_cases q : k = b
      · subst q; rw [Nat.testBit_lt_two_pow h1, e, decide_eq_true rfl]; rfl
      · rw [decide_eq_false (fun w => q w.symm), h2 k (by omega), Bool.xor_false]
    · refine ⟨L, by omega, fun k hk => ?_⟩
      by_cases q : k = b
      · subst q; rw [Nat.testBit_lt_two_pow h1]; exact (Bool.not_eq_true _ ▸ e).symm
      · exact h2 k (by omega)
theorem SidesOK.hom {S : List Nat} {b : Nat} {s : Nat → Nat} (h : SidesOK S b s) (L : Nat) : HomI S (mL S s L) := fun i j k hi hj hk p => by
  rw [mL_lt hi, mL_lt hj, mL_lt hk, h.2.2.1 i j k hi hj hk p, par_and]
theorem SidesOK.hv {S : List Nat} (ok : GOk S) {b : Nat} {s : Nat → Nat} (h : SidesOK S b s) : HvL S ((List.range (2 ^ b - 1)).map fun k => mL S s (k + 1)) := by
  have b7 := sd_b7 h.1
  constructor
  · rw [List.pairwise_map]
    refine List.Pairwise.imp_of_mem (R := (· < ·)) ?_ List.pairwise_lt_range
    intro x y hx hy hxy
    have hx := List.mem_range.mp hx
    have hy := List.mem_range.mp hy
    obtain ⟨k, kb, t1, t2, t3⟩ := tb_hi b (x + 1) (y + 1) (by omega) (by omega) (by omega)
    obtain ⟨i, hi, si, sj⟩ := h.2.2.2.1 k kb
    refine ⟨i, hi, ?_, ?_, fun j hj => ?_⟩
    · rw [mL_lt hi, si, par_pow (by omega), t1]
    · rw [mL_lt hi, si, par_pow (by omega), t2]
    · rw [mL_lt (by omega), mL_lt (by omega)]
      have : s j &&& (x + 1) = s j &&& (y + 1) := Nat.eq_of_testBit_eq (fun q => by
        rw [Nat.testBit_and, Nat.testBit_and]
        by_cases w : k < q
        · rw [t3 q w]
        · have z := sj j hj
          have : (s j % 2 ^ (k + 1)).testBit q = false := by rw [z]; exact Nat.zero_testBit q
          rw [Nat.testBit_mod_two_pow, decide_eq_true (by omega), Bool.true_and] at this
          rw [this]; rfl)
      rw [this]
  · intro m
    rw [List.mem_map]
    constructor
    · rintro ⟨k, hk, rfl⟩
      have hk := List.mem_range.mp hk
      refine ⟨fun i hi => if_neg (by omega), h.hom _, ?_⟩
      obtain ⟨q, hq⟩ := Nat.exists_testBit_of_ne_zero (show k + 1 ≠ 0 by omega)
      have qb : q < b := by
        rcases Nat.lt_or_ge q b with w | w
        · exact w
        · have p := Nat.pow_le_pow_right (show 0 < 2 by decide) w
          rw [Nat.testBit_lt_two_pow (by omega)] at hq
          exact absurd hq (by decide)
      obtain ⟨i, hi, si, _⟩ := h.2.2.2.1 q qb
      exact ⟨i, hi, by rw [mL_lt hi, si, par_pow (by omega), hq]⟩
    · rintro ⟨m0, mh, i1, hi1, mt⟩
      have ex : ∀ k, ∃ i, k < b → i < S.length ∧ s i = 2 ^ k := fun k => by
        by_cases q : k < b
        · obtain ⟨i, hi, si, _⟩ := h.2.2.2.1 k q
          exact ⟨i, fun _ => ⟨hi, si⟩⟩
        · exact ⟨0, fun w => absurd w q⟩
      let I : Nat → Nat := fun k => Classical.choose (ex k)
      have hI : ∀ k, k < b → I k < S.length ∧ s (I k) = 2 ^ k := fun k => Classical.choose_spec (ex k)
      obtain ⟨L, hL, tL⟩ := bits_of b (fun k => m (I k))
      have key : ∀ v i, i < S.length → s i = v → m i = par (s i &&& L) := by
        intro v
        induction v using Nat.strongRecOn with
        | _ v ih =>
          intro i hi e
          by_cases z : v = 0
          · rw [mh.sq ok _ (h.2.2.2.2 i hi (e.trans z)) i hi rfl, e, z, par_zero]
          · obtain ⟨q, hq⟩ := Nat.exists_testBit_of_ne_zero z
            have sb := h.2.1 i hi
            have qb : q < b := by
              rcases Nat.lt_or_ge q b with w | w
              · exact w
              · have p := Nat.pow_le_pow_right (show 0 < 2 by decide) w
                rw [Nat.testBit_lt_two_pow (by omega)] at hq
                exact absurd hq (by decide)
            obtain ⟨Iq, sq⟩ := hI q qb
            obtain ⟨y, hy, py⟩ := ok.2.2.2.2 _ (getD_mem hi) _ (getD_mem Iq)
            obtain ⟨j, hj, ej⟩ := mem_getD hy
            rw [← ej] at py
            have sj := h.2.2.1 i (I q) j hi Iq hj py
            have mj := mh i (I q) j hi Iq hj py
            rw [sq, e] at sj
            have lt : s j < v := by
              rw [sj]
              refine tb_lt q _ _ ?_ hq (fun w hw => ?_)
              · rw [Nat.testBit_xor, hq, Nat.testBit_two_pow_self]; rfl
              · rw [Nat.testBit_xor, Nat.testBit_two_pow_of_ne (by omega), Bool.xor_false]
            have := ih _ lt j hj rfl
            rw [sj, par_and, par_pow (by omega), tL q qb] at this
            rw [mj] at this
            rw [e]
            revert this
            cases m i <;> cases m (I q) <;> cases par (v &&& L) <;> decide
      have L0 : L ≠ 0 := fun z => by
        have := key _ i1 hi1 rfl
        rw [z, Nat.and_zero, mt] at this
        exact absurd this (by decide)
      refine ⟨L - 1, List.mem_range.mpr (by omega), funext fun i => ?_⟩
      show mL S s (L - 1 + 1) i = m i
      rw [show L - 1 + 1 = L by omega]
      by_cases q : i < S.length
      · rw [mL_lt q, key _ i q rfl]
      · rw [m0 i (by omega)]; exact if_neg q
