/-! a group modulo its squares -/
noncomputable def gm (x y : Nat) : Nat := (prod x y).toNat
theorem gm_mem {S : List Nat} (ok : GOk S) {x y : Nat} (hx : x ∈ S) (hy : y ∈ S) : gm x y ∈ S := (ok.pr hx hy).2.1
theorem gm_pr {S : List Nat} (ok : GOk S) {x y : Nat} (hx : x ∈ S) (hy : y ∈ S) : Pr x y (gm x y) := (ok.pr hx hy).1
theorem gm_of {x y z : Nat} (p : Pr x y z) : gm x y = z := Pr_toNat p
theorem gm_as {S : List Nat} (ok : GOk S) {x y z : Nat} (hx : x ∈ S) (hy : y ∈ S) (hz : z ∈ S) : gm (gm x y) z = gm x (gm y z) := by
  have a := gm_pr ok hx hy
  have b := gm_pr ok hy hz
  have c := gm_pr ok (gm_mem ok hx hy) hz
  exact (gm_of (a.assoc b c)).symm
theorem gm_1l {S : List Nat} (ok : GOk S) {x : Nat} (hx : x ∈ S) : gm idc x = x := gm_of (Pr.id_l (ok.c x hx))
theorem gm_1r {S : List Nat} (ok : GOk S) {x : Nat} (hx : x ∈ S) : gm x idc = x := gm_of (Pr.id_r (ok.c x hx))
theorem gm_inv {S : List Nat} (ok : GOk S) {x : Nat} (hx : x ∈ S) : ∃ y ∈ S, gm x y = idc ∧ gm y x = idc := by
  obtain ⟨y, hy, a, b⟩ := ok.inv hx
  exact ⟨y, hy, gm_of a, gm_of b⟩
/-- what the squares make -/
def Qs (S : List Nat) (x : Nat) : Prop := reach (SqG S) x
theorem sq_in {S : List Nat} (ok : GOk S) {g : Nat} (h : SqG S g) : g ∈ S := by
  obtain ⟨z, hz, pz⟩ := h
  obtain ⟨g', hg, pg⟩ := ok.2.2.2.2 z hz z hz
  rw [pg.fn pz] at hg; exact hg
theorem sq_ops {S : List Nat} (ok : GOk S) : Ops (SqG S) := fun g hg => ok.2.2.1 g (sq_in ok hg)
theorem sq_tot {S : List Nat} (ok : GOk S) : Total (SqG S) := fun x hx g hg => by
  obtain ⟨y, _, p⟩ := ok.2.2.2.2 x (sq_mem ok x hx) g (sq_in ok hg)
  exact ⟨y, p⟩
theorem Qs.mul {S : List Nat} (ok : GOk S) {x y : Nat} (hx : Qs S x) (hy : Qs S y) : Qs S (gm x y) := by
  obtain ⟨v, p, r⟩ := reach_mul (sq_ops ok) (sq_tot ok) hx y hy
  rw [gm_of p]; exact r
theorem Qs.sq {S : List Nat} (ok : GOk S) {x : Nat} (hx : x ∈ S) : Qs S (gm x x) := reach_gen (sq_ops ok) ⟨x, hx, gm_pr ok hx hx⟩
theorem Qs.pw {S : List Nat} (ok : GOk S) {x : Nat} (hx : Qs S x) : ∀ n, Qs S (pwN x n)
  | 0 => hx
  | n + 1 => by
    have p := pw_add ok (sq_mem ok x hx) n 0
    rw [show n + 1 + 0 = n + 1 by omega] at p
    have := Qs.mul ok (Qs.pw ok hx n) hx
    rw [show gm (pwN x n) x = pwN x (n + 1) from gm_of p] at this
    exact this
theorem Qs.inv {S : List Nat} (ok : GOk S) {x : Nat} (hx : Qs S x) : ∃ y, Qs S y ∧ gm x y = idc := by
  have xS := sq_mem ok x hx
  obtain ⟨n, _, e, _⟩ := pw_ord ok xS
  cases n with
  | zero =>
    have e : x = idc := e
    exact ⟨idc, reach_id, by rw [e]; exact gm_1l ok ok.2.2.2.1⟩
  | succ n =>
    have b := pw_add ok xS 0 n
    rw [show 0 + 1 + n = n + 1 by omega, e] at b
    exact ⟨_, Qs.pw ok hx n, gm_of b⟩
theorem Qs.norm {S : List Nat} (ok : GOk S) {y : Nat} (hy : y ∈ S) : ∀ q, Qs S q → ∃ q', Qs S q' ∧ gm q y = gm y q' := by
  refine reach_ind _ ⟨idc, reach_id, by rw [gm_1l ok hy, gm_1r ok hy]⟩ ?_
  rintro x g v rx ⟨q', hq', e⟩ ⟨z, hz, pz⟩ p
  have xS := sq_mem ok x rx
  have qS := sq_mem ok q' hq'
  obtain ⟨i, hi, i1, i2⟩ := gm_inv ok hy
  have wS : gm i (gm z y) ∈ S := gm_mem ok hi (gm_mem ok hz hy)
  have ew : gm y (gm i (gm z y)) = gm z y := by
    rw [← gm_as ok hy hi (gm_mem ok hz hy), i1, gm_1l ok (gm_mem ok hz hy)]
  generalize gm i (gm z y) = w at *
  have eg : gm z z = g := gm_of pz
  have gS : g ∈ S := by rw [← eg]; exact gm_mem ok hz hz
  have ev : gm x g = v := gm_of p
  have sy : gm g y = gm y (gm w w) := by
    rw [← eg, gm_as ok hz hz hy, ← ew, ← gm_as ok hz hy wS, ← ew, gm_as ok hy wS wS]
  have wwS := gm_mem ok wS wS
  refine ⟨gm q' (gm w w), hq'.mul ok (Qs.sq ok wS), ?_⟩
  rw [← ev, gm_as ok xS gS hy, sy, ← gm_as ok xS hy wwS, e, gm_as ok hy qS wwS]
/-- equal but for squares -/
def Eq2 (S : List Nat) (a b : Nat) : Prop := ∃ q, Qs S q ∧ gm a q = b
theorem Eq2.rf {S : List Nat} (ok : GOk S) {a : Nat} (ha : a ∈ S) : Eq2 S a a := ⟨idc, reach_id, gm_1r ok ha⟩
theorem Eq2.mem {S : List Nat} (ok : GOk S) {a b : Nat} (ha : a ∈ S) (h : Eq2 S a b) : b ∈ S := by
  obtain ⟨q, hq, e⟩ := h
  rw [← e]; exact gm_mem ok ha (sq_mem ok q hq)
theorem Eq2.tr {S : List Nat} (ok : GOk S) {a b c : Nat} (ha : a ∈ S) (h : Eq2 S a b) (h' : Eq2 S b c) : Eq2 S a c := by
  obtain ⟨q, hq, e⟩ := h
  obtain ⟨p, hp, e'⟩ := h'
  exact ⟨gm q p, hq.mul ok hp, by rw [← gm_as ok ha (sq_mem ok q hq) (sq_mem ok p hp), e, e']⟩
theorem Eq2.sy {S : List Nat} (ok : GOk S) {a b : Nat} (ha : a ∈ S) (h : Eq2 S a b) : Eq2 S b a := by
  obtain ⟨q, hq, e⟩ := h
  obtain ⟨p, hp, e'⟩ := hq.inv ok
  exact ⟨p, hp, by rw [← e, gm_as ok ha (sq_mem ok q hq) (sq_mem ok p hp), e', gm_1r ok ha]⟩
theorem Eq2.lm {S : List Nat} (ok : GOk S) {a b x : Nat} (ha : a ∈ S) (hx : x ∈ S) (h : Eq2 S a b) : Eq2 S (gm x a) (gm x b) := by
  obtain ⟨q, hq, e⟩ := h
  exact ⟨q, hq, by rw [gm_as ok hx ha (sq_mem ok q hq), e]⟩
theorem Eq2.rm {S : List Nat} (ok : GOk S) {a b y : Nat} (ha : a ∈ S) (hy : y ∈ S) (h : Eq2 S a b) : Eq2 S (gm a y) (gm b y) := by
  obtain ⟨q, hq, e⟩ := h
  obtain ⟨p, hp, e'⟩ := Qs.norm ok hy q hq
  have qS := sq_mem ok q hq
  have pS := sq_mem ok p hp
  exact ⟨p, hp, by rw [← e, gm_as ok ha hy pS, ← e', ← gm_as ok ha qS hy]⟩
theorem Eq2.sq {S : List Nat} (ok : GOk S) {x : Nat} (hx : x ∈ S) : Eq2 S idc (gm x x) := ⟨gm x x, Qs.sq ok hx, gm_1l ok (gm_mem ok hx hx)⟩
theorem Eq2.sq' {S : List Nat} (ok : GOk S) {x : Nat} (hx : x ∈ S) : Eq2 S (gm x x) idc := (Eq2.sq ok hx).sy ok ok.2.2.2.1
/-- x y y is x -/
theorem Eq2.yy {S : List Nat} (ok : GOk S) {x y : Nat} (hx : x ∈ S) (hy : y ∈ S) : Eq2 S (gm (gm x y) y) x := by
  have := (Eq2.sq' ok hy).lm ok (gm_mem ok hy hy) hx
  rw [gm_1r ok hx, ← gm_as ok hx hy hy] at this
  exact this
theorem Eq2.cm {S : List Nat} (ok : GOk S) {x y : Nat} (hx : x ∈ S) (hy : y ∈ S) : Eq2 S (gm x y) (gm y x) := by
  have xyS := gm_mem ok hx hy
  have yxS := gm_mem ok hy hx
  -- x y is (x y) (y x) (y x), and (x y) (y x) is a square but for squares
  have a := (Eq2.yy ok xyS yxS).sy ok (gm_mem ok (gm_mem ok xyS yxS) yxS)
  have b : Eq2 S (gm (gm x y) (gm y x)) idc := by
    rw [← gm_as ok xyS hy hx]
    exact ((Eq2.yy ok hx hy).rm ok (gm_mem ok xyS hy) hx).tr ok (gm_mem ok (gm_mem ok xyS hy) hx) (Eq2.sq' ok hx)
  have c := b.rm ok (gm_mem ok xyS yxS) yxS
  rw [gm_1l ok yxS] at c
  exact a.tr ok xyS c
/-- sides, as far as they are given -/
def SdI (S V : List Nat) (s : Nat → Nat) (b : Nat) : Prop := (V.Nodup ∧ (∀ v ∈ V, v < S.length) ∧ 2 ^ b ≤ V.length) ∧
  (∀ i ∈ V, ∀ j, j < S.length → Eq2 S (S.getD i 0) (S.getD j 0) → j ∈ V ∧ s j = s i) ∧
  (∀ i ∈ V, ∀ j ∈ V, ∀ k, k < S.length → gm (S.getD i 0) (S.getD j 0) = S.getD k 0 → k ∈ V ∧ s k = s i ^^^ s j) ∧
  (∀ i ∈ V, s i = 0 → Qs S (S.getD i 0)) ∧ (∀ i ∈ V, s i < 2 ^ b) ∧ (∀ i, i < S.length → Qs S (S.getD i 0) → i ∈ V ∧ s i = 0) ∧
  ∀ k, k < b → ∃ i ∈ V, s i = 2 ^ k ∧ ∀ j, j < i → j ∈ V ∧ s j % 2 ^ (k + 1) = 0
theorem xor2 (a b x y : Nat) (hx : x < 2) (hy : y < 2) : (2 * a + x) ^^^ (2 * b + y) = 2 * (a ^^^ b) + (x ^^^ y) := by
  have hxy : x ^^^ y < 2 := Nat.xor_lt_two_pow (n := 1) hx hy
  refine Nat.eq_of_testBit_eq (fun i => ?_)
  cases i with
  | zero =>
    rw [Nat.testBit_xor]
    simp only [Nat.testBit_zero]
    have : x = 0 ∨ x = 1 := by omega
    have : y = 0 ∨ y = 1 := by omega
    rcases ‹x = 0 ∨ x = 1› with rfl | rfl <;> rcases ‹y = 0 ∨ y = 1› with rfl | rfl <;> simp [Nat.mul_add_mod]
  | succ i =>
    rw [Nat.testBit_xor, Nat.testBit_add_one, Nat.testBit_add_one, Nat.testBit_add_one]
    rw [show (2 * a + x) / 2 = a by omega, show (2 * b + y) / 2 = b by omega, show (2 * (a ^^^ b) + (x ^^^ y)) / 2 = a ^^^ b by omega, Nat.testBit_xor]
theorem SdI.end {S V : List Nat} {s : Nat → Nat} {b : Nat} (ok : GOk S) (h : SdI S V s b) (all : ∀ j, j < S.length → j ∈ V) : SidesOK S b s := by
  obtain ⟨⟨nd, lt, pw⟩, h1, h2, h3, h4, h5, h6⟩ := h
  have := qlen V nd lt
  have w := ok.2.1
  refine ⟨by omega, fun i hi => h4 i (all i hi), fun i j k hi hj hk p => (h2 i (all i hi) j (all j hj) k hk (gm_of p)).2, fun k hk => ?_, fun i hi e => h3 i (all i hi) e⟩
  obtain ⟨i, hi, e, q⟩ := h6 k hk
  exact ⟨i, lt i hi, e, fun j hj => (q j hj).2⟩
theorem SdI.beg {S V : List Nat} (ok : GOk S) (nd : V.Nodup) (hV : ∀ j, j ∈ V ↔ j < S.length ∧ Qs S (S.getD j 0)) : SdI S V (fun _ => 0) 0 := by
  obtain ⟨e, he, ee⟩ := mem_getD ok.2.2.2.1
  have eV : e ∈ V := (hV e).mpr ⟨he, by rw [ee]; exact reach_id⟩
  have pos := List.length_pos_of_mem eV
  refine ⟨⟨nd, fun v hv => ((hV v).mp hv).1, by omega⟩, fun i hi j hj q => ⟨?_, rfl⟩, fun i hi j hj k hk q => ⟨?_, (Nat.xor_self 0).symm⟩, fun i hi _ => ((hV i).mp hi).2, fun _ _ => Nat.one_pos, fun i hi q => ⟨(hV i).mpr ⟨hi, q⟩, rfl⟩, fun k hk => absurd hk (Nat.not_lt_zero k)⟩
  · obtain ⟨p, hp, e'⟩ := q
    exact (hV j).mpr ⟨hj, by rw [← e']; exact ((hV i).mp hi).2.mul ok hp⟩
  · exact (hV k).mpr ⟨hk, by rw [← q]; exact ((hV i).mp hi).2.mul ok ((hV j).mp hj).2⟩
/-- one more bit -/
theorem SdI.more {S V V' : List Nat} {s s' : Nat → Nat} {b i0 : Nat} (ok : GOk S) (h : SdI S V s b) (hi0 : i0 < S.length) (n0 : i0 ∉ V) (lo : ∀ j, j < i0 → j ∈ V)
    (nd : V'.Nodup) (len : V'.length = 2 * V.length) (mem : ∀ j, j ∈ V' ↔ j ∈ V ∨ (j < S.length ∧ ∃ v ∈ V, gm (S.getD i0 0) (S.getD v 0) = S.getD j 0)) (e0 : ∀ v ∈ V, s' v = 2 * s v) (e1 : ∀ v ∈ V, ∀ j, j < S.length → gm (S.getD i0 0) (S.getD v 0) = S.getD j 0 → s' j = 2 * s v + 1) : SdI S V' s' (b + 1) := by
  obtain ⟨⟨_, lt, pw⟩, h1, h2, h3, h4, h5, h6⟩ := h
  have zS := getD_mem hi0
  generalize hz : S.getD i0 0 = z at *
  have ix : ∀ x, x ∈ S → ∃ j, j < S.length ∧ S.getD j 0 = x := fun x hx => mem_getD hx
  have cS : ∀ v ∈ V, S.getD v 0 ∈ S := fun v hv => getD_mem (lt v hv)
  -- what is equal but for squares
  have sat : ∀ i ∈ V', ∀ j, j < S.length → Eq2 S (S.getD i 0) (S.getD j 0) → j ∈ V' ∧ s' j = s' i := by
    intro i hi j hj q
    rcases (mem i).mp hi with a | ⟨il, v, hv, ev⟩
    · obtain ⟨m, e⟩ := h1 i a j hj q
      exact ⟨(mem j).mpr (Or.inl m), by rw [e0 j m, e0 i a, e]⟩
    · obtain ⟨p, hp, ep⟩ := q
      have pS := sq_mem ok p hp
      obtain ⟨v', hv', ev'⟩ := ix _ (gm_mem ok (cS v hv) pS)
      obtain ⟨m, e⟩ := h1 v hv v' hv' ⟨p, hp, ev'.symm⟩
      have ej : gm z (S.getD v' 0) = S.getD j 0 := by rw [ev', ← gm_as ok zS (cS v hv) pS, ev, ep]
      exact ⟨(mem j).mpr (Or.inr ⟨hj, v', m, ej⟩), by rw [e1 v' m j hj ej, e1 v hv i il ev, e]⟩
  -- where a product lies
  have vw : ∀ v ∈ V, ∀ w ∈ V, ∃ u ∈ V, gm (S.getD v 0) (S.getD w 0) = S.getD u 0 ∧ s u = s v ^^^ s w := fun v hv w hw => by
    obtain ⟨u, hu, eu⟩ := ix _ (gm_mem ok (cS v hv) (cS w hw))
    obtain ⟨m, e⟩ := h2 v hv w hw u hu eu.symm
    exact ⟨u, m, eu.symm, e⟩
  have zv : ∀ v ∈ V, ∃ j, j < S.length ∧ S.getD j 0 = gm z (S.getD v 0) ∧ j ∈ V' ∧ s' j = 2 * s v + 1 := fun v hv => by
    obtain ⟨j, hj, ej⟩ := ix _ (gm_mem ok zS (cS v hv))
    exact ⟨j, hj, ej, (mem j).mpr (Or.inr ⟨hj, v, hv, ej.symm⟩), e1 v hv j hj ej.symm⟩
  have big : V.length * 2 = V'.length := by omega
  refine ⟨⟨nd, fun v hv => ?_, by rw [Nat.pow_succ]; omega⟩, sat, fun i hi j hj k hk q => ?_, fun i hi e => ?_, fun i hi => ?_, fun i hi q => ?_, fun k hk => ?_⟩
  · rcases (mem v).mp hv with a | a
    · exact lt v a
    · exact a.1
  · rcases (mem i).mp hi with a | ⟨il, v, hv, ev⟩ <;> rcases (mem j).mp hj with a' | ⟨jl, w, hw, ew⟩
    · obtain ⟨m, e⟩ := h2 i a j a' k hk q
      refine ⟨(mem k).mpr (Or.inl m), ?_⟩
      rw [e0 k m, e0 i a, e0 j a', e]
      have := xor2 (s i) (s j) 0 0 (by omega) (by omega)
      simpa using this.symm
    · -- i (z w)
      obtain ⟨u, hu, eu, su⟩ := vw i a w hw
      obtain ⟨t, ht, et, mt, st⟩ := zv u hu
      have iS := cS i a
      have wS := cS w hw
      have E : Eq2 S (S.getD t 0) (S.getD k 0) := by
        rw [et, ← q, ← ew, ← eu, ← gm_as ok zS iS wS, ← gm_as ok iS zS wS]
        exact (Eq2.cm ok zS iS).rm ok (gm_mem ok zS iS) wS
      obtain ⟨m, e⟩ := sat t mt k hk E
      refine ⟨m, ?_⟩
      rw [e, st, su, e0 i a, e1 w hw j jl ew]
      have := xor2 (s i) (s w) 0 1 (by omega) (by omega)
      simpa using this.symm
    · -- (z v) j
      obtain ⟨u, hu, eu, su⟩ := vw v hv j a'
      have vS := cS v hv
      have jS := cS j a'
      have ek : gm z (S.getD u 0) = S.getD k 0 := by rw [← eu, ← gm_as ok zS vS jS, ev, q]
      refine ⟨(mem k).mpr (Or.inr ⟨hk, u, hu, ek⟩), ?_⟩
      rw [e1 u hu k hk ek, su, e1 v hv i il ev, e0 j a']
      have := xor2 (s v) (s j) 1 0 (by omega) (by omega)
      simpa using this.symm
    · -- (z v) (z w)
      obtain ⟨u, hu, eu, su⟩ := vw v hv w hw
      have vS := cS v hv
      have wS := cS w hw
      have zvS := gm_mem ok zS vS
      have E : Eq2 S (S.getD u 0) (S.getD k 0) := by
        have b1 : Eq2 S (gm (gm z (S.getD v 0)) z) (S.getD v 0) := by
          have := (Eq2.cm ok zS vS).rm ok zvS zS
          exact this.tr ok (gm_mem ok zvS zS) (Eq2.yy ok vS zS)
        have b2 := b1.rm ok (gm_mem ok zvS zS) wS
        rw [gm_as ok zvS zS wS, ev, ew, q, eu] at b2
        exact b2.sy ok (getD_mem hk)
      have gm_ := (mem u).mpr (Or.inl hu)
      obtain ⟨m, e⟩ := sat u gm_ k hk E
      refine ⟨m, ?_⟩
      rw [e, e0 u hu, su, e1 v hv i il ev, e1 w hw j jl ew]
      have := xor2 (s v) (s w) 1 1 (by omega) (by omega)
      simpa using this.symm
  · rcases (mem i).mp hi with a | ⟨il, v, hv, ev⟩
    · rw [e0 i a] at e
      exact h3 i a (by omega)
    · rw [e1 v hv i il ev] at e
      omega
  · rw [Nat.pow_succ]
    rcases (mem i).mp hi with a | ⟨il, v, hv, ev⟩
    · rw [e0 i a]
      have := h4 i a
      omega
    · rw [e1 v hv i il ev]
      have := h4 v hv
      omega
  · obtain ⟨m, e⟩ := h5 i hi q
    exact ⟨(mem i).mpr (Or.inl m), by rw [e0 i m, e]⟩
  · cases k with
    | zero =>
      obtain ⟨e, he, ee⟩ := ix _ ok.2.2.2.1
      obtain ⟨me, se⟩ := h5 e he (by rw [ee]; exact reach_id)
      have ei : gm z (S.getD e 0) = S.getD i0 0 := by rw [ee, hz, gm_1r ok zS]
      refine ⟨i0, (mem i0).mpr (Or.inr ⟨hi0, e, me, ei⟩), ?_, fun j hj => ⟨(mem j).mpr (Or.inl (lo j hj)), ?_⟩⟩
      · rw [e1 e me i0 hi0 ei, se]
      · rw [e0 j (lo j hj)]; omega
    | succ k =>
      obtain ⟨i, hi, e, q⟩ := h6 k (by omega)
      refine ⟨i, (mem i).mpr (Or.inl hi), by rw [e0 i hi, e, Nat.pow_succ, Nat.mul_comm], fun j hj => ?_⟩
      obtain ⟨m, e'⟩ := q j hj
      refine ⟨(mem j).mpr (Or.inl m), ?_⟩
      rw [e0 j m, Nat.pow_succ 2 (k + 1), Nat.mul_comm _ 2, Nat.mul_mod_mul_left, e']
