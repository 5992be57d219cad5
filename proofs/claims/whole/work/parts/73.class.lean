/-! the matrices of a list, their sorts, and the class -/
def brK (S : List Nat) : Nat → List Nat
  | 0 => []
  | k + 1 => if k = 0 ∨ S.getD k 0 / 13824 ≠ S.getD (k - 1) 0 / 13824 then brK S k ++ [S.getD k 0] else brK S k
theorem brK_y {S : List Nat} {k : Nat} (h : k = 0 ∨ S.getD k 0 / 13824 ≠ S.getD (k - 1) 0 / 13824) : brK S (k + 1) = brK S k ++ [S.getD k 0] := if_pos h
theorem brK_n {S : List Nat} {k : Nat} (h : ¬ (k = 0 ∨ S.getD k 0 / 13824 ≠ S.getD (k - 1) 0 / 13824)) : brK S (k + 1) = brK S k := if_neg h
theorem brK_len {S : List Nat} : ∀ k, (brK S k).length ≤ k
  | 0 => Nat.le_refl _
  | k + 1 => by
    have := brK_len (S := S) k
    by_cases q : k = 0 ∨ S.getD k 0 / 13824 ≠ S.getD (k - 1) 0 / 13824
    · rw [brK_y q, List.length_append]; show (brK S k).length + 1 ≤ k + 1; omega
    · rw [brK_n q]; omega
def cntS (B : List Nat) (s : Int) : Nat := (B.filter fun c => decide (sortZ (eM c) = s)).length
theorem cnt_add {B : List Nat} {c : Nat} {s : Int} : cntS (B ++ [c]) s = cntS B s + if sortZ (eM c) = s then 1 else 0 := by
  unfold cntS
  rw [List.filter_append, List.length_append]
  by_cases q : sortZ (eM c) = s
  · rw [if_pos q, List.filter_cons_of_pos (by rw [decide_eq_true_iff]; exact q)]; rfl
  · rw [if_neg q, List.filter_cons_of_neg (by rw [decide_eq_true_iff]; exact q)]; rfl
theorem cnt_len (B : List Nat) (s : Int) : cntS B s ≤ B.length := List.length_filter_le _ _
/-- the counts of the 32 classes: sorts 2, 3, 4, 6, -1, -2, -3, -4, -6 -/
def clT : List (List Nat) := [[0,0,0,0,0,0,0,0,0],[0,0,0,0,1,0,0,0,0],[1,0,0,0,0,0,0,0,0],[0,0,0,0,0,1,0,0,0],[1,0,0,0,1,1,0,0,0],[3,0,0,0,0,0,0,0,0],[1,0,0,0,0,2,0,0,0],[3,0,0,0,1,3,0,0,0],
  [1,0,2,0,0,0,0,0,0],[1,0,0,0,0,0,0,2,0],[1,0,2,0,1,1,0,2,0],[5,0,2,0,0,0,0,0,0],[1,0,2,0,0,4,0,0,0],[3,0,0,0,0,2,0,2,0],[5,0,2,0,1,5,0,2,0],
  [0,2,0,0,0,0,0,0,0],[0,2,0,0,1,0,2,0,0],[3,2,0,0,0,0,0,0,0],[0,2,0,0,0,3,0,0,0],[3,2,0,0,1,3,2,0,0],
  [1,2,0,2,0,0,0,0,0],[0,2,0,0,0,1,0,0,2],[1,2,0,2,1,1,2,0,2],[7,2,0,2,0,0,0,0,0],[1,2,0,2,0,6,0,0,0],[3,2,0,0,0,4,0,0,2],[7,2,0,2,1,7,2,0,2],
  [3,8,0,0,0,0,0,0,0],[3,8,0,0,1,3,8,0,0],[9,8,6,0,0,0,0,0,0],[3,8,0,0,0,6,0,6,0],[9,8,6,0,1,9,8,6,0]]
def cv (B : List Nat) : List Nat := [cntS B 2, cntS B 3, cntS B 4, cntS B 6, cntS B (-1), cntS B (-2), cntS B (-3), cntS B (-4), cntS B (-6)]
def vK (v : List Nat) : Nat := 100000000 * v.getD 0 0 + 10000000 * v.getD 1 0 + 1000000 * v.getD 2 0 + 100000 * v.getD 3 0 + 10000 * v.getD 4 0 + 1000 * v.getD 5 0 + 100 * v.getD 6 0 + 10 * v.getD 7 0 + v.getD 8 0
def vA (v : List Nat) : Nat := 1000 * v.getD 0 0 + 100 * v.getD 1 0 + 10 * v.getD 2 0 + v.getD 3 0
def vB (v : List Nat) : Nat := 10000 * v.getD 4 0 + 1000 * v.getD 5 0 + 100 * v.getD 6 0 + 10 * v.getD 7 0 + v.getD 8 0
/-- a list has the counts of class i + 1 -/
def CtOK (B : List Nat) (i : Nat) : Prop := i < 32 ∧ cv B = clT.getD i []
def keyI (x : Int32) : Int32 := if x = -6 then 1 else if x = -5 then 0 else if x = -4 then 10 else if x = -3 then 100 else if x = -2 then 1000 else if x = -1 then 10000 else if x = 0 then 0 else if x = 1 then 0 else if x = 2 then 100000000 else if x = 3 then 10000000 else if x = 4 then 1000000 else if x = 5 then 0 else if x = 6 then 100000 else 0
theorem sp_Ho_keyOfSort {h : MH} (x : Int32) : SpI k_Ho_keyOfSort [.int x] h (fun r g => g = h ∧ r = keyI x) := by
  refine v_Ho_keyOfSort _ _ _ ?_
  unfold keyI
  refine ⟨fun e => ⟨_, rfl, rfl, by rw [if_pos e]⟩, fun n1 => ?_⟩
  rw [if_neg n1]
  refine ⟨fun e => ⟨_, rfl, rfl, by rw [if_pos e]⟩, fun n1 => ?_⟩
  rw [if_neg n1]
  refine ⟨fun e => ⟨_, rfl, rfl, by rw [if_pos e]⟩, fun n1 => ?_⟩
  rw [if_neg n1]
  refine ⟨fun e => ⟨_, rfl, rfl, by rw [if_pos e]⟩, fun n1 => ?_⟩
  rw [if_neg n1]
  refine ⟨fun e => ⟨_, rfl, rfl, by rw [if_pos e]⟩, fun n1 => ?_⟩
  rw [if_neg n1]
  refine ⟨fun e => ⟨_, rfl, rfl, by rw [if_pos e]⟩, fun n1 => ?_⟩
  rw [if_neg n1]
  refine ⟨fun e => ⟨_, rfl, rfl, by rw [if_pos e]⟩, fun n1 => ?_⟩
  rw [if_neg n1]
  refine ⟨fun e => ⟨_, rfl, rfl, by rw [if_pos e]⟩, fun n1 => ?_⟩
  rw [if_neg n1]
  refine ⟨fun e => ⟨_, rfl, rfl, by rw [if_pos e]⟩, fun n1 => ?_⟩
  rw [if_neg n1]
  refine ⟨fun e => ⟨_, rfl, rfl, by rw [if_pos e]⟩, fun n1 => ?_⟩
  rw [if_neg n1]
  refine ⟨fun e => ⟨_, rfl, rfl, by rw [if_pos e]⟩, fun n1 => ?_⟩
  rw [if_neg n1]
  refine ⟨fun e => ⟨_, rfl, rfl, by rw [if_pos e]⟩, fun n1 => ?_⟩
  rw [if_neg n1]
  exact ⟨fun e => ⟨_, rfl, rfl, by rw [if_pos e]⟩, fun n1 => ⟨_, rfl, rfl, by rw [if_neg n1]⟩⟩
theorem sortZ_rng {M : Nat → Int} (h : det9 M = 1 ∨ det9 M = -1) : -6 ≤ sortZ M ∧ sortZ M ≤ 6 := by
  unfold sortZ
  rcases h with h | h <;> rw [h] <;> (split; omega; split; omega; split; omega; split; omega; split <;> omega)
def keyC (c : Nat) : Int32 := keyI (zI (sortZ (eM c)))
def d1 (s t : Int) : Nat := if s = t then 1 else 0
theorem keyC_v {c : Nat} (hc : isOp c) : keyC c = nI (100000000 * d1 (sortZ (eM c)) 2 + 10000000 * d1 (sortZ (eM c)) 3 + 1000000 * d1 (sortZ (eM c)) 4 + 100000 * d1 (sortZ (eM c)) 6 + 10000 * d1 (sortZ (eM c)) (-1) + 1000 * d1 (sortZ (eM c)) (-2) + 100 * d1 (sortZ (eM c)) (-3) + 10 * d1 (sortZ (eM c)) (-4) + d1 (sortZ (eM c)) (-6)) := by
  have := sortZ_rng hc.2
  unfold keyC
  generalize sortZ (eM c) = s at *
  have : s = -6 ∨ s = -5 ∨ s = -4 ∨ s = -3 ∨ s = -2 ∨ s = -1 ∨ s = 0 ∨ s = 1 ∨ s = 2 ∨ s = 3 ∨ s = 4 ∨ s = 5 ∨ s = 6 := by omega
  rcases this with rfl | rfl | rfl | rfl | rfl | rfl | rfl | rfl | rfl | rfl | rfl | rfl | rfl <;> decide
theorem vK_add (B : List Nat) {c : Nat} (hc : isOp c) : nI (vK (cv B)) + keyC c = nI (vK (cv (B ++ [c]))) := by
  rw [keyC_v hc, nI_add]
  congr 1
  unfold cv vK
  rw [cnt_add, cnt_add, cnt_add, cnt_add, cnt_add, cnt_add, cnt_add, cnt_add, cnt_add]
  unfold d1
  simp only [List.getD_cons_zero, List.getD_cons_succ]
  omega
def keysL : List Int32 := [0, 10000, 100000000, 1000, 100011000, 300000000, 100002000, 300013000, 102000000, 100000020, 102011020, 502000000, 102004000, 300002020, 502015020, 20000000, 20010200, 320000000, 20003000, 320013200, 120200000, 20001002, 120211202, 720200000, 120206000, 320004002, 720217202, 380000000, 380013800, 986000000, 380006060, 986019860]
def KeysAt (f : (Nat → Nat → Int32)) : Prop := ∀ j, j < 32 → f 2 j = keysL.getD j 0
theorem keys_T : ∀ i, i < 32 → nI (vK (clT.getD i [])) = keysL.getD i 0 := by decide
theorem keys_N : ∀ i, i < 32 → ∀ j, j < i → keysL.getD j 0 ≠ keysL.getD i 0 := by decide
theorem sp_Ho_classOfKey {h : MH} {f : (Nat → Nat → Int32)} {l : (Nat → Nat → Int64)} {i : Nat} (hk : KeysAt f) (hi : i < 32) : SpI k_Ho_classOfKey [.int (nI (vK (clT.getD i [])))] (sil h f l) (fun r g => g = sil h f l ∧ r = nI (i + 1)) := by
  rw [keys_T i hi]
  have main : ∀ d j, i - j = d → j ≤ i → WM k_Ho_classOfKey p_Ho_classOfKey_1 [.int (keysL.getD i 0), .int (nI j)] [] (sil h f l) 0 0 (fun v g => ∃ r, v = .int r ∧ g = sil h f l ∧ r = nI (i + 1)) := by
    intro d
    induction d with
    | zero =>
      intro j hd hj
      have e : j = i := by omega
      subst e
      refine v_Ho_classOfKey_1 _ _ _ _ ⟨K2, ?_⟩
      rw [L2, nI_toI (by omega), ix_nI (by omega), mi_sil, hk j hi, nI_1]
      exact ⟨fun _ => ⟨InB_nI (by omega) (by omega), fun _ => ⟨_, rfl, rfl, rfl⟩, fun q => absurd rfl q⟩, fun q => absurd (by show (j : Int) < (nI 32).toInt; rw [nI_toI (by decide)]; omega) q⟩
    | succ d ih =>
      intro j hd hj
      refine v_Ho_classOfKey_1 _ _ _ _ ⟨K2, ?_⟩
      rw [L2, nI_toI (by omega), ix_nI (by omega), mi_sil, hk j (by omega), nI_1]
      exact ⟨fun _ => ⟨InB_nI (by omega) (by omega), fun q => absurd q (keys_N i hi j (by omega)), fun _ => ih (j + 1) (by omega) (by omega)⟩, fun q => absurd (by show (j : Int) < (nI 32).toInt; rw [nI_toI (by decide)]; omega) q⟩
  exact v_Ho_classOfKey _ _ _ (main _ 0 rfl (Nat.zero_le _))
theorem sp_Ref_classBy {h : MH} {i : Nat} (hi : i < 32) : SpI k_Ref_classBy [.int (nI (vA (clT.getD i []))), .int (nI (vB (clT.getD i [])))] h (fun r g => g = h ∧ r = nI (i + 1)) := by
  have : i = 0 ∨ i = 1 ∨ i = 2 ∨ i = 3 ∨ i = 4 ∨ i = 5 ∨ i = 6 ∨ i = 7 ∨ i = 8 ∨ i = 9 ∨ i = 10 ∨ i = 11 ∨ i = 12 ∨ i = 13 ∨ i = 14 ∨ i = 15 ∨ i = 16 ∨ i = 17 ∨ i = 18 ∨ i = 19 ∨ i = 20 ∨ i = 21 ∨ i = 22 ∨ i = 23 ∨ i = 24 ∨ i = 25 ∨ i = 26 ∨ i = 27 ∨ i = 28 ∨ i = 29 ∨ i = 30 ∨ i = 31 := by omega
  rcases this with rfl | rfl | rfl | rfl | rfl | rfl | rfl | rfl | rfl | rfl | rfl | rfl | rfl | rfl | rfl | rfl | rfl | rfl | rfl | rfl | rfl | rfl | rfl | rfl | rfl | rfl | rfl | rfl | rfl | rfl | rfl | rfl <;> refine v_Ref_classBy _ _ _ _ ?_ <;> simp (decide := true) only [false_implies, true_implies, and_true, true_and, not_false_eq_true, not_true_eq_false] <;>
    first
    | exact ⟨_, rfl, rfl⟩
    | exact v_Ref_classBy_1 _ _ ⟨_, rfl, rfl, rfl⟩
    | (refine v_Ref_classBy_2 _ _ _ ?_; simp (decide := true) only [false_implies, true_implies, and_true, true_and, not_false_eq_true, not_true_eq_false]; exact ⟨_, rfl, rfl⟩)
/-- the sorts of a list, as the reference counts them -/
def SoAt (f : (Nat → Nat → Int32)) (B : List Nat) : Prop := ∀ s : Int, -6 ≤ s → s ≤ 6 → f 75 (6 + s).toNat = nI (cntS B s)
theorem sp_Ref_classOf {h : MH} {f : (Nat → Nat → Int32)} {l : (Nat → Nat → Int64)} {L : List Nat} {a from_ i : Nat} (ha : 54 < a) (ka : kd (sil h f l) a = 20) (la : from_ + L.length ≤ ln (sil h f l) a) (hl : L.length ≤ 192) (hf : from_ < 1000000) (na : a ≠ 57 ∧ a ≠ 58 ∧ a ≠ 75) (ar : ∀ j, j < L.length → f a (from_ + j) = nI (L.getD j 0)) (ops : ∀ x ∈ L, isOp x) (ct : CtOK (brK L L.length) i) :
    SpI k_Ref_classOf [.ref 54, .ref a, .int (nI from_), .int (nI L.length)] (sil h f l) (fun r g => r = nI (i + 1) ∧ ∃ f', g = sil h f' l ∧ Fr [57, 58, 75] f f') := by
  have kk : ∀ f' : (Nat → Nat → Int32), kd (sil h f' l) a = 20 := fun f' => ka
  have ll : ∀ f' : (Nat → Nat → Int32), ln (sil h f' l) a = ln (sil h f l) a := fun f' => rfl
  have done : ∀ (f1 : (Nat → Nat → Int32)) (x4 : Int32), Fr [57, 58, 75] f f1 → SoAt f1 (brK L L.length) → WM k_Ref_classOf p_Ref_classOf_2 [.ref 54, .ref a, .int (nI from_), .int (nI L.length), .int x4, .int (nI L.length), Jv] [] (sil h f1 l) 0 0 (fun v g => ∃ r, v = .int r ∧ r = nI (i + 1) ∧ ∃ f', g = sil h f' l ∧ Fr [57, 58, 75] f f') := by
    intro f1 x4 fr so
    have b := brK_len (S := L) L.length
    have cb : ∀ s, cntS (brK L L.length) s ≤ 192 := fun s => Nat.le_trans (cnt_len _ _) (by omega)
    have c2 := cb 2; have c3 := cb 3; have c4 := cb 4; have c6 := cb 6; have d1 := cb (-1); have d2 := cb (-2); have d3 := cb (-3); have d4 := cb (-4); have d6 := cb (-6)
    have e8 : f1 75 8 = nI (cntS (brK L L.length) 2) := so 2 (by decide) (by decide)
    have e9 : f1 75 9 = nI (cntS (brK L L.length) 3) := so 3 (by decide) (by decide)
    have e10 : f1 75 10 = nI (cntS (brK L L.length) 4) := so 4 (by decide) (by decide)
    have e12 : f1 75 12 = nI (cntS (brK L L.length) 6) := so 6 (by decide) (by decide)
    have e5 : f1 75 5 = nI (cntS (brK L L.length) (-1)) := by have q := so (-1) (by decide) (by decide); rwa [show ((6 : Int) + -1).toNat = 5 by decide] at q
    have e4 : f1 75 4 = nI (cntS (brK L L.length) (-2)) := by have q := so (-2) (by decide) (by decide); rwa [show ((6 : Int) + -2).toNat = 4 by decide] at q
    have e3 : f1 75 3 = nI (cntS (brK L L.length) (-3)) := by have q := so (-3) (by decide) (by decide); rwa [show ((6 : Int) + -3).toNat = 3 by decide] at q
    have e2 : f1 75 2 = nI (cntS (brK L L.length) (-4)) := by have q := so (-4) (by decide) (by decide); rwa [show ((6 : Int) + -4).toNat = 2 by decide] at q
    have e0 : f1 75 0 = nI (cntS (brK L L.length) (-6)) := by have q := so (-6) (by decide) (by decide); rwa [show ((6 : Int) + -6).toNat = 0 by decide] at q
    have vb := sp_Ref_classBy (h := sil h f1 l) ct.1
    rw [← ct.2] at vb
    unfold vA vB cv at vb
    simp only [List.getD_cons_zero, List.getD_cons_succ] at vb
    refine v_Ref_classOf_2 _ _ _ _ _ _ _ _ ⟨fun q => absurd q (by omega), fun _ => ⟨K54, ?_⟩⟩
    rw [R54_28]
    refine ⟨K75, InB_nI (a := 8) (show 8 < 13 by decide) (by decide), InB_nI (a := 9) (show 9 < 13 by decide) (by decide), InB_nI (a := 10) (show 10 < 13 by decide) (by decide), InB_nI (a := 12) (show 12 < 13 by decide) (by decide), ?_⟩
    refine v_Ref_classOf_3 _ _ _ _ ⟨K54, ?_⟩
    rw [R54_28]
    refine ⟨K75, InB_nI (a := 5) (show 5 < 13 by decide) (by decide), InB_nI (a := 4) (show 4 < 13 by decide) (by decide), InB_nI (a := 3) (show 3 < 13 by decide) (by decide), InB_nI (a := 2) (show 2 < 13 by decide) (by decide), InB_nI (a := 0) (show 0 < 13 by decide) (by decide), ?_⟩
    rw [show ix (8 : Int32) = 8 from rfl, show ix (9 : Int32) = 9 from rfl, show ix (10 : Int32) = 10 from rfl, show ix (12 : Int32) = 12 from rfl, show ix (5 : Int32) = 5 from rfl, show ix (4 : Int32) = 4 from rfl, show ix (3 : Int32) = 3 from rfl, show ix (2 : Int32) = 2 from rfl, show ix (0 : Int32) = 0 from rfl, mi_sil, e8, e9, e10, e12, e5, e4, e3, e2, e0,
      show (1000 : Int32) = nI 1000 from rfl, show (100 : Int32) = nI 100 from rfl, show (10 : Int32) = nI 10 from rfl, show (10000 : Int32) = nI 10000 from rfl, nI_mul, nI_mul, nI_mul, nI_mul, nI_mul, nI_mul, nI_mul, nI_add, nI_add, nI_add, nI_add, nI_add, nI_add, nI_add]
    refine SpI.mono vb ?_
    rintro r g0 ⟨e, er⟩
    subst g0
    exact ⟨_, rfl, er, f1, rfl, fr⟩
  have count : ∀ d k (f1 : (Nat → Nat → Int32)), L.length - k = d → k ≤ L.length → Fr [57, 58, 75] f f1 → SoAt f1 (brK L k) →
      WM k_Ref_classOf p_Ref_classOf_2 [.ref 54, .ref a, .int (nI from_), .int (nI L.length), .int (if k = 0 then -1 else nI (L.getD (k - 1) 0 / 13824)), .int (nI k), Jv] [] (sil h f1 l) 0 0 (fun v g => ∃ r, v = .int r ∧ r = nI (i + 1) ∧ ∃ f', g = sil h f' l ∧ Fr [57, 58, 75] f f') := by
    intro d
    induction d with
    | zero =>
      intro k f1 hd hk fr so
      have e : k = L.length := by omega
      subst e
      exact done f1 _ fr so
    | succ d ih =>
      intro k f1 hd hk fr so
      have kl : k < L.length := by omega
      have op := ops _ (getD_mem kl)
      have cb : L.getD k 0 < 272097792 := op.1
      have ek : f1 a (from_ + k) = nI (L.getD k 0) := by rw [fr a (by simp; omega)]; exact ar k kl
      have same : ¬ (k = 0 ∨ L.getD k 0 / 13824 ≠ L.getD (k - 1) 0 / 13824) ↔ nI (L.getD k 0 / 13824) = (if k = 0 then -1 else nI (L.getD (k - 1) 0 / 13824)) := by
        by_cases q : k = 0
        · rw [if_pos q]
          constructor
          · intro w; exact absurd (Or.inl q) w
          · intro w
            have e := congrArg Int32.toInt w
            rw [nI_toI (by omega), l_m1] at e
            omega
        · have cb2 := (ops _ (getD_mem (show k - 1 < L.length by omega))).1
          have cb2 : L.getD (k - 1) 0 < 272097792 := cb2
          rw [if_neg q, nI_inj (by omega) (by omega)]
          omega
      have nk : (if k + 1 = 0 then (-1 : Int32) else nI (L.getD (k + 1 - 1) 0 / 13824)) = nI (L.getD k 0 / 13824) := if_neg (by omega)
      refine v_Ref_classOf_2 _ _ _ _ _ _ _ _ ?_
      rw [nI_toI (by omega), nI_toI (by omega), nI_add, ix_nI (by omega), mi_sil, ek, show (13824 : Int32) = nI 13824 from rfl, div_nI (by omega) (by decide) (by decide), R54_3, R54_4, nI_1]
      refine ⟨fun _ => ⟨kk f1, by rw [ll]; exact InB_nI (by omega) (by omega), fun q => ?_, fun q => ⟨K54, SpV.mono (open_ab op.1) ?_⟩⟩, fun q => absurd (by omega) q⟩
      · have := same.mpr q
        have := ih (k + 1) f1 (by omega) (by omega) fr (by rw [brK_n this]; exact so)
        rw [nk] at this
        rw [← q]; exact this
      · rintro _ ⟨f2, rfl, fr2, m, s⟩
        rw [R54_3, R54_28]
        refine ⟨K54, SpI.mono (sp_Ref_sortOf (h := sil h f2 l) (a := 57) rfl rfl m (eM_small _)) ?_⟩
        rintro r g0 ⟨e0, rfl⟩
        subst g0
        have sr := sortZ_rng op.2
        have br := brK_y (S := L) (k := k) (Classical.byContradiction fun w => q (same.mp w))
        generalize hs : sortZ (eM (L.getD k 0)) = sz at *
        have ez : (6 : Int32) + zI sz = nI (6 + sz).toNat := by
          show nI 6 + zI sz = _
          rw [nI_addZ, ← zI_nat]
          congr 1
          show (6 : Int) + sz = _
          omega
        rw [ez, ix_nI (by omega), mi_sil, fr2 75 (by decide), so sz sr.1 sr.2, nI_1]
        refine ⟨K75, InB_nI (show (6 + sz).toNat < 13 by omega) (by omega), ?_⟩
        rintro _ rfl
        rw [wi_sil]
        have := ih (k + 1) (up2 f2 75 (6 + sz).toNat (nI (cntS (brK L k) sz + 1))) (by omega) (by omega) ((fr.trans (fr2.mono (by decide))).up (by decide)) (fun s s1 s2 => by
          rw [br, cnt_add, hs]
          by_cases e : s = sz
          · subst e; rw [up2_s, if_pos rfl]
          · rw [up2_ni (by omega), if_neg (fun w => e w.symm), Nat.add_zero, fr2 75 (by decide)]; exact so s s1 s2)
        rw [nk] at this
        exact this
  have zero : ∀ d k (f1 : (Nat → Nat → Int32)), 13 - k = d → k ≤ 13 → Fr [57, 58, 75] f f1 → (∀ j, j < k → f1 75 j = nI 0) →
      WM k_Ref_classOf p_Ref_classOf_1 [.ref 54, .ref a, .int (nI from_), .int (nI L.length), .int (nI k), Jv, Jv] [] (sil h f1 l) 0 0 (fun v g => ∃ r, v = .int r ∧ r = nI (i + 1) ∧ ∃ f', g = sil h f' l ∧ Fr [57, 58, 75] f f') := by
    intro d
    induction d with
    | zero =>
      intro k f1 hd hk fr z
      refine v_Ref_classOf_1 _ _ _ _ _ _ _ ?_
      rw [nI_toI (by omega), show (13 : Int32).toInt = 13 from rfl]
      refine ⟨fun q => absurd q (by omega), fun _ => ?_⟩
      exact count _ 0 f1 rfl (Nat.zero_le _) fr (fun s s1 s2 => z _ (by omega))
    | succ d ih =>
      intro k f1 hd hk fr z
      refine v_Ref_classOf_1 _ _ _ _ _ _ _ ?_
      rw [nI_toI (by omega), show (13 : Int32).toInt = 13 from rfl, R54_28, ix_nI (by omega), nI_1]
      refine ⟨fun _ => ⟨K54, K75, InB_nI (show k < 13 by omega) (by omega), ?_⟩, fun q => absurd (by omega) q⟩
      rintro _ rfl
      rw [wi_sil]
      refine ih (k + 1) _ (by omega) (by omega) (fr.up (by decide)) (fun j hj => ?_)
      by_cases e : j = k
      · subst e; rw [up2_s]; rfl
      · rw [up2_ni e]; exact z j (by omega)
  exact v_Ref_classOf _ _ _ _ _ _ (zero _ 0 f rfl (Nat.zero_le _) Fr.refl (fun j hj => absurd hj (Nat.not_lt_zero j)))
