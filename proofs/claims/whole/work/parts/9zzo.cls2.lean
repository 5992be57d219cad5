/-! the classes: every group has one -/
theorem tau_w (k : Nat) : tau (wK k) = dK k 6561 + dK k 81 + dK k 1 := by
  show wK k % 64 + wK k / 16777216 % 64 + wK k / 281474976710656 = _
  rw [wK_e]
  have h0 := dK_le k 6561; have h1 := dK_le k 2187; have h2 := dK_le k 729; have h3 := dK_le k 243; have h4 := dK_le k 81; have h5 := dK_le k 27; have h6 := dK_le k 9; have h7 := dK_le k 3; have h8 := dK_le k 1
  omega
theorem tau_t (k : Nat) : (tau (wK k) : Int) = tr9 (eM (13824 * k)) + 3 := by
  obtain ⟨⟨p0, _, _⟩, ⟨_, p4, _⟩, _, _, p8⟩ := eM_k k
  unfold tr9
  rw [tau_w, p0, p4, p8]
  omega
/-- the sort by the trace -/
def srtT (t : Nat) : Int := if t = 6 then 1 else if t = 2 then 2 else if t = 3 then 3 else if t = 4 then 4 else if t = 5 then 6 else 0
def szD (D T : Int) : Int := if D * T = 3 then D else if D * T = -1 then 2 * D else if D * T = 0 then 3 * D else if D * T = 1 then 4 * D else if D * T = 2 then 6 * D else 0
theorem szD_p {T : Int} : szD 1 T = (if T = 3 then 1 else if T = -1 then 2 else if T = 0 then 3 else if T = 1 then 4 else if T = 2 then 6 else 0) := by
  unfold szD
  rw [Int.one_mul]
  rfl
theorem szD_n {T : Int} : szD (-1) T = -(if T = -3 then 1 else if T = 1 then 2 else if T = 0 then 3 else if T = -1 then 4 else if T = -2 then 6 else 0) := by
  unfold szD
  rw [show (-1 : Int) * T = -T by omega]
  (repeat' split) <;> omega
theorem srtT_v {t : Nat} : srtT t = (if t = 6 then 1 else if t = 2 then 2 else if t = 3 then 3 else if t = 4 then 4 else if t = 5 then 6 else 0) := rfl
theorem core_p {D T : Int} {n t : Nat} (e : (n : Int) = T + 3) (ht : 2 ≤ t ∧ t ≤ 6) (hD : D = 1 ∨ D = -1) : szD D T = srtT t ↔ D = 1 ∧ n = t := by
  rcases hD with rfl | rfl
  · rw [szD_p, srtT_v]
    constructor
    · intro h
      refine ⟨rfl, ?_⟩
      revert h
      (repeat' split) <;> omega
    · rintro ⟨_, rfl⟩
      (repeat' split) <;> omega
  · rw [szD_n, srtT_v]
    constructor
    · intro h
      exfalso
      revert h
      (repeat' split) <;> omega
    · rintro ⟨h, _⟩
      exact absurd h (by decide)
theorem core_n {D T : Int} {n t : Nat} (e : (n : Int) = -T + 3) (ht : 2 ≤ t ∧ t ≤ 6) (hD : D = 1 ∨ D = -1) : szD D T = -srtT t ↔ -D = 1 ∧ n = t := by
  rcases hD with rfl | rfl
  · rw [szD_p, srtT_v]
    constructor
    · intro h
      exfalso
      revert h
      (repeat' split) <;> omega
    · rintro ⟨h, _⟩
      exact absurd h (by decide)
  · rw [szD_n, srtT_v]
    constructor
    · intro h
      refine ⟨rfl, ?_⟩
      revert h
      (repeat' split) <;> omega
    · rintro ⟨_, rfl⟩
      (repeat' split) <;> omega
theorem sort_p {k t : Nat} (ht : 2 ≤ t ∧ t ≤ 6) (hd : dtK k = 1 ∨ dtK k = -1) : sortZ (eM (13824 * k)) = srtT t ↔ dtK k = 1 ∧ tau (wK k) = t := core_p (D := dtK k) (T := tr9 (eM (13824 * k))) (tau_t k) ht hd
theorem sort_n {k t : Nat} (ht : 2 ≤ t ∧ t ≤ 6) (hk : k < 19683) (hd : dtK k = 1 ∨ dtK k = -1) : sortZ (eM (13824 * k)) = -srtT t ↔ dtK (19682 - k) = 1 ∧ tau (wK (19682 - k)) = t := by
  have e := tau_t (19682 - k)
  rw [tr_neg (ng_e hk)] at e
  rw [dt_ng hk]
  exact core_n (D := dtK k) (T := tr9 (eM (13824 * k))) e ht hd
theorem cnT_l {t : Nat} : ∀ (L : List Nat), cnT t L = (L.filter fun x => decide (tau x = t)).length
  | [] => rfl
  | x :: l => by
    rw [cnT]
    by_cases e : tau x = t
    · rw [show Nat.beq (tau x) t = true from by rw [e]; exact Nat.beq_refl t, cond_true, List.filter_cons_of_pos (by rw [decide_eq_true_iff]; exact e), List.length_cons, cnT_l]
    · rw [show Nat.beq (tau x) t = false from by
        cases q : Nat.beq (tau x) t with
        | false => rfl
        | true => exact absurd (Nat.eq_of_beq_eq_true q) e, cond_false, List.filter_cons_of_neg (by rw [decide_eq_true_iff]; exact e), cnT_l]
theorem cnT_eq {t : Nat} {L M : List Nat} (h1 : L.Nodup) (h2 : M.Nodup) (h : ∀ x, x ∈ L ↔ x ∈ M) : cnT t L = cnT t M := by
  rw [cnT_l, cnT_l]
  exact len_eq (h1.filter _) (h2.filter _) (fun x => by rw [List.mem_filter, List.mem_filter, h x])
theorem cnT_app {t : Nat} : ∀ (L M : List Nat), cnT t (L ++ M) = cnT t L + cnT t M := fun L M => by
  rw [cnT_l, cnT_l, cnT_l, List.filter_append, List.length_append]
theorem cnT_le {t : Nat} (L : List Nat) : cnT t L ≤ L.length := by rw [cnT_l]; exact List.length_filter_le _ _
theorem cnT_0 {t : Nat} {L : List Nat} (h : ∀ x ∈ L, tau x ≠ t) : cnT t L = 0 := by
  rw [cnT_l, List.length_eq_zero_iff, List.filter_eq_nil_iff]
  intro x hx
  rw [decide_eq_true_iff]
  exact h x hx
theorem len5 : ∀ (L : List Nat), (∀ x ∈ L, 2 ≤ tau x ∧ tau x ≤ 6) → L.length = cnT 2 L + cnT 3 L + cnT 4 L + cnT 5 L + cnT 6 L
  | [], _ => rfl
  | x :: l, h => by
    have ih := len5 l (fun y hy => h y (List.mem_cons_of_mem _ hy))
    have hx := h x List.mem_cons_self
    have c : ∀ t, cnT t (x :: l) = cnT t l + if tau x = t then 1 else 0 := fun t => by
      have := cnT_app (t := t) [x] l
      have e : cnT t [x] = if tau x = t then 1 else 0 := by
        rw [cnT_l]
        by_cases e : tau x = t
        · rw [if_pos e, List.filter_cons_of_pos (by rw [decide_eq_true_iff]; exact e)]; rfl
        · rw [if_neg e, List.filter_cons_of_neg (by rw [decide_eq_true_iff]; exact e)]; rfl
      rw [e] at this
      have t2 : cnT t (x :: l) = (if tau x = t then 1 else 0) + cnT t l := this
      omega
    rw [List.length_cons, c, c, c, c, c, ih]
    have : tau x = 2 ∨ tau x = 3 ∨ tau x = 4 ∨ tau x = 5 ∨ tau x = 6 := by omega
    rcases this with e | e | e | e | e <;> simp [e] <;> omega
def chkR : List Nat → Bool
  | [] => true
  | k :: l => and (and (and (Nat.ble 2 (tau (wK k))) (Nat.ble (tau (wK k)) 6)) (and (or (not (Nat.beq (tau (wK k)) 6)) (Nat.beq k 16484)) (or (not (Nat.beq (tau (wK k)) 3)) (Nat.beq (lsb (lz (eKk k) (lsb (lz (eKk k) (wK k))))) (wK 16484))))) (chkR l)
set_option maxRecDepth 100000 in
theorem chk_R : chkR rcL = true := by decide +kernel
theorem chkR_s : ∀ {l : List Nat}, chkR l = true → ∀ k ∈ l, (2 ≤ tau (wK k) ∧ tau (wK k) ≤ 6) ∧ (tau (wK k) = 6 → k = 16484) ∧ (tau (wK k) = 3 → lsb (lz (eKk k) (lsb (lz (eKk k) (wK k)))) = wK 16484)
  | [], _, k, hk => absurd hk List.not_mem_nil
  | a :: l, h, k, hk => by
    rw [chkR, Bool.and_eq_true] at h
    rcases List.mem_cons.mp hk with e | e
    · have h1 := h.1
      rw [Bool.and_eq_true, Bool.and_eq_true, Bool.and_eq_true, Bool.or_eq_true, Bool.or_eq_true] at h1
      subst e
      obtain ⟨⟨a1, a2⟩, a3, a4⟩ := h1
      refine ⟨⟨Nat.ble_eq.mp a1, Nat.ble_eq.mp a2⟩, fun q => a3.elim (fun w => ?_) (fun w => Nat.eq_of_beq_eq_true w), fun q => a4.elim (fun w => ?_) (fun w => Nat.eq_of_beq_eq_true w)⟩
      · rw [q] at w; exact absurd w (by decide)
      · rw [q] at w; exact absurd w (by decide)
    · exact chkR_s h.2 k e
def v11 : List (List Nat) := [[0, 0, 0, 0], [0, 2, 0, 0], [3, 2, 0, 0], [9, 8, 6, 0], [3, 8, 0, 0], [1, 0, 0, 0], [5, 0, 2, 0], [3, 0, 0, 0], [1, 0, 2, 0], [7, 2, 0, 2], [1, 2, 0, 2]]
def vc4 (L : List Nat) : List Nat := [cnT 2 L, cnT 3 L, cnT 4 L, cnT 5 L]
theorem key_v {L : List Nat} (hl : L.length < 1000) (h : key4 L ∈ k11) : vc4 L ∈ v11 := by
  have a := Nat.lt_of_le_of_lt (cnT_le (t := 2) L) hl
  have b := Nat.lt_of_le_of_lt (cnT_le (t := 3) L) hl
  have c := Nat.lt_of_le_of_lt (cnT_le (t := 4) L) hl
  have d := Nat.lt_of_le_of_lt (cnT_le (t := 5) L) hl
  have h : 1000000000 * cnT 2 L + 1000000 * cnT 3 L + (1000 * cnT 4 L + cnT 5 L) ∈ k11 := h
  unfold vc4
  generalize cnT 2 L = x at *
  generalize cnT 3 L = y at *
  generalize cnT 4 L = z at *
  generalize cnT 5 L = u at *
  simp only [k11, List.mem_cons, List.not_mem_nil, or_false] at h
  have g : ∀ x' y' z' u', 1000000000 * x + 1000000 * y + (1000 * z + u) = 1000000000 * x' + 1000000 * y' + (1000 * z' + u') → x' < 1000 → y' < 1000 → z' < 1000 → u' < 1000 → [x', y', z', u'] ∈ v11 → [x, y, z, u] ∈ v11 := fun x' y' z' u' e h1 h2 h3 h4 m => by
    have e1 : x = x' := by omega
    have e2 : y = y' := by omega
    have e3 : z = z' := by omega
    have e4 : u = u' := by omega
    rw [e1, e2, e3, e4]; exact m
  rcases h with h | h | h | h | h | h | h | h | h | h | h
  · exact g 0 0 0 0 (by omega) (by decide) (by decide) (by decide) (by decide) (by decide)
  · exact g 0 2 0 0 (by omega) (by decide) (by decide) (by decide) (by decide) (by decide)
  · exact g 3 2 0 0 (by omega) (by decide) (by decide) (by decide) (by decide) (by decide)
  · exact g 9 8 6 0 (by omega) (by decide) (by decide) (by decide) (by decide) (by decide)
  · exact g 3 8 0 0 (by omega) (by decide) (by decide) (by decide) (by decide) (by decide)
  · exact g 1 0 0 0 (by omega) (by decide) (by decide) (by decide) (by decide) (by decide)
  · exact g 5 0 2 0 (by omega) (by decide) (by decide) (by decide) (by decide) (by decide)
  · exact g 3 0 0 0 (by omega) (by decide) (by decide) (by decide) (by decide) (by decide)
  · exact g 1 0 2 0 (by omega) (by decide) (by decide) (by decide) (by decide) (by decide)
  · exact g 7 2 0 2 (by omega) (by decide) (by decide) (by decide) (by decide) (by decide)
  · exact g 1 2 0 2 (by omega) (by decide) (by decide) (by decide) (by decide) (by decide)
theorem row0 : ∀ v ∈ v11, ∃ i ∈ List.range 32, clT.getD i [] = v ++ [0, 0, 0, 0, 0] := by decide
theorem row1 : ∀ v ∈ v11, ∃ i ∈ List.range 32, clT.getD i [] = v ++ (1 :: v) := by decide
theorem row2 : ∀ v ∈ v11, ∀ w ∈ v11, (v.getD 0 0 ≤ w.getD 0 0 ∧ v.getD 1 0 = w.getD 1 0 ∧ v.getD 2 0 ≤ w.getD 2 0 ∧ v.getD 3 0 ≤ w.getD 3 0) → 1 + w.getD 0 0 + w.getD 1 0 + w.getD 2 0 + w.getD 3 0 = 2 * (1 + v.getD 0 0 + v.getD 1 0 + v.getD 2 0 + v.getD 3 0) → ∃ i ∈ List.range 32, clT.getD i [] = v ++ [0, w.getD 0 0 - v.getD 0 0, w.getD 1 0 - v.getD 1 0, w.getD 2 0 - v.getD 2 0, w.getD 3 0 - v.getD 3 0] := by decide
