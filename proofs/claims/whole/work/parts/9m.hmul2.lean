/-! the class's multiples, all of them -/
def RND : Prop := ∀ (t : S6) n u, OKs t → Ev t → tT t ≤ 4400000 → Red n t u → n < 1000000
theorem i2l_n {n : Nat} (h : n < 1000) : (nI n).toInt64 = zL (n : Int) := by rw [i2l_z, nI_toI (by omega)]
def ToAt (h : MH) (x : Nat) : Prop := mr h x 0 = x + 1 ∧ kd h (x + 1) = 3
def GmP (h : MH) (l : (Nat → Nat → Int64)) (x R : Nat) (S : S6) (n p r base : Nat) (y : Int32) (g : MH) : Prop := ∃ l' M', g = sl h l' ∧ Fr [x + 3, R] l l' ∧ MulP S n p (r + 1) 0 0 0 M' ∧ M'.length ≤ base + p * p * r ∧ MulAt l' R M' ∧ y = nI M'.length
theorem sp_gather (RR : RND) {h : MH} {l : (Nat → Nat → Int64)} {x R N n p r u base : Nat} {S : S6} {M : List S6} (oks : okC S) (hm : MdAt h x R N) (to : ToAt h x) (ft : FoAt l (x + 1) (db S)) (hn : n ≤ 12) (n1 : 1 ≤ n) (hp : 0 < p) (hr : 0 < r) (e : p * r * u = n) (mp : MulP S n p r 0 0 0 M) (len : M.length ≤ base) (cap : base + p * p * r ≤ N) (ma : MulAt l R M) :
    SpI k_Cell_gatherMultiples [.ref x, .ref R, .int (nI M.length), .int (nI p), .int (nI r), .int (nI u)] (sl h l) (fun y g => GmP h l x R S n p r base y g) := by
  have hm0 := hm
  obtain ⟨h1, h2, h3, h4, h5, h6, h7⟩ := hm
  have u0 : 0 < u := by
    rcases Nat.eq_zero_or_pos u with z | z
    · rw [z, Nat.mul_zero] at e; omega
    · exact z
  have pl : p ≤ n := by
    rw [← e, Nat.mul_assoc]
    exact Nat.le_mul_of_pos_right p (Nat.mul_pos hr u0)
  have rl : r ≤ n := by
    rw [← e, Nat.mul_comm p r, Nat.mul_assoc]
    exact Nat.le_mul_of_pos_right r (Nat.mul_pos hp u0)
  have ul : u ≤ n := by
    rw [← e, Nat.mul_comm]
    exact Nat.le_mul_of_pos_right u (Nat.mul_pos hp hr)
  have z0 : (0 : Int64) = zL ((0 : Nat) : Int) := rfl
  have N13 : x + 1 ∉ [x + 3, R] := fun q => by
    simp only [List.mem_cons, List.not_mem_nil, or_false] at q
    omega
  let Rt : Value → MH → Prop := fun v g => ∃ y, v = .int y ∧ GmP h l x R S n p r base y g
  have pos2 : p * p * r = p * (p * r) := Nat.mul_assoc p p r
  -- q, then s, then t
  have lq : ∀ d q (l1 : (Nat → Nat → Int64)) (M : List S6), p - q = d → q ≤ p → Fr [x + 3, R] l l1 → MulP S n p r q 0 0 M → M.length ≤ base + q * (p * r) → MulAt l1 R M → WM k_Cell_gatherMultiples p_Cell_gatherMultiples_1 [.ref x, .ref R, Jv, .int (nI p), .int (nI r), .int (nI u), .int (nI M.length), .int (nI q), Jv, Jv] [] (sl h l1) 0 0 Rt := by
    intro d
    induction d with
    | zero =>
      intro q l1 M hd hq fr mp len ma
      have eq : q = p := by omega
      subst eq
      refine v_Cell_gatherMultiples_1 _ _ _ _ _ _ _ _ _ ⟨fun w => absurd w (by omega), fun _ => ⟨_, rfl, l1, M, rfl, fr, mp.nq, by rw [pos2]; exact len, ma, rfl⟩⟩
    | succ d ih =>
      intro q l1 M hd hq fr mp len ma
      have ql : q < p := by omega
      have qN : q * (p * r) + p * r ≤ p * p * r := by
        rw [pos2, ← Nat.succ_mul]
        exact Nat.mul_le_mul_right _ (by omega)
      refine v_Cell_gatherMultiples_1 _ _ _ _ _ _ _ _ _ ⟨fun _ => ?_, fun w => absurd (by rw [nI_toI (by omega), nI_toI (by omega)]; omega) w⟩
      have ls : ∀ d s (l1 : (Nat → Nat → Int64)) (M : List S6), p - s = d → s ≤ p → Fr [x + 3, R] l l1 → MulP S n p r q s 0 M → M.length ≤ base + q * (p * r) + s * r → MulAt l1 R M → WM k_Cell_gatherMultiples p_Cell_gatherMultiples_2 [.ref x, .ref R, Jv, .int (nI p), .int (nI r), .int (nI u), .int (nI M.length), .int (nI q), .int (nI s), Jv] [] (sl h l1) 0 0 Rt := by
        intro d
        induction d with
        | zero =>
          intro s l1 M hd hs fr mp len ma
          have es : s = p := by omega
          subst es
          refine v_Cell_gatherMultiples_2 _ _ _ _ _ _ _ _ _ _ ⟨fun w => absurd w (by omega), fun _ => ?_⟩
          rw [nI_1]
          exact ih (q + 1) l1 M (by omega) (by omega) fr mp.ns (by rw [Nat.succ_mul]; omega) ma
        | succ d ihs =>
          intro s l1 M hd hs fr mp len ma
          have sl' : s < p := by omega
          have sN : s * r + r ≤ p * r := by
            rw [← Nat.succ_mul]
            exact Nat.mul_le_mul_right _ (by omega)
          refine v_Cell_gatherMultiples_2 _ _ _ _ _ _ _ _ _ _ ⟨fun _ => ?_, fun w => absurd (by rw [nI_toI (by omega), nI_toI (by omega)]; omega) w⟩
          have lt : ∀ d t (l1 : (Nat → Nat → Int64)) (M : List S6), r - t = d → t ≤ r → Fr [x + 3, R] l l1 → MulP S n p r q s t M → M.length ≤ base + q * (p * r) + s * r + t → MulAt l1 R M → WM k_Cell_gatherMultiples p_Cell_gatherMultiples_3 [.ref x, .ref R, Jv, .int (nI p), .int (nI r), .int (nI u), .int (nI M.length), .int (nI q), .int (nI s), .int (nI t)] [] (sl h l1) 0 0 Rt := by
            intro d
            induction d with
            | zero =>
              intro t l1 M hd ht fr mp len ma
              have et : t = r := by omega
              subst et
              refine v_Cell_gatherMultiples_3 _ _ _ _ _ _ _ _ _ _ _ ⟨fun w => absurd w (by omega), fun _ => ?_⟩
              rw [nI_1]
              exact ihs (s + 1) l1 M (by omega) (by omega) fr mp.nt (by rw [Nat.succ_mul]; omega) ma
            | succ d iht =>
              intro t l1 M hd ht fr mp len ma
              have tl : t < r := by omega
              have hf' : HnF n p q r s t u := ⟨hp, hr, e, ql, sl', tl⟩
              have OK := mul_OK (s := S) oks (p := p) (q := q) (r := r) (s' := s) (t := t) (u := u) (by omega) (by omega) (by omega)
              have T := mul_T oks hn n1 hf'
              obtain ⟨k, v, rd⟩ := red_ex _ ⟨OK, by omega⟩
              have rn := RR _ _ _ OK (Ev_db _) T rd
              have kk := rd.k OK
              have evv := kk.2.2.1 (Ev_db _)
              have vb : S6b (hf v) := hf_abT kk.1 (by omega)
              have ft1 : FoAt l1 (x + 1) (db S) := ft.fr (fr _ N13)
              refine v_Cell_gatherMultiples_3 _ _ _ _ _ _ _ _ _ _ _ ⟨fun _ => ⟨h1, ?_⟩, fun w => absurd (by rw [nI_toI (by omega), nI_toI (by omega)]; omega) w⟩
              rw [sl_mr, to.1, i2l_n (n := p) (by omega), i2l_n (n := q) (by omega), i2l_n (n := r) (by omega), i2l_n (n := s) (by omega), i2l_n (n := t) (by omega), i2l_n (n := u) (by omega), z0]
              refine ⟨to.2, SpL.mono (fo_square (h := sl h l1) (s := S) to.2 ft1 _ _ _) ?_⟩
              rintro _ _ ⟨rfl, rfl⟩
              rw [sl_mr, to.1]
              refine ⟨h1, to.2, SpL.mono (fo_square (h := sl h l1) (s := S) to.2 ft1 _ _ _) ?_⟩
              rintro _ _ ⟨rfl, rfl⟩
              rw [sl_mr, to.1]
              refine ⟨h1, to.2, SpL.mono (fo_square (h := sl h l1) (s := S) to.2 ft1 _ _ _) ?_⟩
              rintro _ _ ⟨rfl, rfl⟩
              rw [sl_mr, to.1]
              refine ⟨h1, to.2, SpL.mono (fo_twice (h := sl h l1) (s := S) to.2 ft1 _ _ _ _ _ _) ?_⟩
              rintro _ _ ⟨rfl, rfl⟩
              rw [sl_mr, to.1]
              refine ⟨h1, to.2, SpL.mono (fo_twice (h := sl h l1) (s := S) to.2 ft1 _ _ _ _ _ _) ?_⟩
              rintro _ _ ⟨rfl, rfl⟩
              rw [sl_mr, to.1]
              refine ⟨h1, to.2, SpL.mono (fo_twice (h := sl h l1) (s := S) to.2 ft1 _ _ _ _ _ _) ?_⟩
              rintro _ _ ⟨rfl, rfl⟩
              rw [h2]
              refine ⟨h3, SpV.mono (fo_set h3 _ _ _ _ _ _) ?_⟩
              rintro _ ⟨l2, rfl, fr2, ft2⟩
              have ft2 : FoAt l2 (x + 3) (db (mulF S p q r s t u)) := ft2
              refine v_Cell_gatherMultiples_4 _ _ _ _ _ _ _ _ _ _ _ ⟨h1, ?_⟩
              rw [sl_mr, h2]
              refine ⟨h3, SpV.mono (sp_Form_reduce h3 rd OK (by omega) rn ft2) ?_⟩
              rintro _ ⟨l3, rfl, fr3, ft3⟩
              have ft3' : FoAt l3 (x + 3) (db (hf v)) := by rw [db_hf evv]; exact ft3
              have nR : R ∉ [x + 3] := fun q => by have := List.mem_singleton.mp q; omega
              have ma3 : MulAt l3 R M := by
                unfold MulAt
                rw [fr3 R nR, fr2 R nR]
                exact ma
              have f3 : Fr [x + 3, R] l l3 := (fr.trans (fr2.mono (fun a ha => by rw [List.mem_singleton.mp ha]; exact List.mem_cons_self))).trans (fr3.mono (fun a ha => by rw [List.mem_singleton.mp ha]; exact List.mem_cons_self))
              refine ⟨h1, SpI.mono (sp_putMade hm0 ft3' vb ma3 (by omega) (mp.b oks hn n1) mp.1) ?_⟩
              rintro _ _ ⟨l4, M', rfl, fr4, ma4, pw4, mem4, len4, rfl⟩
              rw [nI_1]
              exact iht (t + 1) l4 M' (by omega) (by omega) (f3.trans (fr4.mono (fun a ha => by rw [List.mem_singleton.mp ha]; exact List.mem_cons_of_mem _ List.mem_cons_self))) (mp.add hf' rd pw4 mem4) (by omega) ma4
          exact lt _ 0 l1 M rfl (Nat.zero_le _) fr mp (by omega) ma
      exact ls _ 0 l1 M rfl (Nat.zero_le _) fr mp (by omega) ma
  exact v_Cell_gatherMultiples _ _ _ _ _ _ _ _ (lq _ 0 l M rfl (Nat.zero_le _) Fr.refl mp (by omega) ma)
