/-! the reference reads a text -/
def RCP (T : Nat → Int32) (n : Nat) (f : (Nat → Nat → Int32)) (p : Nat) (M S : Nat → Int) : Prop := f 62 = T ∧ f 54 9 = nI n ∧ f 54 12 = nI p ∧ (∀ j, j < 9 → f 95 j = zI (M j)) ∧ ∀ j, j < 3 → f 96 j = zI (S j)
def FQ (f f' : (Nat → Nat → Int32)) : Prop := Fr [54, 95, 96] f f' ∧ ∀ j, j ≠ 9 → j ≠ 10 → j ≠ 11 → j ≠ 12 → f' 54 j = f 54 j
def RR (T : Nat → Int32) (n : Nat) (f0 f : (Nat → Nat → Int32)) (r : Int32) (res : PRs) : Prop := FQ f0 f ∧ match res with
  | .ok q => r = 1 ∧ RCP T n f q.1 q.2.1 q.2.2 ∧ f 54 10 = f0 54 10 ∧ f 54 11 = f0 54 11
  | .error e => r = 0 ∧ f 54 10 = nI e.1 ∧ f 54 11 = nI e.2
theorem FQ.refl {f : (Nat → Nat → Int32)} : FQ f f := ⟨Fr.refl, fun _ _ _ _ _ => rfl⟩
theorem FQ.trans {f g k : (Nat → Nat → Int32)} (a : FQ f g) (b : FQ g k) : FQ f k := ⟨a.1.trans b.1, fun j h1 h2 h3 h4 => (b.2 j h1 h2 h3 h4).trans (a.2 j h1 h2 h3 h4)⟩
theorem FQ.up {f g : (Nat → Nat → Int32)} {i : Nat} {x : Int32} (a : FQ f g) (hi : i = 9 ∨ i = 10 ∨ i = 11 ∨ i = 12) : FQ f (up2 g 54 i x) := ⟨a.1.up (by decide), fun j h1 h2 h3 h4 => by rw [up2_ni (by omega)]; exact a.2 j h1 h2 h3 h4⟩
theorem FQ.up5 {f g : (Nat → Nat → Int32)} {i : Nat} {x : Int32} (a : FQ f g) : FQ f (up2 g 95 i x) := ⟨a.1.up (by decide), fun j h1 h2 h3 h4 => by rw [up2_ne (by decide)]; exact a.2 j h1 h2 h3 h4⟩
theorem FQ.up6 {f g : (Nat → Nat → Int32)} {i : Nat} {x : Int32} (a : FQ f g) : FQ f (up2 g 96 i x) := ⟨a.1.up (by decide), fun j h1 h2 h3 h4 => by rw [up2_ne (by decide)]; exact a.2 j h1 h2 h3 h4⟩
theorem RCP.at {T : Nat → Int32} {n p q : Nat} {f : (Nat → Nat → Int32)} {M S : Nat → Int} (h : RCP T n f p M S) : RCP T n (up2 f 54 12 (nI q)) q M S := by
  obtain ⟨h1, h2, h3, h5, h6⟩ := h
  refine ⟨?_, ?_, up2_s, fun j hj => ?_, fun j hj => ?_⟩
  · rw [up2_row (by decide)]; exact h1
  · rw [up2_ni (by decide)]; exact h2
  · rw [up2_ne (by decide)]; exact h5 j hj
  · rw [up2_ne (by decide)]; exact h6 j hj
theorem r_byteAt {h : MH} {f : (Nat → Nat → Int32)} {l : (Nat → Nat → Int64)} {n p : Nat} (h2 : f 54 9 = nI n) (hn : n ≤ 100) (hp : p ≤ 1000) : SpI k_Ref_byteAt [.ref 54, .int (nI p)] (sil h f l) (fun r g => g = sil h f l ∧ r = bt (f 62) n p) := by
  refine v_Ref_byteAt _ _ _ _ ⟨K54, ?_⟩
  rw [mi_sil, h2, nI_toI (by omega), nI_toI (by omega), R54_8, ix_nI (by omega)]
  refine ⟨fun c => ⟨K62, InB_nI (show p < 100 by omega) (by omega), _, rfl, rfl, ?_⟩, fun c => ⟨_, rfl, rfl, ?_⟩⟩
  · rw [bt_lt (by omega)]
  · rw [bt_ge (by omega)]
theorem r_next {h : MH} {f : (Nat → Nat → Int32)} {l : (Nat → Nat → Int64)} {n p : Nat} (h2 : f 54 9 = nI n) (h3 : f 54 12 = nI p) (hn : n ≤ 100) (hp : p ≤ 900) : SpI k_Ref_next [.ref 54] (sil h f l) (fun r g => r = bt (f 62) n (sk (f 62) n p) ∧ g = sil h (up2 f 54 12 (nI (sk (f 62) n p))) l) := by
  have main : ∀ q : Nat, q ≤ 900 → WM k_Ref_next p_Ref_next_1 [.ref 54] [] (sil h (up2 f 54 12 (nI q)) l) 0 0 (fun v g => ∃ r, v = .int r ∧ r = bt (f 62) n (sk (f 62) n q) ∧ g = sil h (up2 f 54 12 (nI (sk (f 62) n q))) l) := by
    refine sk_ind (T := f 62) (n := n) (fun q => q ≤ 900 → WM k_Ref_next p_Ref_next_1 [.ref 54] [] (sil h (up2 f 54 12 (nI q)) l) 0 0 (fun v g => ∃ r, v = .int r ∧ r = bt (f 62) n (sk (f 62) n q) ∧ g = sil h (up2 f 54 12 (nI (sk (f 62) n q))) l)) ?_ ?_
    · intro q hb hq
      have k9 : up2 f 54 12 (nI q) 54 9 = nI n := by rw [up2_ni (by decide)]; exact h2
      have k62 : up2 f 54 12 (nI q) 62 = f 62 := up2_row (by decide)
      refine v_Ref_next_1 _ _ _ ⟨K54, ?_⟩
      rw [mi_sil, up2_s]
      refine SpI.mono (r_byteAt k9 hn (by omega)) ?_
      rw [k62]
      rintro r g ⟨e, er⟩
      subst g er
      refine ⟨fun w => absurd w hb, fun _ => ⟨K54, ?_⟩⟩
      rw [mi_sil, up2_s]
      refine SpI.mono (r_byteAt k9 hn (by omega)) ?_
      rw [k62]
      rintro r g ⟨e, er⟩
      subst g er
      rw [sk_no hb]
      exact ⟨_, rfl, rfl, rfl⟩
    · intro q hb hq ih hq2
      have k9 : up2 f 54 12 (nI q) 54 9 = nI n := by rw [up2_ni (by decide)]; exact h2
      have k62 : up2 f 54 12 (nI q) 62 = f 62 := up2_row (by decide)
      refine v_Ref_next_1 _ _ _ ⟨K54, ?_⟩
      rw [mi_sil, up2_s]
      refine SpI.mono (r_byteAt k9 hn (by omega)) ?_
      rw [k62]
      rintro r g ⟨e, er⟩
      subst g er
      refine ⟨fun _ => ⟨K54, ?_⟩, fun w => absurd hb w⟩
      rintro _ rfl
      rw [mi_sil, up2_s, nI_1, wi_sil, up2_same, sk_sp hb]
      exact ih (by omega)
  refine v_Ref_next _ _ _ ⟨K54, ?_⟩
  rw [mi_sil, h3]
  refine SpI.mono (r_byteAt h2 hn (by omega)) ?_
  rintro r g ⟨e, er⟩
  subst g er
  refine ⟨fun hb => ⟨K54, ?_⟩, fun hb => ⟨K54, ?_⟩⟩
  · have := bt_32 hb
    rintro _ rfl
    rw [mi_sil, h3, nI_1, wi_sil, sk_sp hb]
    exact main (p + 1) (by omega)
  · rw [mi_sil, h3]
    refine SpI.mono (r_byteAt h2 hn (by omega)) ?_
    rintro r g ⟨e, er⟩
    subst g er
    rw [sk_no hb, up2_self h3]
    exact ⟨_, rfl, rfl, rfl⟩
theorem r_isDigit {h : MH} (x : Int32) : SpI k_Ref_isDigit [.int x] h (fun r g => g = h ∧ ((r = 1 ∧ dg x) ∨ (r = 0 ∧ ¬ dg x))) := by
  have t1 : (48 : Int32).toInt = 48 := rfl
  have t2 : (57 : Int32).toInt = 57 := rfl
  refine v_Ref_isDigit _ _ _ ?_
  rw [t1, t2]
  unfold dg
  exact ⟨fun w => ⟨_, rfl, rfl, Or.inr ⟨rfl, by omega⟩⟩, fun w1 => ⟨fun w => ⟨_, rfl, rfl, Or.inr ⟨rfl, by omega⟩⟩, fun w2 => ⟨_, rfl, rfl, Or.inl ⟨rfl, by omega⟩⟩⟩⟩
theorem r_numberHere {h : MH} {f : (Nat → Nat → Int32)} {l : (Nat → Nat → Int64)} {n p : Nat} (h2 : f 54 9 = nI n) (h3 : f 54 12 = nI p) (hn : n ≤ 100) (hd : dg (bt (f 62) n p)) : SpI k_Ref_numberHere [.ref 54] (sil h f l) (fun r g => r = nI (nmF (f 62) n p).1 ∧ g = sil h (up2 f 54 12 (nI (nmF (f 62) n p).2)) l) := by
  have hp := bt_dg hd
  have k9 : up2 f 54 12 (nI (p + 1)) 54 9 = nI n := by rw [up2_ni (by decide)]; exact h2
  have k62 : up2 f 54 12 (nI (p + 1)) 62 = f 62 := up2_row (by decide)
  have e1 : bt (f 62) n p - 48 = nI (dv (bt (f 62) n p)) := by
    rw [show (48 : Int32) = zI 48 from rfl]
    conv => lhs; rw [dv_z hd]
    rw [zI_sub, ← zI_nat]
    congr 1
    omega
  refine v_Ref_numberHere _ _ _ ⟨K54, ?_⟩
  rw [mi_sil, h3]
  refine SpI.mono (r_byteAt h2 hn (by omega)) ?_
  rintro r g ⟨e, er⟩
  subst g er
  refine ⟨K54, ?_⟩
  rintro _ rfl
  rw [mi_sil, h3, nI_1, wi_sil, mi_sil, up2_s, e1]
  refine SpI.mono (r_byteAt k9 hn (by omega)) ?_
  rw [k62]
  rintro r g ⟨e, er⟩
  subst g er
  refine SpI.mono (r_isDigit _) ?_
  rintro r g ⟨e, (⟨rfl, d2⟩ | ⟨rfl, d2⟩)⟩ <;> subst g
  · refine ⟨fun w => absurd w (by decide), fun _ => ⟨K54, ?_⟩⟩
    rw [mi_sil, up2_s]
    refine SpI.mono (r_byteAt k9 hn (by omega)) ?_
    rw [k62]
    rintro r g ⟨e, er⟩
    subst g er
    refine ⟨K54, ?_⟩
    rintro _ rfl
    rw [mi_sil, up2_s, nI_1, wi_sil, up2_same, nmF_1 d2]
    refine ⟨_, rfl, ?_, rfl⟩
    rw [show (10 : Int32) = nI 10 from rfl, nI_mul, show (48 : Int32) = zI 48 from rfl]
    conv => lhs; rw [dv_z d2]
    rw [nI_addZ, zI_sub, ← zI_nat]
    congr 1
    omega
  · refine ⟨fun _ => ⟨_, rfl, ?_⟩, fun w => absurd rfl w⟩
    rw [nmF_0 d2]
    exact ⟨rfl, rfl⟩
theorem r_wrongE {h : MH} {f0 f : (Nat → Nat → Int32)} {l : (Nat → Nat → Int64)} {T : Nat → Int32} {n : Nat} (F : FQ f0 f) (k q : Nat) : SpI k_Ref_wrong [.ref 54, .int (nI k), .int (nI q)] (sil h f l) (fun r g => (r = 0 ∨ r = 1) ∧ ∃ v, Value.int r = .int v ∧ ∃ f', g = sil h f' l ∧ RR T n f0 f' v (.error (k, q))) := by
  refine SpI.mono (sp_Ref_wrong _ _) ?_
  rintro r g ⟨er, e⟩
  subst g er
  exact ⟨Or.inl rfl, _, rfl, _, rfl, (F.up (by decide)).up (by decide), rfl, by rw [up2_ni (by decide), up2_s], up2_s⟩
set_option maxRecDepth 10000 in
theorem r_term {h : MH} {f : (Nat → Nat → Int32)} {l : (Nat → Nat → Int64)} {T : Nat → Int32} {n p i : Nat} {s : Int} {M S : Nat → Int} (hc : RCP T n f p M S) (hS : sOK S) (hn : n ≤ 100) (hp : p ≤ 101) (hi : i < 3) (hs : s = 1 ∨ s = -1) :
    SpI k_Ref_term [.ref 54, .int (nI i), .int (zI s)] (sil h f l) (fun r g => ∃ f', g = sil h f' l ∧ RR T n f f' r (tmF T n i s p M S)) := by
  have hc0 := hc
  obtain ⟨h1, h2, h3, h5, h6⟩ := hc
  have t1 : (120 : Int32).toInt = 120 := rfl
  have t2 : (122 : Int32).toInt = 122 := rfl
  have t3 : (121 : Int32).toInt = 121 := rfl
  refine v_Ref_term _ _ _ _ _ ⟨K54, SpI.mono (r_next h2 h3 hn (by omega)) ?_⟩
  rw [h1]
  rintro r g ⟨er, e⟩
  subst g er
  have g1 : sk T n p ≤ 101 := sk_le p (by omega) hp
  generalize hk : sk T n p = q at g1 ⊢
  have c1 := hc0.at (q := q)
  have F1 : FQ f (up2 f 54 12 (nI q)) := FQ.refl.up (by decide)
  have letter : (bt T n q = 120 ∨ bt T n q = 121 ∨ bt T n q = 122) → WM k_Ref_term p_Ref_term_1 [.ref 54, .int (nI i), .int (zI s), .int (bt T n q), Jv, Jv, Jv] [] (sil h (up2 f 54 12 (nI q)) l) 0 0 (fun v g => ∃ r, v = .int r ∧ ∃ f', g = sil h f' l ∧ RR T n f f' r (tmF T n i s p M S)) := by
    intro hx
    have ei : ((3 : Int32) * nI i + bt T n q) - 120 = nI (3 * i + ((bt T n q).toInt - 120).toNat) := by
      rw [show (3 : Int32) * nI i = nI (3 * i) from nI_mul 3 i]
      rcases hx with w | w | w <;> rw [w]
      · show (nI (3 * i) + nI 120) - nI 120 = _
        rw [nI_add, pk_sub (by omega)]
        show nI (3 * i + 120 - 120) = nI (3 * i + 0)
        congr 1
      · show (nI (3 * i) + nI 121) - nI 120 = _
        rw [nI_add, pk_sub (by omega)]
        show nI (3 * i + 121 - 120) = nI (3 * i + 1)
        congr 1
      · show (nI (3 * i) + nI 122) - nI 120 = _
        rw [nI_add, pk_sub (by omega)]
        show nI (3 * i + 122 - 120) = nI (3 * i + 2)
        congr 1
    have hj : 3 * i + ((bt T n q).toInt - 120).toNat < 9 := by rcases hx with w | w | w <;> rw [w] <;> omega
    refine v_Ref_term_1 _ _ _ _ _ _ ⟨K54, ?_⟩
    rw [ei, R54_59, ix_nI (by omega), tmF_x hk hx]
    generalize 3 * i + ((bt T n q).toInt - 120).toNat = k at hj ⊢
    refine ⟨K95, InB_nI (show k < 9 from hj) (by omega), ?_⟩
    rintro _ rfl
    rintro _ rfl
    have e12 : mi (wi (sil h (up2 f 54 12 (nI q)) l) 95 k (mi (sil h (up2 f 54 12 (nI q)) l) 95 k + zI s)) 54 12 = nI q := by rw [wi_sil, mi_sil, up2_ne (by decide), up2_s]
    rw [e12, nI_1, wi_sil, wi_sil, mi_sil, c1.2.2.2.1 k hj, zI_add]
    refine ⟨_, rfl, _, rfl, F1.up5.up (by decide), rfl, ⟨?_, ?_, up2_s, fun j hj2 => ?_, fun j hj2 => ?_⟩, ?_, ?_⟩
    · rw [up2_row (by decide), up2_row (by decide)]; exact c1.1
    · rw [up2_ni (by decide), up2_ne (by decide)]; exact c1.2.1
    · rw [up2_ne (by decide)]
      show up2 _ 95 k _ 95 j = zI (addAt M k s j)
      unfold addAt
      by_cases ej : j = k
      · subst ej; rw [up2_s, if_pos rfl]
      · rw [up2_ni ej, if_neg ej]; exact c1.2.2.2.1 j hj2
    · rw [up2_ne (by decide), up2_ne (by decide)]; exact c1.2.2.2.2 j hj2
    · rw [up2_ni (by decide), up2_ne (by decide), up2_ni (by decide)]
    · rw [up2_ni (by decide), up2_ne (by decide), up2_ni (by decide)]
  refine ⟨fun w => letter (Or.inl w), fun n1 => ⟨fun w => letter (Or.inr (Or.inl w)), fun n2 => ⟨fun w => letter (Or.inr (Or.inr w)), fun n3 => SpI.mono (r_isDigit _) ?_⟩⟩⟩
  have nx : ¬ (bt T n q = 120 ∨ bt T n q = 121 ∨ bt T n q = 122) := fun w => by rcases w with w | w | w; exact n1 w; exact n2 w; exact n3 w
  rintro r g ⟨e, (⟨rfl, hd⟩ | ⟨rfl, hd⟩)⟩ <;> subst g
  case inr =>
    refine ⟨fun _ => ⟨K54, ?_⟩, fun w => absurd rfl w⟩
    rw [mi_sil, up2_s, tmF_e hk nx hd]
    exact r_wrongE F1 1 q
  have hq := bt_dg hd
  have b1 := nmF_b hd
  refine ⟨fun w => absurd w (by decide), fun _ => ⟨K54, SpI.mono (r_numberHere c1.2.1 c1.2.2.1 hn (by rw [c1.1]; exact hd)) ?_⟩⟩
  rw [c1.1, up2_same]
  generalize hv : nmF T n q = vp at b1 ⊢
  obtain ⟨v, p2⟩ := vp
  rintro r g ⟨er, e⟩
  simp only at er e b1
  subst g er
  have c2 := hc0.at (q := p2)
  refine ⟨K54, SpI.mono (r_next c2.2.1 c2.2.2.1 hn (by omega)) ?_⟩
  rw [c2.1, up2_same]
  rintro r g ⟨er, e⟩
  subst g er
  have g3 : sk T n p2 ≤ 100 := sk_le p2 hn (by omega)
  generalize h3' : sk T n p2 = p3 at g3 ⊢
  have c3 := hc0.at (q := p3)
  have F3 : FQ f (up2 f 54 12 (nI p3)) := FQ.refl.up (by decide)
  refine ⟨fun w4 => ⟨K54, ?_⟩, fun w4 => ⟨_, rfl, _, rfl, F3, ?_⟩⟩
  case refine_2 =>
    rw [tmF_w hk hd hv h3' w4]
    exact ⟨rfl, c3, by rw [up2_ni (by decide)], by rw [up2_ni (by decide)]⟩
  rintro _ rfl
  rw [mi_sil, up2_s, nI_1, wi_sil, up2_same]
  have hp3 : p3 < n := bt_ne w4 (by decide)
  have c4 := hc0.at (q := p3 + 1)
  refine SpI.mono (r_next c4.2.1 c4.2.2.1 hn (by omega)) ?_
  rw [c4.1, up2_same]
  rintro r g ⟨er, e⟩
  subst g er
  have g4 : sk T n (p3 + 1) ≤ 100 := sk_le (p3 + 1) hn (by omega)
  generalize h5' : sk T n (p3 + 1) = p4 at g4 ⊢
  have c5 := hc0.at (q := p4)
  have F5 : FQ f (up2 f 54 12 (nI p4)) := FQ.refl.up (by decide)
  refine SpI.mono (r_isDigit _) ?_
  rintro r g ⟨e, (⟨rfl, d2⟩ | ⟨rfl, d2⟩)⟩ <;> subst g
  case inr =>
    refine ⟨fun _ => ⟨K54, ?_⟩, fun w => absurd rfl w⟩
    rw [mi_sil, up2_s, tmF_d hk hd hv h3' w4 h5' d2]
    exact r_wrongE F5 1 p4
  have b2 := nmF_b d2
  refine ⟨fun w => absurd w (by decide), fun _ => ⟨K54, SpI.mono (r_numberHere c5.2.1 c5.2.2.1 hn (by rw [c5.1]; exact d2)) ?_⟩⟩
  rw [c5.1, up2_same]
  have spec : ∀ w p5, nmF T n p4 = (w, p5) → _ := fun w p5 hw => tmF_f (i := i) (s := s) (M := M) (S := S) hk hd hv h3' w4 h5' d2 hw
  generalize hw : nmF T n p4 = wp at b2 ⊢
  obtain ⟨w, p5⟩ := wp
  rintro r g ⟨er, e⟩
  simp only at er e b2
  subst g er
  have spec := spec w p5 hw
  have c6 := hc0.at (q := p5)
  have F6 : FQ f (up2 f 54 12 (nI p5)) := FQ.refl.up (by decide)
  have ew : (nI w = 0) = (w = 0) := nI_inj (y := 0) (by omega) (by decide)
  rw [show mi (sil h (up2 f 54 12 (nI q)) l) 54 12 = nI q by rw [mi_sil, up2_s]]
  refine v_Ref_term_2 _ _ _ _ _ _ _ _ ?_
  rw [show (24 : Int32) * nI v = nI (24 * v) from nI_mul 24 v, R54_60]
  refine ⟨fun w0 => ⟨K54, ?_⟩, fun w0 => ⟨w0, ?_⟩⟩
  · rw [spec, if_pos (Or.inl (ew.mp w0))]
    exact r_wrongE F6 2 q
  have w0' : w ≠ 0 := fun e => w0 (ew.mpr e)
  rw [irm_nI (by omega) (by omega) (by omega), div_nI (by omega) (by omega) (by omega)]
  have er0 : (nI (24 * v % w) = 0) = (24 * v % w = 0) := nI_inj (y := 0) (by have := Nat.mod_lt (24 * v) (show 0 < w by omega); omega) (by decide)
  refine ⟨fun q2 => ⟨K54, K96, InB_nI (show i < 3 from hi) (by omega), ?_⟩, fun q2 => ⟨K54, ?_⟩⟩
  case refine_2 =>
    rw [spec, if_pos (Or.inr (fun e => q2 (er0.mpr e)))]
    exact r_wrongE F6 2 q
  rintro _ rfl
  have bd : 24 * v / w ≤ 2376 := Nat.le_trans (Nat.div_le_self _ _) (by omega)
  have e11 : mi (sil h (up2 f 54 12 (nI p5)) l) 96 (ix (nI i)) = zI (S i) := by rw [mi_sil, ix_nI (by omega)]; exact c6.2.2.2.2 i hi
  have hSi := hS i hi
  rw [e11, zI_mulN, zI_add]
  generalize 24 * v / w = dq at bd spec ⊢
  have rng : -3000 ≤ S i + s * (dq : Int) ∧ S i + s * (dq : Int) ≤ 3000 := by
    rcases hs with e | e <;> rw [e] <;> omega
  rw [show (24 : Int32) = nI 24 from rfl, irm_fm (by omega) (by omega) (by decide) (by decide), wi_sil, ix_nI (by omega)]
  refine ⟨_, rfl, _, rfl, F6.up6, ?_⟩
  rw [spec, if_neg (fun u => by rcases u with u | u; exact w0' u; exact u (er0.mp q2))]
  refine ⟨rfl, ⟨?_, ?_, ?_, fun j hj => ?_, fun j hj => ?_⟩, ?_, ?_⟩
  · rw [up2_row (by decide)]; exact c6.1
  · rw [up2_ne (by decide)]; exact c6.2.1
  · rw [up2_ne (by decide)]; exact c6.2.2.1
  · rw [up2_ne (by decide)]; exact c6.2.2.2.1 j hj
  · show up2 _ 96 i _ 96 j = zI (setAt S i _ j)
    unfold setAt
    by_cases ej : j = i
    · subst ej
      rw [up2_s, if_pos rfl]
      rfl
    · rw [up2_ni ej, if_neg ej]; exact c6.2.2.2.2 j hj
  · rw [up2_ne (by decide), up2_ni (by decide)]
  · rw [up2_ne (by decide), up2_ni (by decide)]
