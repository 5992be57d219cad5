/-! what is alike -/
theorem GOk.inv {S : List Nat} (ok : GOk S) {x : Nat} (hx : x ∈ S) : ∃ y ∈ S, Pr x y idc ∧ Pr y x idc := by
  obtain ⟨n, _, e, _⟩ := pw_ord ok hx
  cases n with
  | zero =>
    have e : x = idc := e
    subst e
    exact ⟨idc, hx, Pr.id_l id_ok, Pr.id_l id_ok⟩
  | succ n =>
    have a := pw_add ok hx n 0
    have b := pw_add ok hx 0 n
    rw [show n + 1 + 0 = n + 1 by omega, e] at a
    rw [show 0 + 1 + n = n + 1 by omega, e] at b
    exact ⟨_, pw_mem ok hx n, b, a⟩
/-- b is a seen from m: b m = m a -/
def Cj (m a b : Nat) : Prop := ∃ z, Pr m a z ∧ Pr b m z
theorem cj_comp {S : List Nat} (ok : GOk S) {c d m a b e : Nat} (ha : a ∈ S) (hc : c ∈ S) (hm : m ∈ S) (hd : d ∈ S) (he : e ∈ S) (hb : b ∈ S) (hdc : Pr d c m) (h1 : Cj c a b) (h2 : Cj d b e) : Cj m a e := by
  obtain ⟨z, p1, p2⟩ := h1
  obtain ⟨w, p3, p4⟩ := h2
  have my := (ok.pr hm ha).1
  have q1 := hdc.assoc p1 my
  obtain ⟨w', hw', pw⟩ := ok.2.2.2.2 d hd b hb
  have ew := p3.fn pw
  subst ew
  have wy := (ok.pr hw' hc).1
  have q2 := p4.assoc hdc wy
  have q3 := p3.assoc p2 wy
  have := q1.fn q3
  rw [this] at my
  exact ⟨_, my, q2⟩
theorem Alike.tr {S : List Nat} (ok : GOk S) {a b e : Nat} (ha : a ∈ S) (hb : b ∈ S) (he : e ∈ S) (h1 : Alike S a b) (h2 : Alike S b e) : Alike S a e := by
  obtain ⟨c, hc, k1⟩ := h1
  obtain ⟨d, hd, k2⟩ := h2
  obtain ⟨m, hm, pm⟩ := ok.2.2.2.2 d hd c hc
  exact ⟨m, hm, cj_comp ok ha hc hm hd he hb pm k1 k2⟩
theorem cj_id {a : Nat} (ha : cOK a) : Cj idc a a := ⟨a, Pr.id_l ha, Pr.id_r ha⟩
theorem Alike.rf {S : List Nat} (ok : GOk S) {a : Nat} (ha : a ∈ S) : Alike S a a := ⟨idc, ok.2.2.2.1, cj_id (ok.c a ha)⟩
theorem cj_ex {S : List Nat} (ok : GOk S) {m a : Nat} (hm : m ∈ S) (ha : a ∈ S) : ∃ b ∈ S, Cj m a b := by
  obtain ⟨z, hz, pz⟩ := ok.2.2.2.2 m hm a ha
  obtain ⟨i, hi, _, im⟩ := ok.inv hm
  obtain ⟨w, hw, pw⟩ := ok.2.2.2.2 z hz i hi
  obtain ⟨v, hv, pv⟩ := ok.2.2.2.2 w hw m hm
  have q := pw.assoc im pv
  have := q.fn (Pr.id_r (ok.c z hz))
  subst this
  exact ⟨w, hw, v, pz, pv⟩
theorem cj_fn {S : List Nat} (ok : GOk S) {m a b b' : Nat} (hm : m ∈ S) (hb : b ∈ S) (hb' : b' ∈ S) (h : Cj m a b) (h' : Cj m a b') : b = b' := by
  obtain ⟨z, p1, p2⟩ := h
  obtain ⟨z', q1, q2⟩ := h'
  have := p1.fn q1
  subst this
  obtain ⟨i, hi, mi_, _⟩ := ok.inv hm
  obtain ⟨u, hu, pu⟩ := ok.2.2.2.2 z (by
    obtain ⟨y, hy, py⟩ := ok.2.2.2.2 b hb m hm
    rw [p2.fn py]; exact hy) i hi
  have a1 := p2.assoc mi_ pu
  have a2 := q2.assoc mi_ pu
  have e1 := a1.fn (Pr.id_r (ok.c b hb))
  have e2 := a2.fn (Pr.id_r (ok.c b' hb'))
  omega
/-- what is closed under the makers is closed under all -/
theorem cj_close {S MK : List Nat} (ok : GOk S) (cl : Closed S MK) (X : Nat → Prop) (h : ∀ m ∈ MK, ∀ a ∈ S, ∀ b ∈ S, X a → Cj m a b → X b) : ∀ c, reach (fun g => g ∈ MK) c → ∀ a ∈ S, ∀ b ∈ S, X a → Cj c a b → X b := by
  have inS : ∀ y, reach (fun g => g ∈ MK) y → y ∈ S := fun y hy => (cl.1 y).mpr hy
  refine reach_ind _ ?_ ?_
  · intro a ha b hb xa cj
    rw [cj_fn ok ok.2.2.2.1 hb ha cj (cj_id (ok.c a ha))]
    exact xa
  · intro x m y rx ih hm hp a ha b hb xa cj
    have mS := inS m (reach_gen cl.2.2.2 hm)
    obtain ⟨u, hu, cu⟩ := cj_ex ok mS ha
    obtain ⟨v, hv, cv⟩ := cj_ex ok (inS x rx) hu
    have comp := cj_comp ok ha mS (inS y (reach_step rx hm hp)) (inS x rx) hv hu hp cu cv
    have := cj_fn ok (inS y (reach_step rx hm hp)) hb hv cj comp
    rw [this]
    exact ih u hu v hv (h m hm a ha u hu xa cu) cv
theorem sp_Ho_inverseOf {h : MH} {f : (Nat → Nat → Int32)} {l : (Nat → Nat → Int64)} {S : List Nat} {c : Nat} (ok : GOk S) (hc : c ∈ S) : SpI k_Ho_inverseOf [.ref 5, .int (nI c)] (sil h f l) (fun r g => (∃ i ∈ S, Pr c i idc ∧ Pr i c idc ∧ r = nI i) ∧ ∃ f', g = sil h f' l ∧ Fr MoIds f f') := by
  obtain ⟨N, hN, eN, mN⟩ := pw_ord ok hc
  have w := ok.2.1
  have t192 : (192 : Int32).toInt = 192 := rfl
  let lst : Nat → Nat := fun n => if n = 0 then idc else pwN c (n - 1)
  have good : ∃ i ∈ S, Pr c i idc ∧ Pr i c idc ∧ nI (lst N) = nI i := by
    cases N with
    | zero =>
      have e : c = idc := eN
      subst e
      exact ⟨idc, hc, Pr.id_l id_ok, Pr.id_l id_ok, rfl⟩
    | succ n =>
      have a := pw_add ok hc n 0
      have b := pw_add ok hc 0 n
      rw [show n + 1 + 0 = n + 1 by omega, eN] at a
      rw [show 0 + 1 + n = n + 1 by omega, eN] at b
      exact ⟨_, pw_mem ok hc n, b, a, rfl⟩
  have main : ∀ d n (f1 : (Nat → Nat → Int32)), N - n = d → n ≤ N → Fr MoIds f f1 → WM k_Ho_inverseOf p_Ho_inverseOf_1 [.ref 5, .int (nI c), .int (nI (lst n)), .int (nI (pwN c n)), .int (nI n)] [] (sil h f1 l) 0 0 (fun v g => ∃ r, v = .int r ∧ (∃ i ∈ S, Pr c i idc ∧ Pr i c idc ∧ r = nI i) ∧ ∃ f', g = sil h f' l ∧ Fr MoIds f f') := by
    intro d
    induction d with
    | zero =>
      intro n f1 hd hn fr
      have e : n = N := by omega
      subst e
      exact v_Ho_inverseOf_1 _ _ _ _ _ _ _ ⟨fun _ => ⟨fun _ => ⟨_, rfl, good, f1, rfl, fr⟩, fun q => absurd (by rw [eN]; rfl) q⟩, fun _ => ⟨_, rfl, good, f1, rfl, fr⟩⟩
    | succ d ih =>
      intro n f1 hd hn fr
      have pm := pw_mem ok hc n
      have cp := ok.c _ pm
      have cp' : pwN c n < 272097792 := cp
      refine v_Ho_inverseOf_1 _ _ _ _ _ _ _ ?_
      rw [nI_toI (by omega), t192]
      refine ⟨fun _ => ⟨fun q => ?_, fun _ => ⟨Kd5, SpI.mono (joined_fr cp (ok.c _ hc)) ?_⟩⟩, fun q => absurd (by omega) q⟩
      · exact absurd ((nI_inj (by omega) (by decide)).mp (show nI (pwN c n) = nI idc from q)) (mN n (by omega))
      · rintro r _ ⟨rfl, f', rfl, fr'⟩
        rw [(ok.pr pm hc).2.2, zI_nat, nI_1]
        exact ih (n + 1) f' (by omega) (by omega) (fr.trans fr')
  exact v_Ho_inverseOf _ _ _ _ (main _ 0 f rfl (Nat.zero_le _) Fr.refl)
/-- the opposites of the makers, in a row of their own -/
def IvAt (h : MH) (r : Nat) (S MK : List Nat) : Prop := (99 ≤ r ∧ r < hn h ∧ kd h r = 20 ∧ ln h r = MK.length) ∧ ∃ IV : Nat → Nat, ∀ j, j < MK.length → mi h r j = nI (IV j) ∧ IV j ∈ S ∧ Pr (MK.getD j 0) (IV j) idc ∧ Pr (IV j) (MK.getD j 0) idc
theorem gd_t {n m : Nat} {P : Prop} (h : n ≤ m) (p : P) : gd n m P := gd_iff.mpr ⟨h, p⟩
theorem Closed.m7 {S MK : List Nat} (cl : Closed S MK) (h : S.length ≤ 192) : MK.length ≤ 7 := by
  rcases Nat.lt_or_ge 7 MK.length with q | q
  · have := cl.2.2.1
    have p := Nat.pow_le_pow_right (show 0 < 2 by decide) (show 8 ≤ MK.length from q)
    omega
  · exact q
theorem sp_Ho_inversesOf {h : MH} {O : Nat → Nat} {t g : Nat} {S MK : List Nat} (H : SS h) (ok : GOk S) (b : GrpB h O t g S MK) (cl : Closed S MK) : SpR k_Ho_inversesOf [.ref 5, .ref (g + 3)] h (fun r k => r = hn h ∧ hn k = hn h + 1 ∧ Kp MoIds h k ∧ IvAt k (hn h) S MK) := by
  have w := ok.2.1
  have m7 := cl.m7 w
  have h99 := H.1
  have k3 := b.2.2.2.2.1
  have l3 := b.2.2.2.2.2.1
  have a3 := b.2.2.2.2.2.2
  have g0 := b.1.1
  have g3 := b.1.2.1
  clear b
  have tm : (Int32.ofNat MK.length).toInt = (MK.length : Int) := nI_toI (by omega)
  have im : ix (Int32.ofNat MK.length) = MK.length := ix_nI (by omega)
  have inS : ∀ m ∈ MK, m ∈ S := fun m hm => (cl.1 m).mpr (reach_gen cl.2.2.2 hm)
  refine v_Ho_inversesOf _ _ _ _ ⟨k3, ?_⟩
  rw [l3, tm, im]
  refine ⟨by omega, gd_t (by omega) ?_⟩
  rintro _ rfl
  have c1 : Kp MoIds h (nw h 20 MK.length) := (Kp.refl H).nw
  have S1 := c1.1
  have e1 := S1.sil
  have n3 : g + 3 ≠ hn h := by omega
  have A3 : mi (nw h 20 MK.length) (g + 3) = mi h (g + 3) := mi_nw n3
  have kR : kd (nw h 20 MK.length) (hn h) = 20 := kd_new
  have lR : ln (nw h 20 MK.length) (hn h) = MK.length := ln_new
  have k3' : kd (nw h 20 MK.length) (g + 3) = 20 := by rw [kd_old n3]; exact k3
  have l3' : ln (nw h 20 MK.length) (g + 3) = MK.length := by rw [ln_old n3]; exact l3
  have hnR : hn (nw h 20 MK.length) = hn h + 1 := hn_nw
  generalize nw h 20 MK.length = h1 at *
  have main : ∀ d k (f1 : (Nat → Nat → Int32)) (IV : Nat → Nat), MK.length - k = d → k ≤ MK.length → Fr (hn h :: MoIds) (mi h1) f1 → (∀ j, j < k → f1 (hn h) j = nI (IV j) ∧ IV j ∈ S ∧ Pr (MK.getD j 0) (IV j) idc ∧ Pr (IV j) (MK.getD j 0) idc) →
      WM k_Ho_inversesOf p_Ho_inversesOf_1 [.ref 5, .ref (g + 3), .ref (hn h), .int (nI k)] [] (sil h1 f1 (ml h1)) 1 (0 + MK.length) (fun v k => ∃ r, v = .ref r ∧ r = hn h ∧ hn k = hn h + 1 ∧ Kp MoIds h k ∧ IvAt k (hn h) S MK) := by
    have kk : ∀ f1 : (Nat → Nat → Int32), kd (sil h1 f1 (ml h1)) = kd h1 := fun f1 => kd_sil S1
    have ll : ∀ f1 : (Nat → Nat → Int32), ln (sil h1 f1 (ml h1)) = ln h1 := fun f1 => ln_sil S1
    intro d
    induction d with
    | zero =>
      intro k f1 IV hd hk fr iv
      refine v_Ho_inversesOf_1 _ _ _ _ _ _ _ _ ?_
      rw [kk, ll, l3', tm, nI_toI (by omega)]
      refine ⟨k3', fun q => absurd q (by omega), fun _ => gd_t (by decide) (gd_t (by omega) ⟨_, rfl, rfl, hnR, ?_, ⟨h99, by show hn h < hn h1; omega, by rw [kk]; exact kR, by rw [ll]; exact lR⟩, IV, fun j hj => iv j (by omega)⟩)⟩
      refine ⟨SS_sil S1, by show hn h ≤ hn h1; omega, fun x hx => ?_⟩
      have q := c1.2.2 x hx
      rw [kk, ll, mr_sil S1, mi_sil, ml_sil]
      exact ⟨q.1, q.2.1, fun nA => ⟨(fr x (fun w => by rcases List.mem_cons.mp w with e | e; omega; exact nA e)).trans (q.2.2 nA).1, (q.2.2 nA).2⟩⟩
    | succ d ih =>
      intro k f1 IV hd hk fr iv
      have kl : k < MK.length := by omega
      have mS := inS _ (getD_mem kl)
      have e3 : f1 (g + 3) k = nI (MK.getD k 0) := by
        rw [fr (g + 3) (fun w => by
          rcases List.mem_cons.mp w with e | e
          · omega
          · have : g + 3 < 99 := by revert e; generalize g + 3 = z; revert z; decide
            omega), A3]
        exact a3 k kl
      refine v_Ho_inversesOf_1 _ _ _ _ _ _ _ _ ?_
      rw [kk, ll, l3', tm, nI_toI (by omega), ix_nI (by omega), mi_sil, e3]
      refine ⟨k3', fun _ => ⟨InB_nI kl (by omega), S1.k5, gd_t (by decide) (gd_t (by omega) (SpI.mono (sp_Ho_inverseOf ok mS) ?_))⟩, fun q => absurd (by omega) q⟩
      rintro r _ ⟨⟨i, hi, p1, p2, rfl⟩, f2, rfl, fr2⟩
      rw [kk, ll, kR, lR]
      refine ⟨rfl, InB_nI kl (by omega), ?_⟩
      rintro _ rfl
      rw [wi_sil, nI_1]
      refine ih (k + 1) _ (fun j => if j = k then i else IV j) (by omega) (by omega) ((fr.trans (fr2.mono (fun a ha => List.mem_cons_of_mem _ ha))).up List.mem_cons_self) (fun j hj => ?_)
      by_cases e : j = k
      · subst e
        show up2 f2 (hn h) j (nI i) (hn h) j = nI (if j = j then i else IV j) ∧ (if j = j then i else IV j) ∈ S ∧ Pr _ (if j = j then i else IV j) idc ∧ Pr (if j = j then i else IV j) _ idc
        rw [if_pos rfl, up2_s]
        exact ⟨rfl, hi, p1, p2⟩
      · have q := iv j (by omega)
        show up2 f2 (hn h) k (nI i) (hn h) j = nI (if j = k then i else IV j) ∧ (if j = k then i else IV j) ∈ S ∧ Pr _ (if j = k then i else IV j) idc ∧ Pr (if j = k then i else IV j) _ idc
        rw [if_neg e, up2_ni e, fr2 (hn h) (fun w => by
          have : hn h < 99 := by revert w; generalize hn h = z; revert z; decide
          omega)]
        exact q
  have := main _ 0 (mi h1) (fun _ => 0) rfl (Nat.zero_le _) Fr.refl (fun j hj => absurd hj (Nat.not_lt_zero j))
  rw [← e1] at this
  exact this
