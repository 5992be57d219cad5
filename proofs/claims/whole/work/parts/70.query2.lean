/-! within; of -/
theorem Fnd.no {S : List Nat} {a : Nat} {r : Int32} (h : Fnd S a r) (hl : S.length ≤ 192) : (r = -1 → a ∉ S) ∧ (¬ r = -1 → a ∈ S) := by
  rcases h with ⟨k, hk, e, rfl⟩ | ⟨rfl, n⟩
  · refine ⟨fun c => ?_, fun _ => ?_⟩
    · have e := congrArg Int32.toInt c
      rw [nI_toI (by omega), l_m1] at e
      omega
    · have : S.getD k 0 = a := by omega
      rw [← this]; exact getD_mem hk
  · refine ⟨fun _ q => ?_, fun c => absurd rfl c⟩
    obtain ⟨k, hk, e⟩ := mem_getD q
    exact n k hk (by omega)
def WithA (GS : List (List Nat)) (x y r : Int32) : Prop := (∃ i j, i < GS.length ∧ j < GS.length ∧ x = nI i ∧ y = nI j ∧ ((r = 1 ∧ ∀ a ∈ GS.getD i [], a ∈ GS.getD j []) ∨ (r = 0 ∧ ¬ ∀ a ∈ GS.getD i [], a ∈ GS.getD j []))) ∨ ((¬ ∃ i j, i < GS.length ∧ j < GS.length ∧ x = nI i ∧ y = nI j) ∧ r = 0)
theorem WithA.fn {GS : List (List Nat)} {x y r r' : Int32} (hl : GS.length ≤ 60) (h : WithA GS x y r) (h' : WithA GS x y r') : r = r' := by
  rcases h with ⟨i, j, hi, hj, rfl, rfl, fd⟩ | ⟨no, rfl⟩
  · rcases h' with ⟨i', j', hi', hj', e1, e2, fd'⟩ | ⟨no, rfl⟩
    · rw [nI_inj (by omega) (by omega)] at e1 e2
      subst e1 e2
      rcases fd with ⟨rfl, p⟩ | ⟨rfl, p⟩ <;> rcases fd' with ⟨rfl, q⟩ | ⟨rfl, q⟩ <;> first | rfl | exact absurd p q | exact absurd q p
    · exact absurd ⟨i, j, hi, hj, rfl, rfl⟩ no
  · rcases h' with ⟨i', j', a1, a2, a3, a4, _⟩ | ⟨_, rfl⟩
    · exact absurd ⟨i', j', a1, a2, a3, a4⟩ no
    · rfl
theorem sp_Ref_within {h : MH} {f : (Nat → Nat → Int32)} {l : (Nat → Nat → Int64)} {GS : List (List Nat)} (hg : RGrp f GS) (ok : ∀ S ∈ GS, GOk S) (x y : Int32) : SpI k_Ref_within [.ref 54, .int x, .int y] (sil h f l) (fun r g => WithA GS x y r ∧ g = sil h f l) := by
  have g1 := hg.1
  refine v_Ref_within _ _ _ _ _ ⟨K54, SpI.mono (sp_Ref_isGroup hg x) ?_⟩
  rintro r _ ⟨rfl, (⟨i, hi, rfl, rfl⟩ | ⟨ni, rfl⟩)⟩
  · refine ⟨fun c => absurd c (by decide), fun _ => ⟨K54, SpI.mono (sp_Ref_isGroup hg y) ?_⟩⟩
    rintro r _ ⟨rfl, (⟨j, hj, rfl, rfl⟩ | ⟨ni, rfl⟩)⟩
    · have w := (hg.2.1 _ (gD_mem hi)).1
      have w2 := (hg.2.1 _ (gD_mem hj)).1
      have gi := hg.2.2.2 i hi
      have oS := ok _ (gD_mem hi)
      have oT := ok _ (gD_mem hj)
      have main : ∀ d k, (GS.getD i []).length - k = d → k ≤ (GS.getD i []).length → (∀ m, m < k → (GS.getD i []).getD m 0 ∈ GS.getD j []) →
          WM k_Ref_within p_Ref_within_1 [.ref 54, .int (nI i), .int (nI j), .int (nI k)] [] (sil h f l) 0 0 (fun v g => ∃ r, v = .int r ∧ WithA GS (nI i) (nI j) r ∧ g = sil h f l) := by
        intro d
        induction d with
        | zero =>
          intro k hd hk all
          refine v_Ref_within_1 _ _ _ _ _ _ ⟨K54, ?_⟩
          rw [R54_16, ix_nI (by omega), mi_sil, gi.1, nI_toI (by omega), nI_toI (by omega)]
          refine ⟨K65, InB_nI (show i < 60 by omega) (by omega), fun c => absurd c (by omega), fun _ => ⟨_, rfl, Or.inl ⟨i, j, hi, hj, rfl, rfl, Or.inl ⟨rfl, fun a ha => ?_⟩⟩, rfl⟩⟩
          obtain ⟨m, hm, e⟩ := mem_getD ha
          rw [← e]; exact all m (by omega)
        | succ d ih =>
          intro k hd hk all
          have kl : k < (GS.getD i []).length := by omega
          have cm := cOK_mem oS.c kl
          refine v_Ref_within_1 _ _ _ _ _ _ ⟨K54, ?_⟩
          rw [R54_16, R54_15, show (192 : Int32) = nI 192 from rfl, nI_mul, nI_add, ix_nI (by omega), ix_nI (by omega), mi_sil, gi.1, nI_toI (by omega), nI_toI (by omega), gi.2 k kl]
          refine ⟨K65, InB_nI (show i < 60 by omega) (by omega), fun _ => ⟨K64, InB_nI (show 192 * i + k < 11520 by omega) (by omega), SpI.mono (sp_Ref_find hg hj oT.1 oT.ne _) ?_⟩, fun c => absurd (by omega) c⟩
          rw [nI_toI (by omega)]
          rintro r _ ⟨rfl, fd⟩
          have q := fd.no w2
          refine ⟨fun c => ⟨_, rfl, Or.inl ⟨i, j, hi, hj, rfl, rfl, Or.inr ⟨rfl, fun all => q.1 c (all _ (getD_mem kl))⟩⟩, rfl⟩, fun c => ?_⟩
          rw [nI_1]
          refine ih (k + 1) (by omega) (by omega) (fun m hm => ?_)
          by_cases e : m = k
          · rw [e]; exact q.2 c
          · exact all m (by omega)
      exact ⟨fun c => absurd c (by decide), fun _ => main _ 0 rfl (Nat.zero_le _) (fun m hm => absurd hm (Nat.not_lt_zero m))⟩
    · refine ⟨fun _ => ⟨_, rfl, Or.inr ⟨?_, rfl⟩, rfl⟩, fun c => absurd rfl c⟩
      rintro ⟨i', j', a1, a2, a3, rfl⟩
      rw [nI_toI (by omega)] at ni
      omega
  · refine ⟨fun _ => ⟨_, rfl, Or.inr ⟨?_, rfl⟩, rfl⟩, fun c => absurd rfl c⟩
    rintro ⟨i', j', a1, a2, rfl, a4⟩
    rw [nI_toI (by omega)] at ni
    omega
theorem sp_Ho_within {h : MH} {O : Nat → Nat} {GS : List (List Nat)} (H : SS h) (hg : HGrp h O GS) (x y : Int32) : SpI k_Ho_within [.ref 5, .int x, .int y] h (fun r g => WithA GS x y r ∧ g = h) := by
  have g1 := hg.1
  refine v_Ho_within _ _ _ _ _ ⟨H.k5, SpR.mono (sp_Ho_groupAt H hg x) ?_⟩
  rintro r1 g0 ⟨e0, res1⟩
  subst g0
  refine ⟨H.k5, SpR.mono (sp_Ho_groupAt H hg y) ?_⟩
  rintro r2 g0 ⟨e0, res2⟩
  subst g0
  rcases res1 with ⟨i, hi, rfl, rfl, nz⟩ | ⟨ni, rfl⟩
  · refine ⟨fun c => absurd c nz, fun _ => ?_⟩
    rcases res2 with ⟨j, hj, rfl, rfl, nz2⟩ | ⟨ni, rfl⟩
    · refine ⟨fun c => absurd c nz2, fun _ => ?_⟩
      obtain ⟨ok, ⟨MK, b, cl⟩, _⟩ := hg.at hi
      obtain ⟨ok2, ⟨MK2, bb, cl2⟩, _⟩ := hg.at hj
      have w := ok.2.1
      have w2 := ok2.2.1
      have rj := bb.row ok2.1 ok2.2.1 ok2.c
      have b1 := b.2.1.1
      have b2 := b.2.1.2.1
      have b3 := b.2.2.1.1
      have b4 := b.2.2.1.2.1
      have b5 := b.2.2.1.2.2
      have b6 := b.2.2.2.1.1
      have b7 := b.2.2.2.1.2.1
      have b8 := b.2.2.2.1.2.2
      have c1 := bb.2.1.1
      have c2 := bb.2.1.2.1
      have c3 := bb.2.2.1.1
      clear b bb cl cl2
      have main : ∀ d k, (GS.getD i []).length - k = d → k ≤ (GS.getD i []).length → (∀ m, m < k → (GS.getD i []).getD m 0 ∈ GS.getD j []) →
          WM k_Ho_within p_Ho_within_1 [Jv, Jv, Jv, .ref (mr h 29 i), .ref (mr h 29 j), .int (nI k)] [] h 0 0 (fun v g => ∃ r, v = .int r ∧ WithA GS (nI i) (nI j) r ∧ g = h) := by
        intro d
        induction d with
        | zero =>
          intro k hd hk all
          refine v_Ho_within_1 _ _ _ _ _ ⟨b1, ?_⟩
          rw [b2, b5, nI_toI (by omega), nI_toI (by omega)]
          refine ⟨b3, fun c => absurd c (by omega), fun _ => ⟨_, rfl, Or.inl ⟨i, j, hi, hj, rfl, rfl, Or.inl ⟨rfl, fun a ha => ?_⟩⟩, rfl⟩⟩
          obtain ⟨m, hm, e⟩ := mem_getD ha
          rw [← e]; exact all m (by omega)
        | succ d ih =>
          intro k hd hk all
          have kl : k < (GS.getD i []).length := by omega
          have cm := cOK_mem ok.c kl
          refine v_Ho_within_1 _ _ _ _ _ ⟨b1, ?_⟩
          rw [b2, b5, b4, c2, nI_toI (by omega), nI_toI (by omega), ix_nI (by omega), b8 k kl]
          refine ⟨b3, fun _ => ⟨c1, b6, by rw [b7]; exact InB_nI kl (by omega), c3, SpI.mono (sp_Row_find _ rj) ?_⟩, fun c => absurd (by omega) c⟩
          rw [nI_toI (by omega)]
          rintro r g0 ⟨e0, fd⟩
          subst g0
          have q := Fnd.no (S := GS.getD j []) (a := (GS.getD i []).getD k 0) fd w2
          clear fd
          refine ⟨fun c => ⟨_, rfl, Or.inl ⟨i, j, hi, hj, rfl, rfl, Or.inr ⟨rfl, fun all => q.1 c (all _ (getD_mem kl))⟩⟩, rfl⟩, fun c => ?_⟩
          rw [nI_1]
          refine ih (k + 1) (by omega) (by omega) (fun m hm => ?_)
          by_cases e : m = k
          · rw [e]; exact q.2 c
          · exact all m (by omega)
      exact main _ 0 rfl (Nat.zero_le _) (fun m hm => absurd hm (Nat.not_lt_zero m))
    · refine ⟨fun _ => ⟨_, rfl, Or.inr ⟨?_, rfl⟩, rfl⟩, fun c => absurd rfl c⟩
      rintro ⟨i', j', a1, a2, a3, rfl⟩
      rw [nI_toI (by omega)] at ni
      omega
  · refine ⟨fun _ => ⟨_, rfl, Or.inr ⟨?_, rfl⟩, rfl⟩, fun c => absurd rfl c⟩
    rintro ⟨i', j', a1, a2, rfl, a4⟩
    rw [nI_toI (by omega)] at ni
    omega
/-! powers -/
noncomputable def pwN (c : Nat) : Nat → Nat
  | 0 => c
  | n + 1 => (prod (pwN c n) c).toNat
theorem GOk.pr {S : List Nat} (h : GOk S) {x y : Nat} (hx : x ∈ S) (hy : y ∈ S) : Pr x y (prod x y).toNat ∧ (prod x y).toNat ∈ S ∧ prod x y = ((prod x y).toNat : Nat) := by
  obtain ⟨z, hz, pz⟩ := h.2.2.2.2 x hx y hy
  rw [Pr_toNat pz]
  exact ⟨pz, hz, pz.prod⟩
theorem pw_mem {S : List Nat} (h : GOk S) {c : Nat} (hc : c ∈ S) : ∀ n, pwN c n ∈ S
  | 0 => hc
  | n + 1 => (h.pr (pw_mem h hc n) hc).2.1
theorem pw_add {S : List Nat} (h : GOk S) {c : Nat} (hc : c ∈ S) (a : Nat) : ∀ k, Pr (pwN c a) (pwN c k) (pwN c (a + 1 + k))
  | 0 => (h.pr (pw_mem h hc a) hc).1
  | k + 1 => (pw_add h hc a k).assoc (h.pr (pw_mem h hc k) hc).1 (h.pr (pw_mem h hc (a + 1 + k)) hc).1
theorem pw_ord {S : List Nat} (h : GOk S) {c : Nat} (hc : c ∈ S) : ∃ n, n < S.length ∧ pwN c n = idc ∧ ∀ m, m < n → pwN c m ≠ idc := by
  have ex : ∃ n, n < S.length ∧ pwN c n = idc := by
    refine Classical.byContradiction fun no => ?_
    have nid : ∀ m, m < S.length → pwN c m ≠ idc := fun m hm e => no ⟨m, hm, e⟩
    have inj : ∀ a b, a < b → b < S.length → pwN c a ≠ pwN c b := fun a b hab hb e => by
      have p := pw_add h hc a (b - a - 1)
      rw [show a + 1 + (b - a - 1) = b by omega, ← e] at p
      have ia := h.2.2.1 _ (pw_mem h hc a)
      exact nid (b - a - 1) (by omega) (Pr.cancel ia p (Pr.id_r ia.1))
    have := sub_len (idc :: (List.range S.length).map (pwN c)) S (List.nodup_cons.mpr ⟨fun q => by
        obtain ⟨m, hm, e⟩ := List.mem_map.mp q
        exact nid m (List.mem_range.mp hm) e, map_nodup List.nodup_range (fun x hx y hy e => by
        rcases Nat.lt_trichotomy x y with q | q | q
        · exact absurd e (inj x y q (List.mem_range.mp hy))
        · exact q
        · exact absurd e.symm (inj y x q (List.mem_range.mp hx)))⟩) (fun y hy => by
        rcases List.mem_cons.mp hy with e | hy
        · rw [e]; exact h.2.2.2.1
        · obtain ⟨m, _, e⟩ := List.mem_map.mp hy
          rw [← e]; exact pw_mem h hc m)
    rw [List.length_cons, List.length_map, List.length_range] at this
    omega
  obtain ⟨n, hn, e⟩ := ex
  induction n using Nat.strongRecOn with
  | ind n ih =>
    by_cases q : ∃ m, m < n ∧ pwN c m = idc
    · obtain ⟨m, hm, e'⟩ := q
      exact ih m hm (by omega) e'
    · exact ⟨n, hn, e, fun m hm e' => q ⟨m, hm, e'⟩⟩
def OrdN (c n : Nat) : Prop := pwN c n = idc ∧ ∀ m, m < n → pwN c m ≠ idc
theorem OrdN.fn {c n n' : Nat} (h : OrdN c n) (h' : OrdN c n') : n = n' := by
  rcases Nat.lt_trichotomy n n' with q | q | q
  · exact absurd h.1 (h'.2 n q)
  · exact q
  · exact absurd h'.1 (h.2 n' q)
theorem sp_Ho_times {h : MH} {f : (Nat → Nat → Int32)} {l : (Nat → Nat → Int64)} {S : List Nat} {c : Nat} (ok : GOk S) (hc : c ∈ S) : SpI k_Ho_timesUntilSame [.ref 5, .int (nI c)] (sil h f l) (fun r g => (∃ n, OrdN c n ∧ r = nI (n + 1)) ∧ ∃ f', g = sil h f' l ∧ Fr MoIds f f') := by
  obtain ⟨N, hN, eN, mN⟩ := pw_ord ok hc
  have w := ok.2.1
  have t192 : (192 : Int32).toInt = 192 := rfl
  have main : ∀ d n (f1 : (Nat → Nat → Int32)), N - n = d → n ≤ N → Fr MoIds f f1 → WM k_Ho_timesUntilSame p_Ho_timesUntilSame_1 [.ref 5, .int (nI c), .int (nI (pwN c n)), .int (nI (n + 1))] [] (sil h f1 l) 0 0 (fun v g => ∃ r, v = .int r ∧ (∃ n, OrdN c n ∧ r = nI (n + 1)) ∧ ∃ f', g = sil h f' l ∧ Fr MoIds f f') := by
    intro d
    induction d with
    | zero =>
      intro n f1 hd hn fr
      have e : n = N := by omega
      subst e
      refine v_Ho_timesUntilSame_1 _ _ _ _ _ _ ⟨fun _ => ⟨fun _ => ⟨_, rfl, ⟨n, ⟨eN, mN⟩, rfl⟩, f1, rfl, fr⟩, fun q => absurd (by rw [eN]; rfl) q⟩, fun _ => ⟨_, rfl, ⟨n, ⟨eN, mN⟩, rfl⟩, f1, rfl, fr⟩⟩
    | succ d ih =>
      intro n f1 hd hn fr
      have pm := pw_mem ok hc n
      have cp := ok.c _ pm
      have cp' : pwN c n < 272097792 := cp
      refine v_Ho_timesUntilSame_1 _ _ _ _ _ _ ?_
      rw [nI_toI (by omega), t192]
      refine ⟨fun _ => ⟨fun q => ?_, fun _ => ⟨Kd5, SpI.mono (joined_fr cp (ok.c _ hc)) ?_⟩⟩, fun q => absurd (by omega) q⟩
      · exact absurd ((nI_inj (by omega) (by decide)).mp (show nI (pwN c n) = nI idc from q)) (mN n (by omega))
      · rintro r _ ⟨rfl, f', rfl, fr'⟩
        rw [(ok.pr pm hc).2.2, zI_nat, nI_1]
        exact ih (n + 1) f' (by omega) (by omega) (fr.trans fr')
  exact v_Ho_timesUntilSame _ _ _ _ (main _ 0 f rfl (Nat.zero_le _) Fr.refl)
theorem sp_Ref_of_1 {h : MH} {f : (Nat → Nat → Int32)} {l : (Nat → Nat → Int64)} {S : List Nat} {c : Nat} (ok : GOk S) (hc : c ∈ S) : WM k_Ref_of p_Ref_of_1 [.ref 54, Jv, Jv, Jv, .int (nI c), .int (1), .int (nI c)] [] (sil h f l) 0 0 (fun v g => ∃ r, v = .int r ∧ (∃ n, OrdN c n ∧ r = nI (n + 1)) ∧ ∃ f', g = sil h f' l ∧ Fr RtIds f f') := by
  obtain ⟨N, hN, eN, mN⟩ := pw_ord ok hc
  have w := ok.2.1
  have main : ∀ d n (f1 : (Nat → Nat → Int32)), N - n = d → n ≤ N → Fr RtIds f f1 → WM k_Ref_of p_Ref_of_1 [.ref 54, Jv, Jv, Jv, .int (nI c), .int (nI (n + 1)), .int (nI (pwN c n))] [] (sil h f1 l) 0 0 (fun v g => ∃ r, v = .int r ∧ (∃ n, OrdN c n ∧ r = nI (n + 1)) ∧ ∃ f', g = sil h f' l ∧ Fr RtIds f f') := by
    intro d
    induction d with
    | zero =>
      intro n f1 hd hn fr
      have e : n = N := by omega
      subst e
      refine v_Ref_of_1 _ _ _ _ _ _ (SpI.mono sp_Ref_identity ?_)
      rintro r _ ⟨rfl, rfl⟩
      exact ⟨fun _ => ⟨_, rfl, ⟨n, ⟨eN, mN⟩, rfl⟩, f1, rfl, fr⟩, fun q => absurd (by rw [eN]; rfl) q⟩
    | succ d ih =>
      intro n f1 hd hn fr
      have pm := pw_mem ok hc n
      have cp := ok.c _ pm
      have cp' : pwN c n < 272097792 := cp
      refine v_Ref_of_1 _ _ _ _ _ _ (SpI.mono sp_Ref_identity ?_)
      rintro r _ ⟨rfl, rfl⟩
      refine ⟨fun q => ?_, fun _ => ⟨K54, SpI.mono (times_fr cp (ok.c _ hc)) ?_⟩⟩
      · exact absurd ((nI_inj (by omega) (by decide)).mp (show nI (pwN c n) = nI idc from q)) (mN n (by omega))
      · rintro r _ ⟨rfl, f', rfl, fr'⟩
        rw [(ok.pr pm hc).2.2, zI_nat, nI_1]
        exact ih (n + 1) f' (by omega) (by omega) (fr.trans fr')
  exact main _ 0 f rfl (Nat.zero_le _) Fr.refl
/-- an operation is opened where the class looks at one -/
theorem open_done {h : MH} {f : (Nat → Nat → Int32)} {l : (Nat → Nat → Int64)} {c : Nat} (hc : cOK c) : SpV k_Motion_open [.ref 36, .int (nI c)] (sil h f l) (fun g => ∃ f', g = sil h f' l ∧ Fr [37, 38] f f' ∧ MatAt f' 37 (eM c) ∧ ShAt f' 38 (eZ c)) :=
  SpV.mono (sp_Motion_open (h := sil h f l) (x := 36) (a := 37) (b := 38) rfl rfl rfl rfl rfl rfl rfl (by decide) hc) (fun g => by
    rintro ⟨f', rfl, o, m, s⟩
    exact ⟨f', rfl, fun a ha => o a (fun q => ha (by rw [q]; decide)) (fun q => ha (by rw [q]; decide)), m, s⟩)
theorem open_ab {h : MH} {f : (Nat → Nat → Int32)} {l : (Nat → Nat → Int64)} {c : Nat} (hc : cOK c) : SpV k_Ref_open [.int (nI c), .ref 57, .ref 58] (sil h f l) (fun g => ∃ f', g = sil h f' l ∧ Fr [57, 58] f f' ∧ MatAt f' 57 (eM c) ∧ ShAt f' 58 (eZ c)) :=
  SpV.mono (sp_Ref_open (h := sil h f l) (a := 57) (b := 58) rfl rfl rfl rfl (by decide) hc) (fun g => by
    rintro ⟨f', rfl, o, m, s⟩
    exact ⟨f', rfl, fun a ha => o a (fun q => ha (by rw [q]; decide)) (fun q => ha (by rw [q]; decide)), m, s⟩)
/-- the answer of of -/
def OfV (c : Nat) (w r : Int32) : Prop := (w = 0 ∧ r = nI (c / 13824)) ∨ (w = 1 ∧ r = nI (c % 13824)) ∨ (w = 2 ∧ r = zI (sortZ (eM c))) ∨ (w = 3 ∧ ∃ n, OrdN c n ∧ r = nI (n + 1)) ∨ (w ≠ 0 ∧ w ≠ 1 ∧ w ≠ 2 ∧ w ≠ 3 ∧ r = -1)
theorem OfV.fn {c : Nat} {w r r' : Int32} (h : OfV c w r) (h' : OfV c w r') : r = r' := by
  rcases h with ⟨rfl, rfl⟩ | ⟨rfl, rfl⟩ | ⟨rfl, rfl⟩ | ⟨rfl, n, on, rfl⟩ | ⟨n0, n1, n2, n3, rfl⟩ <;> rcases h' with ⟨e, rfl⟩ | ⟨e, rfl⟩ | ⟨e, rfl⟩ | ⟨e, n', on', rfl⟩ | ⟨m0, m1, m2, m3, rfl⟩ <;> first | rfl | exact absurd e (by decide) | exact absurd e (by assumption) | exact absurd rfl (by assumption) | skip
  rw [on.fn on']
def MemA (P : Nat → Int32 → Prop) (GS : List (List Nat)) (x y r : Int32) : Prop := (∃ i j, i < GS.length ∧ j < (GS.getD i []).length ∧ x = nI i ∧ y = nI j ∧ P ((GS.getD i []).getD j 0) r) ∨ ((¬ ∃ i j, i < GS.length ∧ j < (GS.getD i []).length ∧ x = nI i ∧ y = nI j) ∧ r = -1)
theorem MemA.fn {P : Nat → Int32 → Prop} {GS : List (List Nat)} {x y r r' : Int32} (hl : GS.length ≤ 60) (ok : ∀ S ∈ GS, GOk S) (fn : ∀ c r r', P c r → P c r' → r = r') (h : MemA P GS x y r) (h' : MemA P GS x y r') : r = r' := by
  rcases h with ⟨i, j, hi, hj, rfl, rfl, fd⟩ | ⟨no, rfl⟩
  · rcases h' with ⟨i', j', hi', hj', e1, e2, fd'⟩ | ⟨no, rfl⟩
    · rw [nI_inj (by omega) (by omega)] at e1
      subst e1
      have w := (ok _ (gD_mem hi)).2.1
      rw [nI_inj (by omega) (by omega)] at e2
      subst e2
      exact fn _ _ _ fd fd'
    · exact absurd ⟨i, j, hi, hj, rfl, rfl⟩ no
  · rcases h' with ⟨i', j', a1, a2, a3, a4, _⟩ | ⟨_, rfl⟩
    · exact absurd ⟨i', j', a1, a2, a3, a4⟩ no
    · rfl
theorem sp_Ref_of {h : MH} {f : (Nat → Nat → Int32)} {l : (Nat → Nat → Int64)} {GS : List (List Nat)} (hg : RGrp f GS) (ok : ∀ S ∈ GS, GOk S) (x y w : Int32) : SpI k_Ref_of [.ref 54, .int x, .int y, .int w] (sil h f l) (fun r g => MemA (fun c r => OfV c w r) GS x y r ∧ ∃ f', g = sil h f' l ∧ Fr RtIds f f') := by
  have g1 := hg.1
  refine v_Ref_of _ _ _ _ _ _ ⟨K54, SpI.mono (sp_Ref_isMember hg x y) ?_⟩
  rintro r _ ⟨rfl, (⟨i, j, hi, hj, rfl, rfl, rfl⟩ | ⟨ni, rfl⟩)⟩
  · have w' := (hg.2.1 _ (gD_mem hi)).1
    have gi := hg.2.2.2 i hi
    have oS := ok _ (gD_mem hi)
    have mc := getD_mem hj
    have cc := oS.c _ mc
    have cc' : (GS.getD i []).getD j 0 < 272097792 := cc
    refine ⟨fun c => absurd c (by decide), fun _ => ⟨K54, ?_⟩⟩
    rw [R54_15, R54_3, R54_4, show (192 : Int32) = nI 192 from rfl, nI_mul, nI_add, ix_nI (by omega), mi_sil, gi.2 j hj, show (13824 : Int32) = nI 13824 from rfl, div_nI (by omega) (by decide) (by decide), irm_nI (by omega) (by decide) (by decide)]
    refine ⟨K64, InB_nI (show 192 * i + j < 11520 by omega) (by omega), fun e => ⟨_, rfl, Or.inl ⟨i, j, hi, hj, rfl, rfl, Or.inl ⟨e, rfl⟩⟩, f, rfl, Fr.refl⟩, fun n0 => ⟨fun e => ⟨_, rfl, Or.inl ⟨i, j, hi, hj, rfl, rfl, Or.inr (Or.inl ⟨e, rfl⟩)⟩, f, rfl, Fr.refl⟩, fun n1 => ⟨fun e => ?_, fun n2 => ⟨fun e => ?_, fun n3 => ⟨_, rfl, Or.inl ⟨i, j, hi, hj, rfl, rfl, Or.inr (Or.inr (Or.inr (Or.inr ⟨n0, n1, n2, n3, rfl⟩)))⟩, f, rfl, Fr.refl⟩⟩⟩⟩⟩
    · refine SpV.mono (open_ab cc) ?_
      rintro _ ⟨f', rfl, fr, m, s⟩
      rw [R54_3]
      refine ⟨K54, SpI.mono (sp_Ref_sortOf (h := sil h f' l) (a := 57) rfl rfl m (eM_small _)) ?_⟩
      rintro r g0 ⟨e0, rfl⟩
      subst g0
      exact ⟨_, rfl, Or.inl ⟨i, j, hi, hj, rfl, rfl, Or.inr (Or.inr (Or.inl ⟨e, rfl⟩))⟩, f', rfl, fr.mono (by decide)⟩
    · refine WM.mono' (sp_Ref_of_1 oS mc) ?_
      rintro v g ⟨r, rfl, o, f', rfl, fr⟩
      exact ⟨_, rfl, Or.inl ⟨i, j, hi, hj, rfl, rfl, Or.inr (Or.inr (Or.inr (Or.inl ⟨e, o⟩)))⟩, f', rfl, fr⟩
  · exact ⟨fun _ => ⟨_, rfl, Or.inr ⟨ni, rfl⟩, f, rfl, Fr.refl⟩, fun c => absurd rfl c⟩
theorem sp_Ho_of {h : MH} {O : Nat → Nat} {GS : List (List Nat)} (H : SS h) (hg : HGrp h O GS) (x y w : Int32) : SpI k_Ho_of [.ref 5, .int x, .int y, .int w] h (fun r g => MemA (fun c r => OfV c w r) GS x y r ∧ Kp MoIds h g) := by
  have g1 := hg.1
  have e36 : mr h 5 9 = 36 := H.2.2.2 (5, 9, 36) (by decide)
  refine v_Ho_of _ _ _ _ _ _ ⟨H.k5, SpR.mono (sp_Ho_groupAt H hg x) ?_⟩
  rintro r g0 ⟨e0, res⟩
  subst g0
  rcases res with ⟨i, hi, rfl, rfl, nz⟩ | ⟨ni, rfl⟩
  · obtain ⟨ok, ⟨MK, b, cl⟩, _⟩ := hg.at hi
    have w' := ok.2.1
    obtain ⟨b0, ⟨b1, b2, _⟩, ⟨b3, b4, b5⟩, ⟨b6, b7, b8⟩, _⟩ := id b
    have no : ∀ y : Int32, ¬ (0 ≤ y.toInt ∧ y.toInt < ((GS.getD i []).length : Int)) → ¬ ∃ i' j, i' < GS.length ∧ j < (GS.getD i' []).length ∧ nI i = nI i' ∧ y = nI j := by
      rintro y q ⟨i', j, hi', hj, e, rfl⟩
      rw [nI_inj (by omega) (by omega)] at e
      subst e
      rw [nI_toI (by omega)] at q
      omega
    refine ⟨fun c => absurd c nz, fun _ => ?_⟩
    rw [b2, b4, b5, nI_toI (by omega), e36]
    refine ⟨fun c => ⟨_, rfl, Or.inr ⟨no y (by omega), rfl⟩, Kp.refl H⟩, fun c1 => ⟨b1, b3, fun c2 => ?_, fun c => ⟨_, rfl, Or.inr ⟨no y (by omega), rfl⟩, Kp.refl H⟩⟩⟩
    obtain ⟨j, rfl, hj⟩ := op_x c1 c2 (by omega)
    have mc := getD_mem hj
    have cc := ok.c _ mc
    have cc' : (GS.getD i []).getD j 0 < 272097792 := cc
    rw [ix_nI (by omega), b8 j hj, show (13824 : Int32) = nI 13824 from rfl, div_nI (by omega) (by decide) (by decide), irm_nI (by omega) (by decide) (by decide)]
    refine ⟨b6, by rw [b7]; exact InB_nI hj (by omega), fun e => ⟨_, rfl, Or.inl ⟨i, j, hi, hj, rfl, rfl, Or.inl ⟨e, rfl⟩⟩, Kp.refl H⟩, fun n0 => ⟨fun e => ⟨_, rfl, Or.inl ⟨i, j, hi, hj, rfl, rfl, Or.inr (Or.inl ⟨e, rfl⟩)⟩, Kp.refl H⟩, fun n1 => ⟨fun e => ⟨H.k5, H.k36, ?_⟩, fun n2 => ⟨fun e => ⟨H.k5, ?_⟩, fun n3 => ⟨_, rfl, Or.inl ⟨i, j, hi, hj, rfl, rfl, Or.inr (Or.inr (Or.inr (Or.inr ⟨n0, n1, n2, n3, rfl⟩)))⟩, Kp.refl H⟩⟩⟩⟩⟩
    · have A := open_done (h := h) (f := mi h) (l := ml h) cc
      rw [← H.sil] at A
      refine SpV.mono A ?_
      rintro _ ⟨f', rfl, fr, m, s⟩
      rw [R5_9]
      refine ⟨Kd5, K36, SpI.mono (sp_Motion_sort (h := sil h f' (ml h)) (x := 36) (a := 37) rfl rfl rfl rfl m (eM_small _)) ?_⟩
      rintro r g0 ⟨e0, rfl⟩
      subst g0
      exact ⟨_, rfl, Or.inl ⟨i, j, hi, hj, rfl, rfl, Or.inr (Or.inr (Or.inl ⟨e, rfl⟩))⟩, Kp.si3 H (fr.mono (by decide)) Fr.refl⟩
    · have A := sp_Ho_times (h := h) (f := mi h) (l := ml h) ok mc
      rw [← H.sil] at A
      refine SpI.mono A ?_
      rintro r _ ⟨o, f', rfl, fr⟩
      exact ⟨_, rfl, Or.inl ⟨i, j, hi, hj, rfl, rfl, Or.inr (Or.inr (Or.inr (Or.inl ⟨e, o⟩)))⟩, Kp.si3 H fr Fr.refl⟩
  · refine ⟨fun _ => ⟨_, rfl, Or.inr ⟨?_, rfl⟩, Kp.refl H⟩, fun c => absurd rfl c⟩
    rintro ⟨i, j, hi, _, rfl, _⟩
    rw [nI_toI (by omega)] at ni
    omega
