/-! the class's sides: the squares -/
theorem good_in {S : List Nat} (ok : GOk S) {G : Nat → Prop} (hG : ∀ g, G g → g ∈ S) : Good G := by
  have rs : ∀ y, reach G y → y ∈ S := by
    refine reach_ind _ ok.2.2.2.1 ?_
    intro x g y _ hx hg p
    obtain ⟨y', hy, py⟩ := ok.2.2.2.2 x hx g (hG g hg)
    rw [py.fn p] at hy
    exact hy
  refine ⟨fun x hx g hg => ?_, fun L hL hr => ?_⟩
  · obtain ⟨y, _, p⟩ := ok.2.2.2.2 x (rs x hx) g (hG g hg)
    exact ⟨y, p⟩
  · have := sub_len L S hL (fun x hx => rs x (hr x hx))
    have := ok.2.1
    omega
theorem GrpB.f {h : MH} {f f' : (Nat → Nat → Int32)} {l l' : (Nat → Nat → Int64)} {O : Nat → Nat} {t g : Nat} {S MK : List Nat} (b : GrpB (sil h f l) O t g S MK) (e1 : f' (g + 1) = f (g + 1)) (e2 : f' (g + 2) = f (g + 2)) (e3 : f' (g + 3) = f (g + 3)) : GrpB (sil h f' l') O t g S MK :=
  ⟨b.1, b.2.1, ⟨b.2.2.1.1, b.2.2.1.2.1, by rw [mi_sil, e1]; exact b.2.2.1.2.2⟩, ⟨b.2.2.2.1.1, b.2.2.2.1.2.1, fun j hj => by rw [mi_sil, e2]; exact b.2.2.2.1.2.2 j hj⟩, b.2.2.2.2.1, b.2.2.2.2.2.1, fun j hj => by rw [mi_sil, e3]; exact b.2.2.2.2.2.2 j hj⟩
theorem GrpB.fr {h : MH} {f f' : (Nat → Nat → Int32)} {l l' : (Nat → Nat → Int64)} {O : Nat → Nat} {t g r : Nat} {S MK A : List Nat} (b : GrpB (sil h f l) O t g S MK) (fr : Fr (r :: A) f f') (hr : g + 3 < r) (hA : ∀ a ∈ A, a < 99) : GrpB (sil h f' l') O t g S MK := by
  have g99 := b.1.1
  have no : ∀ x, g ≤ x → x ≤ g + 3 → x ∉ r :: A := fun x h1 h2 q => by
    rcases List.mem_cons.mp q with e | e
    · omega
    · have := hA x e; omega
  exact b.f (fr _ (no _ (by omega) (by omega))) (fr _ (no _ (by omega) (by omega))) (fr _ (no _ (by omega) (by omega)))
def SqIds : List Nat := [42, 31, 32, 34, 35, 37, 38, 15, 19, 16, 17, 18, 21, 22, 24, 25, 27, 28]
theorem sq_99 : ∀ a ∈ SqIds, a < 99 := by decide
def QsAt (f : (Nat → Nat → Int32)) (r n : Nat) (V : List Nat) (s : Nat → Nat) : Prop := (∀ u, u < V.length → f 42 u = nI (V.getD u 0)) ∧ (∀ j ∈ V, f r j = nI (s j)) ∧ ∀ j, j < n → j ∉ V → f r j = -1
def Arr (h : MH) (r n : Nat) : Prop := 99 ≤ r ∧ r < hn h ∧ kd h r = 20 ∧ ln h r = n
theorem sq_all {S L MK : List Nat} (ok : GOk S) (cl : Closed L MK) (hm : ∀ m ∈ MK, SqG S m) (al : ∀ j, j < S.length → gm (S.getD j 0) (S.getD j 0) ∈ L) : ∀ y, y ∈ L ↔ Qs S y := by
  intro y
  constructor
  · intro hy
    exact reach_mono (fun g hg => hm g hg) ((cl.1 y).mp hy)
  · revert y
    refine reach_ind _ ((cl.1 _).mpr reach_id) ?_
    rintro x g y _ hx ⟨z, hz, pz⟩ p
    obtain ⟨j, hj, ej⟩ := mem_getD hz
    have gL := al j hj
    rw [ej, gm_of pz] at gL
    obtain ⟨v, pv, rv⟩ := reach_mul cl.2.2.2 cl.2.1 ((cl.1 x).mp hx) g ((cl.1 g).mp gL)
    rw [← pv.fn p]
    exact (cl.1 v).mpr rv
theorem sp_Ho_beginWithSquares {h : MH} {f : (Nat → Nat → Int32)} {l : (Nat → Nat → Int64)} {O : Nat → Nat} {t g r : Nat} {S MK : List Nat} (ok : GOk S) (b : GrpB (sil h f l) O t g S MK) (ar : Arr (sil h f l) r S.length) (hr : g + 3 < r) (z : ∀ j, j < S.length → f r j = -1) :
    SpI k_Ho_beginWithSquares [.ref 5, .ref g, .ref r] (sil h f l) (fun x y => ∃ f' V, y = sil h f' l ∧ Fr (r :: SqIds) f f' ∧ V.Nodup ∧ (∀ j, j ∈ V ↔ j < S.length ∧ Qs S (S.getD j 0)) ∧ QsAt f' r S.length V (fun _ => 0) ∧ x = nI V.length) := by
  have w := ok.2.1
  have r99 := ar.1
  have sq : ∀ j, j < S.length → gm (S.getD j 0) (S.getD j 0) ∈ S := fun j hj => gm_mem ok (getD_mem hj) (getD_mem hj)
  have nr : r ∉ SqIds := fun q => by have := sq_99 r q; omega
  have second : ∀ (L MK' : List Nat), (∀ y, y ∈ L ↔ Qs S y) → ∀ d i (f1 : (Nat → Nat → Int32)) (V : List Nat), L.length - i = d → i ≤ L.length → Fr (r :: SqIds) f f1 → ClAt f1 L MK' → V.length = i → V.Nodup → (∀ F : Nat → Int, (∀ q, q < L.length → (f1 17 q).toInt = F q) → ∀ u, u < i → (S.getD (V.getD u 0) 0 : Int) = F u) → (∀ v ∈ V, v < S.length ∧ Qs S (S.getD v 0)) → QsAt f1 r S.length V (fun _ => 0) →
      WM k_Ho_beginWithSquares p_Ho_beginWithSquares_2 [.ref 5, .ref g, .ref r, .int (nI V.length), .int (nI i), Jv] [] (sil h f1 l) 0 0 (fun v y => ∃ x, v = .int x ∧ ∃ f' V, y = sil h f' l ∧ Fr (r :: SqIds) f f' ∧ V.Nodup ∧ (∀ j, j ∈ V ↔ j < S.length ∧ Qs S (S.getD j 0)) ∧ QsAt f' r S.length V (fun _ => 0) ∧ x = nI V.length) := by
    intro L MK' hL d
    induction d with
    | zero =>
      intro i f1 V hd hi fr hc vl nd vF vq qa
      have l192 := hc.1.2.1
      refine v_Ho_beginWithSquares_2 _ _ _ _ _ _ _ ⟨Kd5, ?_⟩
      rw [R5_4, R15_0, mi_sil, hc.2.2.2.2.1, nI_toI (by omega), nI_toI (by omega)]
      refine ⟨K15, K16, fun q => absurd q (by omega), fun _ => ⟨_, rfl, f1, V, rfl, fr, nd, fun j => ⟨fun hj => vq j hj, fun ⟨hj, qj⟩ => ?_⟩, qa, rfl⟩⟩
      obtain ⟨F, h6, h7, h8⟩ := hc.2.2.2.2.2
      obtain ⟨u, hu, eu⟩ := (h8 _).mp ((hL _).mpr qj)
      have e := vF F h6 u (by omega)
      have : S.getD (V.getD u 0) 0 = S.getD j 0 := by omega
      have vm := getD_mem (L := V) (j := u) (by omega)
      rw [← srt_ix ok.1 (vq _ vm).1 hj this]
      exact vm
    | succ d ih =>
      intro i f1 V hd hi fr hc vl nd vF vq qa
      have l192 := hc.1.2.1
      have il : i < L.length := by omega
      have b1 := b.fr (l' := l) fr hr sq_99
      obtain ⟨F, h6, h7, h8⟩ := hc.2.2.2.2.2
      obtain ⟨x, hx, ex⟩ := row_hit hc.1.1 h8 h7 i il
      have qx := (hL x).mp hx
      have xS := sq_mem ok x qx
      have xb : x < 272097792 := ok.c x xS
      have e17 : f1 17 i = nI x := by
        have := h6 i il
        rw [ex] at this
        rw [of_toI this, zI_nat]
      refine v_Ho_beginWithSquares_2 _ _ _ _ _ _ _ ⟨Kd5, ?_⟩
      rw [R5_4, R15_0, R16_0, mi_sil, hc.2.2.2.2.1, nI_toI (by omega), nI_toI (by omega), ix_nI (by omega), e17, b1.2.1.2.1]
      refine ⟨K15, K16, fun _ => ⟨b1.2.1.1, K17, InB_nI (show i < 192 by omega) (by omega), b1.2.2.1.1, SpI.mono (sp_Row_find _ (b1.row ok.1 ok.2.1 ok.c)) ?_⟩, fun q => absurd (by omega) q⟩
      rw [nI_toI (by omega)]
      rintro r3 g0 ⟨e0, fd⟩
      subst g0
      rcases fd with ⟨k, hk, ek, rfl⟩ | ⟨_, no⟩
      rotate_left
      · obtain ⟨j, hj, ej⟩ := mem_getD xS
        exact absurd (by omega) (no j hj)
      have ek : S.getD k 0 = x := by omega
      have nk : ¬ nI k = -1 := fun q => by
        have e := congrArg Int32.toInt q
        rw [nI_toI (by omega), l_m1] at e
        omega
      have kV : k ∉ V := fun q => by
        obtain ⟨u, hu, eu⟩ := mem_getD q
        have e := vF F h6 u (by omega)
        rw [eu, ek, ← ex] at e
        have := h7 u i (by omega) il
        omega
      refine ⟨fun q => absurd q nk, fun _ => ⟨ar.2.2.1, by rw [show ln (sil h f1 l) r = S.length from ar.2.2.2]; exact InB_nI hk (by omega), ?_⟩⟩
      rintro _ rfl
      rw [R5_12, ix_nI (by omega), ix_nI (by omega)]
      refine ⟨Kd5, K42, InB_nI (show V.length < 192 by omega) (by omega), ?_⟩
      rintro _ rfl
      rw [wi_sil, wi_sil, nI_1, nI_1, ← ls_len V k]
      have r42 : r ≠ 42 := by omega
      refine ih (i + 1) _ (V ++ [k]) (by omega) (by omega) ((fr.up List.mem_cons_self).up (List.mem_cons_of_mem _ (by decide))) (hc.fr (fun a ha => ?_)) (by rw [ls_len]; omega) (ls_nodup nd kV) (fun F' hF' u hu => ?_) (fun v hv => ?_) ⟨fun u hu => ?_, fun j hj => ?_, fun j hj nj => ?_⟩
      · rw [up2_row (by omega), up2_row (by omega)]
      · have hF : ∀ q, q < L.length → (f1 17 q).toInt = F' q := fun q hq => by
          have := hF' q hq
          rw [up2_ne (by decide), up2_ne (by omega)] at this
          exact this
        by_cases e : u = V.length
        · subst e
          rw [getD_end, ek, ← ex, ← h6 i il, vl, hF i il]
        · rw [getD_left (by omega)]
          exact vF F' hF u (by omega)
      · rcases ls_mem.mp hv with q | q
        · exact vq v q
        · rw [q, ek]; exact ⟨hk, qx⟩
      · rw [ls_len] at hu
        by_cases e : u = V.length
        · subst e; rw [up2_s, getD_end]
        · rw [up2_ni e, getD_left (by omega), up2_ne (by omega)]; exact qa.1 u (by omega)
      · rw [up2_ne r42]
        rcases ls_mem.mp hj with q | q
        · have jk : j ≠ k := fun e => kV (e ▸ q)
          rw [up2_ni jk]; exact qa.2.1 j q
        · rw [q, up2_s]; rfl
      · rw [up2_ne r42, up2_ni (fun e => nj (ls_mem.mpr (Or.inr e)))]
        exact qa.2.2 j hj (fun q => nj (ls_mem.mpr (Or.inl q)))
  have first : ∀ d i (f1 : (Nat → Nat → Int32)) (L MK' : List Nat), S.length - i = d → i ≤ S.length → Fr SqIds f f1 → ClAt f1 L MK' → Closed L MK' → (∀ m ∈ MK', SqG S m) → (∀ j, j < i → gm (S.getD j 0) (S.getD j 0) ∈ L) →
      WM k_Ho_beginWithSquares p_Ho_beginWithSquares_1 [.ref 5, .ref g, .ref r, .int (nI i), Jv, Jv] [] (sil h f1 l) 0 0 (fun v y => ∃ x, v = .int x ∧ ∃ f' V, y = sil h f' l ∧ Fr (r :: SqIds) f f' ∧ V.Nodup ∧ (∀ j, j ∈ V ↔ j < S.length ∧ Qs S (S.getD j 0)) ∧ QsAt f' r S.length V (fun _ => 0) ∧ x = nI V.length) := by
    intro d
    induction d with
    | zero =>
      intro i f1 L MK' hd hi fr hc cl hm al
      have fr' : Fr (r :: SqIds) f f1 := fr.mono (fun a ha => List.mem_cons_of_mem _ ha)
      have b1 := b.fr (l' := l) fr' hr sq_99
      refine v_Ho_beginWithSquares_1 _ _ _ _ _ _ ⟨b1.2.1.1, ?_⟩
      rw [b1.2.1.2.1, b1.2.2.1.2.2, nI_toI (by omega), nI_toI (by omega)]
      refine ⟨b1.2.2.1.1, fun q => absurd q (by omega), fun _ => ?_⟩
      exact second L MK' (sq_all ok cl hm (fun j hj => al j (by omega))) _ 0 f1 [] rfl (Nat.zero_le _) fr' hc rfl List.nodup_nil (fun _ _ u hu => absurd hu (Nat.not_lt_zero u)) (fun v hv => absurd hv List.not_mem_nil) ⟨fun u hu => absurd hu (Nat.not_lt_zero u), fun j hj => absurd hj List.not_mem_nil, fun j hj _ => by rw [fr r nr]; exact z j hj⟩
    | succ d ih =>
      intro i f1 L MK' hd hi fr hc cl hm al
      have il : i < S.length := by omega
      have fr' : Fr (r :: SqIds) f f1 := fr.mono (fun a ha => List.mem_cons_of_mem _ ha)
      have b1 := b.fr (l' := l) fr' hr sq_99
      have aS := getD_mem il
      refine v_Ho_beginWithSquares_1 _ _ _ _ _ _ ⟨b1.2.1.1, ?_⟩
      rw [b1.2.1.2.1, b1.2.2.1.2.2, b1.2.2.1.2.1, b1.2.2.2.1.2.1, nI_toI (by omega), nI_toI (by omega), ix_nI (by omega), b1.2.2.2.1.2.2 i il, R5_4, nI_1]
      refine ⟨b1.2.2.1.1, fun _ => ⟨Kd5, b1.2.2.2.1.1, InB_nI il (by omega), SpI.mono (joined_fr (ok.c _ aS) (ok.c _ aS)) ?_⟩, fun q => absurd (by omega) q⟩
      rintro r1 _ ⟨rfl, f2, rfl, fr2⟩
      obtain ⟨pz, zS, ez⟩ := ok.pr aS aS
      rw [ez, zI_nat]
      have hc2 : ClAt f2 L MK' := hc.fr (fun a ha => fr2 a (by rcases ha with rfl | rfl | rfl | rfl | rfl <;> decide))
      have sg : SqG S (prod (S.getD i 0) (S.getD i 0)).toNat := ⟨_, aS, pz⟩
      refine ⟨K15, SpI.mono (cl_take hc2 cl (ok.2.2.1 _ zS)) ?_⟩
      rintro r2 _ ⟨f3, rfl, fr3, res⟩
      have fr3' : Fr SqIds f f3 := (fr.trans (fr2.mono (by decide))).trans (fr3.mono (by decide))
      rcases res with ⟨_, L', MK2, c', cl', ic, old, new⟩ | ⟨_, ng⟩
      · refine ih (i + 1) f3 L' MK2 (by omega) (by omega) fr3' c' cl' (fun m hm' => ?_) (fun j hj => ?_)
        · rcases new m hm' with q | q
          · exact hm m q
          · rw [q]; exact sg
        · by_cases e : j = i
          · subst e; exact ic
          · exact (cl'.1 _).mpr (reach_mono (fun g hg => old g hg) ((cl.1 _).mp (al j (by omega))))
      · exact absurd (good_in ok (fun g hg => by
          rcases hg with q | q
          · exact sq_in ok (hm g q)
          · rw [q]; exact zS)) ng
  refine v_Ho_beginWithSquares _ _ _ _ _ ⟨Kd5, ?_⟩
  rw [R5_4]
  refine ⟨K15, SpV.mono cl_begin ?_⟩
  rintro _ ⟨f1, rfl, fr1, c1, cl1⟩
  exact first _ 0 f1 [idc] [] rfl (Nat.zero_le _) (fr1.mono (by decide)) c1 cl1 (fun m hm => absurd hm List.not_mem_nil) (fun j hj => absurd hj (Nat.not_lt_zero j))
