/-! an operation is taken into the closure -/
def Closed (L MK : List Nat) : Prop := (∀ y, y ∈ L ↔ reach (fun g => g ∈ MK) y) ∧ Total (fun g => g ∈ MK) ∧ 2 ^ MK.length ≤ L.length ∧ ∀ m ∈ MK, isOp m
def TkIds : List Nat := 15 :: 19 :: ClIds
theorem Good.mono {G G' : Nat → Prop} (h : Good G') (hs : ∀ g, G g → G' g) : Good G :=
  ⟨fun x hx g hg => h.1 x (reach_mono hs hx) g (hs g hg), fun L hn hL => h.2 L hn (fun x hx => reach_mono hs (hL x hx))⟩
def TakeP (h : MH) (f0 : (Nat → Nat → Int32)) (l : (Nat → Nat → Int64)) (L MK : List Nat) (c : Nat) (r : Int32) (g : MH) : Prop := ∃ f', g = sil h f' l ∧ Fr TkIds f0 f' ∧
  ((r = 1 ∧ ∃ L' MK', ClAt f' L' MK' ∧ Closed L' MK' ∧ c ∈ L' ∧ (∀ m ∈ MK, m ∈ MK') ∧ ∀ m ∈ MK', m ∈ MK ∨ m = c) ∨ (r = 0 ∧ ¬ Good (fun g => g ∈ MK ∨ g = c)))
theorem cl_take {h : MH} {f : (Nat → Nat → Int32)} {l : (Nat → Nat → Int64)} {L MK : List Nat} {c : Nat} (hc : ClAt f L MK) (cl : Closed L MK) (hop : isOp c) : SpI k_Closure_take [.ref 15, .int (nI c)] (sil h f l) (fun r g => TakeP h f l L MK c r g) := by
  have hco : c < 272097792 := hop.1
  have tc : (nI c).toInt = (c : Int) := nI_toI (by omega)
  have m8 := hc.1.2.2.1
  have l192 := hc.1.2.1
  obtain ⟨F, hr, hm⟩ := hc.row (h := h) (l := l)
  refine v_Closure_take _ _ _ _ ⟨K15, ?_⟩
  rw [R15_0]
  refine ⟨K16, SpI.mono (sp_Row_find (nI c) hr) ?_⟩
  rw [tc]
  rintro r g ⟨e, (⟨k, hk, ek, er⟩ | ⟨er, nm⟩)⟩
  · subst g er
    have kb : k < 2147483648 := by omega
    refine ⟨fun w => ?_, fun _ => ⟨_, rfl, f, rfl, Fr.refl, Or.inl ⟨rfl, L, MK, hc, cl, (hm c).mpr ⟨k, hk, ek⟩, fun m h => h, fun m h => Or.inl h⟩⟩⟩
    have e := congrArg Int32.toInt w
    rw [nI_toI kb, l_m1] at e
    omega
  subst g er
  have nc : c ∉ L := fun q => by obtain ⟨i, hi, ei⟩ := (hm c).mp q; exact nm i hi ei
  have nrc : ¬ reach (fun g => g ∈ MK) c := fun q => nc ((cl.1 c).mpr q)
  have e3 : mi (sil h f l) 15 3 = nI MK.length := hc.2.1
  have lt8 : MK.length < 8 := by
    rcases Nat.lt_or_ge MK.length 8 with q | q
    · exact q
    · have : MK.length = 8 := by omega
      have := cl.2.2.1
      rw [‹MK.length = 8›] at this
      omega
  refine ⟨fun _ => ⟨K15, ?_⟩, fun w => absurd rfl w⟩
  rw [e3, nI_toI (by omega), R15_2, R15_0, show mi (sil h f l) 16 1 = nI L.length from hc.2.2.2.2.1]
  refine ⟨fun _ => ⟨K16, K19, InB_nI (show MK.length < 8 from lt8) (by omega), ?_⟩, fun w => absurd (by show (MK.length : Int) < 8; omega) w⟩
  rintro _ rfl
  rintro _ rfl
  have e3' : mi (wi (sil h f l) 19 (ix (nI MK.length)) (nI c)) 15 3 = nI MK.length := by rw [wi_sil, mi_sil, up2_ne (by decide)]; exact hc.2.1
  rw [e3', nI_1, wi_sil, wi_sil, ix_nI (by omega)]
  have lenM : (MK ++ [c]).length = MK.length + 1 := by rw [List.length_append]; rfl
  have c1 : ClAt (up2 (up2 f 19 MK.length (nI c)) 15 3 (nI (MK.length + 1))) L (MK ++ [c]) := by
    obtain ⟨h1, h2, h3, h4, h5, F, h6, h7, h8⟩ := hc
    refine ⟨⟨h1.1, h1.2.1, by rw [lenM]; omega, h1.2.2.2.1, fun x hx => ?_⟩, by rw [up2_s, lenM], fun j hj => ?_, fun j hj => ?_, ?_, F, fun i hi => ?_, h7, h8⟩
    · rcases List.mem_append.mp hx with hx | hx
      · exact h1.2.2.2.2 x hx
      · rw [List.mem_singleton] at hx; rw [hx]; exact hop.1
    · rw [lenM] at hj
      rw [up2_ne (by decide)]
      by_cases e : j = MK.length
      · subst e; rw [up2_s, getD_end]
      · rw [up2_ni e, getD_left (by omega)]; exact h3 j (by omega)
    · rw [up2_ne (by decide), up2_ne (by decide)]; exact h4 j hj
    · rw [up2_ne (by decide), up2_ne (by decide)]; exact h5
    · rw [up2_ne (by decide), up2_ne (by decide)]; exact h6 i hi
  have fr1 : Fr TkIds f (up2 (up2 f 19 MK.length (nI c)) 15 3 (nI (MK.length + 1))) := (Fr.refl.up (by decide)).up (by decide)
  generalize up2 (up2 f 19 MK.length (nI c)) 15 3 (nI (MK.length + 1)) = f1 at c1 fr1 ⊢
  let G : Nat → Prop := fun g => g ∈ MK ++ [c]
  have hG : Ops G := fun g hg => by
    rcases List.mem_append.mp hg with hg | hg
    · exact cl.2.2.2 g hg
    · rw [List.mem_singleton] at hg; rw [hg]; exact hop
  have GE : ∀ g, G g ↔ (g ∈ MK ∨ g = c) := fun g => by show g ∈ MK ++ [c] ↔ _; rw [List.mem_append, List.mem_singleton]
  have upG : ∀ y, reach (fun g => g ∈ MK) y → reach G y := fun y hy => reach_mono (fun g hg => List.mem_append_left _ hg) hy
  have L0 : ∀ y ∈ L, reach G y := fun y hy => upG y ((cl.1 y).mp hy)
  have bad : ¬ Good G → ¬ Good (fun g => g ∈ MK ∨ g = c) := fun q gd => q (gd.mono (fun g hg => (GE g).mp hg))
  have main : ∀ (d i : Nat) (f2 : (Nat → Nat → Int32)) (N : List Nat), 192 - i ≤ d → i ≤ (L ++ N).length → Fr TkIds f f2 → ClAt f2 (L ++ N) (MK ++ [c]) → (∀ y ∈ N, reach G y) → (∀ i', i' < i → ∀ j, j < (MK ++ [c]).length → ∃ y ∈ L ++ N, Pr ((L ++ N).getD i' 0) ((MK ++ [c]).getD j 0) y) →
      WM k_Closure_take p_Closure_take_1 [.ref 15, Jv, .int (nI L.length), .int (nI i)] [] (sil h f2 l) 0 0 (fun v g => ∃ r, v = .int r ∧ TakeP h f l L MK c r g) := by
    have stop : ∀ (i : Nat) (f2 : (Nat → Nat → Int32)) (N : List Nat), i = (L ++ N).length → Fr TkIds f f2 → ClAt f2 (L ++ N) (MK ++ [c]) → (∀ y ∈ N, reach G y) → (∀ i', i' < i → ∀ j, j < (MK ++ [c]).length → ∃ y ∈ L ++ N, Pr ((L ++ N).getD i' 0) ((MK ++ [c]).getD j 0) y) → ∃ r, Value.int 1 = .int r ∧ TakeP h f l L MK c r (sil h f2 l) := by
      intro i f2 N ei fr c2 hN done
      have all : ∀ y ∈ L ++ N, reach G y := fun y hy => by
        rcases List.mem_append.mp hy with hy | hy
        · exact L0 y hy
        · exact hN y hy
      have step : ∀ x ∈ L ++ N, ∀ g, G g → ∃ y ∈ L ++ N, Pr x g y := by
        intro x hx g hg
        obtain ⟨i', hi', ex⟩ := mem_getD hx
        obtain ⟨j, hj, eg⟩ := mem_getD hg
        obtain ⟨y, hy, py⟩ := done i' (by omega) j hj
        rw [ex, eg] at py
        exact ⟨y, hy, py⟩
      have sub : ∀ y, reach G y → y ∈ L ++ N := reach_ind _ (List.mem_append_left _ ((cl.1 idc).mpr reach_id)) (fun x g y _ hx hg hp => by
        obtain ⟨z, hz, pz⟩ := step x hx g hg
        rw [hp.fn pz]; exact hz)
      have tot : Total G := fun x hx g hg => by
        obtain ⟨y, _, py⟩ := step x (sub x hx) g hg
        exact ⟨y, py⟩
      have eqG : ∀ y, reach (fun g => g ∈ MK ∨ g = c) y → reach G y := fun y hy => reach_mono (fun g hg => (GE g).mpr hg) hy
      have dbl : 2 * L.length ≤ (L ++ N).length := doubles (G := fun g => g ∈ MK) (c := c) cl.2.2.2 hop cl.2.1 hc.1.1 cl.1 (fun x hx g hg => tot x (eqG x hx) g ((GE g).mpr hg)) (fun y hy => sub y (eqG y hy)) nrc
      refine ⟨_, rfl, f2, rfl, fr, Or.inl ⟨rfl, L ++ N, MK ++ [c], c2, ⟨fun y => ⟨all y, sub y⟩, tot, ?_, hG⟩, sub c (reach_gen hG ((GE c).mpr (Or.inr rfl))), fun m hm => List.mem_append_left _ hm, fun m hm => (GE m).mp hm⟩⟩
      rw [lenM, Nat.pow_succ]
      have := cl.2.2.1
      omega
    intro d
    induction d with
    | zero =>
      intro i f2 N h1 h2 fr c2 hN done
      have b := c2.1.2.1
      have n16 : mi (sil h f2 l) 16 1 = nI (L ++ N).length := c2.2.2.2.2.1
      have fin := stop i f2 N (by omega) fr c2 hN done
      refine v_Closure_take_1 _ _ _ _ _ ⟨K15, ?_⟩
      rw [R15_0, n16, nI_toI (by omega), nI_toI (by omega)]
      exact ⟨K16, fun w => absurd w (by omega), fun _ => fin⟩
    | succ d ih =>
      intro i f2 N h1 h2 fr c2 hN done
      have b := c2.1.2.1
      have n16 : mi (sil h f2 l) 16 1 = nI (L ++ N).length := c2.2.2.2.2.1
      have e15 : mi (sil h f2 l) 15 3 = nI (MK.length + 1) := by rw [← lenM]; exact c2.2.1
      have t192 : (192 : Int32).toInt = 192 := rfl
      refine v_Closure_take_1 _ _ _ _ _ ⟨K15, ?_⟩
      rw [R15_0, n16, nI_toI (by omega), nI_toI (by omega), nI_toI (by omega), t192, R15_1, e15]
      refine ⟨K16, fun w => ⟨fun w2 => ⟨K18, InB_nI (show i < 192 by omega) (by omega), ?_⟩, fun w2 => absurd (by omega) w2⟩, fun w => stop i f2 N (by omega) fr c2 hN done⟩
      have hi : i < (L ++ N).length := by omega
      have ef : mi (sil h f2 l) 18 (ix (nI i)) = nI ((L ++ N).getD i 0) := by rw [ix_nI (by omega)]; exact c2.2.2.2.1 i hi
      have rx : reach G ((L ++ N).getD i 0) := by
        have := getD_mem hi
        rcases List.mem_append.mp this with q | q
        · exact L0 _ q
        · exact hN _ q
      have LN : ∀ y ∈ L ++ N, reach G y := fun y hy => by
        rcases List.mem_append.mp hy with hy | hy
        · exact L0 y hy
        · exact hN y hy
      rw [ef, nI_1, show nI (MK.length + 1) - (1 : Int32) = nI MK.length by show nI (MK.length + 1) - nI 1 = _; rw [pk_sub (by omega)]; rfl]
      have after : ∀ (fm : Nat) (r : Int32) (g : MH), (∀ j, j < fm → ∃ y ∈ L ++ N, Pr ((L ++ N).getD i 0) ((MK ++ [c]).getD j 0) y) → ExtP h f2 l G (L ++ N) (MK ++ [c]) ((L ++ N).getD i 0) fm r g →
          (r = 0 → ∃ r', Value.int 0 = .int r' ∧ TakeP h f l L MK c r' g) ∧ (¬ r = 0 → WM k_Closure_take p_Closure_take_1 [.ref 15, Jv, .int (nI L.length), .int (nI (i + 1))] [] g 0 0 (fun v g => ∃ r, v = .int r ∧ TakeP h f l L MK c r g)) := by
        rintro fm r g old ⟨f3, rfl, fr3, (⟨rfl, N2, c3, hN2, new⟩ | ⟨rfl, gd⟩)⟩
        · refine ⟨fun w => absurd w (by decide), fun _ => ?_⟩
          rw [List.append_assoc] at c3 new
          have ge : ∀ i', i' < (L ++ N).length → (L ++ (N ++ N2)).getD i' 0 = (L ++ N).getD i' 0 := fun i' hi' => by rw [← List.append_assoc]; exact getD_left hi'
          have inc : ∀ y ∈ L ++ N, y ∈ L ++ (N ++ N2) := fun y hy => by rw [← List.append_assoc]; exact List.mem_append_left _ hy
          refine ih (i + 1) f3 (N ++ N2) (by omega) (by rw [← List.append_assoc, List.length_append]; omega) (fr.trans (fr3.mono (by decide))) c3 (fun y hy => ?_) (fun i' hi' j hj => ?_)
          · rcases List.mem_append.mp hy with hy | hy
            · exact hN y hy
            · exact hN2 y hy
          · rw [ge i' (by omega)]
            by_cases ei : i' = i
            · subst ei
              by_cases hj2 : j < fm
              · obtain ⟨y, hy, py⟩ := old j hj2
                exact ⟨y, inc y hy, py⟩
              · exact new j (by omega) hj
            · obtain ⟨y, hy, py⟩ := done i' (by omega) j hj
              exact ⟨y, inc y hy, py⟩
        · exact ⟨fun _ => ⟨_, rfl, f3, rfl, fr.trans (fr3.mono (by decide)), Or.inr ⟨rfl, bad gd⟩⟩, fun w => absurd rfl w⟩
      refine ⟨fun wl => SpI.mono (cl_extend (G := G) (fm := MK.length) c2 hG (fun m hm => hm) LN rx (by rw [lenM]; omega)) (fun r g q => after MK.length r g (fun j hj => ?_) q), fun wl => SpI.mono (cl_extend (G := G) (fm := 0) c2 hG (fun m hm => hm) LN rx (Nat.zero_le _)) (fun r g q => after 0 r g (fun j hj => absurd hj (Nat.not_lt_zero j)) q)⟩
      have il : i < L.length := by omega
      rw [getD_left il, getD_left hj]
      have mj : MK.getD j 0 ∈ MK := getD_mem hj
      obtain ⟨y, py⟩ := cl.2.1 _ ((cl.1 _).mp (getD_mem il)) _ mj
      exact ⟨y, List.mem_append_left _ ((cl.1 y).mpr (reach_step ((cl.1 _).mp (getD_mem il)) mj py)), py⟩
  exact main 192 0 f1 [] (by omega) (Nat.zero_le _) fr1 (by rw [List.append_nil]; exact c1) (fun y hy => by cases hy) (fun i' hi' => absurd hi' (Nat.not_lt_zero i'))
/-- the closure begins -/
theorem cl_begin {h : MH} {f : (Nat → Nat → Int32)} {l : (Nat → Nat → Int64)} : SpV k_Closure_begin [.ref 15] (sil h f l) (fun g => ∃ f', g = sil h f' l ∧ Fr TkIds f f' ∧ ClAt f' [idc] [] ∧ Closed [idc] []) := by
  refine SpV.mono sp_Closure_begin ?_
  rintro _ ⟨f', rfl, q1, q2, q3, q4, q5⟩
  have ti : (nI idc).toInt = (idc : Int) := nI_toI (by decide)
  refine ⟨f', rfl, fun a ha => q1 a (fun q => ha (by rw [q]; decide)) (fun q => ha (by rw [q]; decide)) (fun q => ha (by rw [q]; decide)) (fun q => ha (by rw [q]; decide)), ⟨⟨List.nodup_cons.mpr ⟨by simp, List.nodup_nil⟩, by decide, by decide, fun x hx => ?_, fun x hx => by cases hx⟩, q5, fun j hj => absurd hj (Nat.not_lt_zero j), fun j hj => ?_, q2, fun _ => (idc : Int), fun i hi => ?_, fun i j h1 h2 => ?_, fun x => ?_⟩, ⟨fun y => ?_, fun x _ g hg => absurd hg List.not_mem_nil, by decide, fun m hm => absurd hm List.not_mem_nil⟩⟩
  · rw [List.mem_singleton] at hx; rw [hx]; exact id_ok
  · have : j = 0 := by simp only [List.length_cons, List.length_nil] at hj; omega
    subst this; exact q4
  · have : i = 0 := by simp only [List.length_cons, List.length_nil] at hi; omega
    subst this; rw [q3]; exact ti
  · simp only [List.length_cons, List.length_nil] at h2; omega
  · rw [List.mem_singleton]
    constructor
    · intro e; exact ⟨0, by simp, by rw [e]⟩
    · rintro ⟨_, _, e⟩
      have e : (idc : Int) = x := e
      omega
  · rw [List.mem_singleton]
    constructor
    · intro e; rw [e]; exact reach_id
    · intro hy
      exact reach_ind (fun y => y = idc) rfl (fun x g y _ _ hg _ => absurd hg List.not_mem_nil) y hy
