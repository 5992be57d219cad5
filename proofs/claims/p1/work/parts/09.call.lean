/-! calls, entry, and runs of instructions -/
def SpV (k : Nat) (as : List Value) (h : MH) (P : MH → Prop) : Prop := Sp k as h (fun _ h' => P h')
def SpI (k : Nat) (as : List Value) (h : MH) (P : Int32 → MH → Prop) : Prop := Sp k as h (fun v h' => ∃ x, v = .int x ∧ P x h')
def SpL (k : Nat) (as : List Value) (h : MH) (P : Int64 → MH → Prop) : Prop := Sp k as h (fun v h' => ∃ x, v = .long x ∧ P x h')
def SpR (k : Nat) (as : List Value) (h : MH) (P : Nat → MH → Prop) : Prop := Sp k as h (fun v h' => ∃ x, v = .ref x ∧ P x h')
def cnt (t k : Nat) (as : List Value) (h : MH) (r : List Value) (f : List Value → MH → Prop) : Prop := match t with
  | 0 => SpV k as h (fun h' => f r h')
  | 1 => SpI k as h (fun x h' => f (.int x :: r) h')
  | 2 => SpL k as h (fun x h' => f (.long x :: r) h')
  | _ => SpR k as h (fun x h' => f (.ref x :: r) h')
/-- a call with no receiver -/
def S_cs (t k n mc' ms' mc ms : Nat) : Sem := fun L st h cc ss nx _ _ => gd n st.length (gd (((st.drop n).map fun v => v.category).sum) 8 (gd (cc + mc') mc (gd (ss + ms') ms (cnt t k (st.take n).reverse h (st.drop n) (fun st' h' => nx L st' h' (cc + mc') (ss + ms'))))))
/-- a call on an object of kind d -/
def rcv (d : Nat) (h : MH) (st : List Value) (P : Prop) : Prop := match st with
  | .ref a :: _ => kd h a = d ∧ P
  | _ => False
theorem rcv_of {d : Nat} {h : MH} {st : List Value} {P : Prop} (q : rcv d h st P) : ∃ (a : Nat) (r : List Value), st = .ref a :: r ∧ kd h a = d ∧ P := by
  unfold rcv at q
  split at q
  · exact ⟨_, _, rfl, q.1, q.2⟩
  · exact q.elim
def S_cv (t k n d mc' ms' mc ms : Nat) : Sem := fun L st h cc ss nx _ _ => gd (((st.drop (n + 1)).map fun v => v.category).sum) 8 (rcv d h (st.drop n) (gd (cc + mc') mc (gd (ss + ms') ms (cnt t k (st.take (n + 1)).reverse h (st.drop (n + 1)) (fun st' h' => nx L st' h' (cc + mc') (ss + ms'))))))
theorem KN.same {G : WG} {s U : State} (hv : s.vm = U.vm) (h : KN G s) : KN G U := by
  have hvm : s.vm.Alike U.vm := by rw [hv]; exact Vm.Alike.refl _
  refine ⟨fun c hc => u_Kn_moved hvm (h.1 c hc), fun k k1 k2 => ?_, fun w hw => va_Nw.same (nest_tab w hw) hv (h.2.2.1 w hw), fun k k1 k2 => ao_moved hvm (h.2.2.2 k k1 k2)⟩
  obtain ⟨kA, comp, a1, a2, a3, a4⟩ := h.2.1 k k1 k2
  obtain ⟨k', hk', he⟩ := hvm.2.2 _ _ a1
  exact ⟨k', comp, hk', by rw [he]; exact a2, by rw [hvm.findClass]; exact a3, a4⟩
theorem PcM.blind {G : WG} {as : List Value} {h : MH} : FrameBlind (PcM G as h) := fun a U g mk q => ⟨q.1, q.2.1.moved (u := U) (U := U.calling g mk a) (Vm.Alike.refl U.vm), KN.same (s := U) (U := U.calling g mk a) rfl q.2.2⟩
theorem PcM.at {G : WG} {as : List Value} {h : MH} {s : State} {H : Heap} (r : RP G h s H) (q : KN G s) : ∀ U : State, U.heap = H → s.WarmedH U.vm → PcM G as h (as.map (em G)).toArray U := fun U hU hW => ⟨rfl, by rw [hU]; exact r.warm hW, q.warm hW⟩
section GO
variable {p : Program} {l : Launch} {e : Env} {R : Room} {s : State} {m : MethodId} {args : Array Value} {below : List Frame} {meth : Method} {c : Code} {H : Heap} {locs : List Loc} {cells slots : Nat} {Q : State → Prop}
theorem go_call {mc ms : Nat} {g : JFrame} {rest : List Value} {Qa : State → Outcome → State → Prop} {free : Addr → Prop} (hr : va_Run p l e R s m args below meth c H locs cells slots mc ms g rest Qa free)
    (kk : ∀ (v : Option Value) (st₀ t : State) (L : List Loc), (∀ q ∈ L, free q.base) → Qa st₀ (.returned v) t → s.vm.Alike t.vm → W p l e R s m args below meth c t.heap (locs ++ L) (cells + mc) (slots + ms) Q { g with pc := g.pc + 3, stack := v.toList ++ rest }) : W p l e R s m args below meth c H locs cells slots Q g := by
  intro T hT Y
  obtain ⟨v, st₀, t, T', L, h0, Y', hL, e1, e2, hq, st⟩ := hr T hT Y
  obtain ⟨t2, a1, b1⟩ := kk v st₀ t L hL hq (by rw [← e2]; exact Y'.warmed.alike) T' e1 Y'
  exact ⟨t2, st t2 a1, b1⟩
end GO
theorem wsG_code {k : Nat} (h : Cond.code (yM k) (bM k) (lM k) (rM k) ∈ wsG) : GoodIn wsG (wM k) := by
  intro w hw
  rcases List.mem_cons.mp hw with rfl | hw
  · exact ⟨h, good_of_word (wsG_good _ h)⟩
  · exact ⟨hw, good_of_word (wsG_good _ hw)⟩
theorem wsG_in {ws : List Cond} (h : ∀ w ∈ ws, w ∈ wsG) : GoodIn wsG ws := fun w hw => ⟨h w hw, good_of_word (wsG_good _ (h w hw))⟩
/-- what is known of a method that is called -/
def MB (k : Nat) : Prop := Cond.code (yM k) (bM k) (lM k) (rM k) ∈ wsG ∧ (Cond.initialized (yM k).cls ∈ wsG) ∧ ((yM k).cls ≠ "java/lang/invoke/MethodHandle" ∧ (yM k).cls ≠ "java/lang/invoke/VarHandle" ∧ (parseMethodDescriptor (yM k).desc).map (fun d => d.parameters.length) = some (nA k))
theorem Sp.monoT {k : Nat} {as : List Value} {h : MH} (P P' : Value → MH → Prop) (h1 : Sp k as h P) (h2 : ∀ v h', vT k v → P v h' → P' v h') : Sp k as h P' := by
  intro l G
  have h3 := h1 l G
  refine MetFree.mono h3 (fun _ _ q => q) (fun _ _ _ _ _ _ => trivial) ?_
  rintro a st o t - ⟨⟨v, h', e1, e2, e3, e4⟩, e5⟩
  exact ⟨⟨v, h', e1, e2, e3, h2 v h' e2 e4⟩, e5⟩
theorem Sp.mono {k : Nat} {as : List Value} {h : MH} {P P' : Value → MH → Prop} (h1 : Sp k as h P) (h2 : ∀ v h', P v h' → P' v h') : Sp k as h P' := Sp.monoT P P' h1 (fun v h' _ q => h2 v h' q)
theorem SpV.mono {k : Nat} {as : List Value} {h : MH} {P P' : MH → Prop} (h1 : SpV k as h P) (h2 : ∀ h', P h' → P' h') : SpV k as h P' := Sp.mono h1 (fun _ h' q => h2 h' q)
theorem SpI.mono {k : Nat} {as : List Value} {h : MH} {P P' : Int32 → MH → Prop} (h1 : SpI k as h P) (h2 : ∀ x h', P x h' → P' x h') : SpI k as h P' := Sp.mono h1 (fun _ h' q => by obtain ⟨x, e, q⟩ := q; exact ⟨x, e, h2 x h' q⟩)
theorem SpL.mono {k : Nat} {as : List Value} {h : MH} {P P' : Int64 → MH → Prop} (h1 : SpL k as h P) (h2 : ∀ x h', P x h' → P' x h') : SpL k as h P' := Sp.mono h1 (fun _ h' q => by obtain ⟨x, e, q⟩ := q; exact ⟨x, e, h2 x h' q⟩)
theorem SpR.mono {k : Nat} {as : List Value} {h : MH} {P P' : Nat → MH → Prop} (h1 : SpR k as h P) (h2 : ∀ x h', P x h' → P' x h') : SpR k as h P' := Sp.mono h1 (fun _ h' q => by obtain ⟨x, e, q⟩ := q; exact ⟨x, e, h2 x h' q⟩)
theorem cnt_go {t k : Nat} {as : List Value} {h : MH} {rr : List Value} {f : List Value → MH → Prop} (ht : t = (if rK k = 4 then 1 else rK k)) (hk5 : rK k ≤ 4) (hs : cnt t k as h rr f) : Sp k as h (fun v h' => ∃ st', f st' h' ∧ ∀ G : WG, st'.map (em G) = (rv G k v).toList ++ rr.map (em G)) := by
  have key : ∀ (v : Value) (h' : MH) (r' : List Value), r' = (if rK k = 0 then rr else v :: rr) → f r' h' → ∃ st', f st' h' ∧ ∀ G : WG, st'.map (em G) = (rv G k v).toList ++ rr.map (em G) := by
    intro v h' r' e hf
    refine ⟨r', hf, fun G => ?_⟩
    subst e
    unfold rv
    split <;> rfl
  have mono := @Sp.monoT k as h
  have h4 : rK k = 0 ∨ rK k = 1 ∨ rK k = 2 ∨ rK k = 3 ∨ rK k = 4 := by omega
  rcases h4 with e | e | e | e | e <;> rw [e] at ht <;> subst ht
  · refine mono _ _ hs (fun v h' hv hp => key v h' _ ?_ hp)
    rw [if_pos e]
  · refine mono _ _ hs (fun v h' hv hp => ?_)
    obtain ⟨x, rfl, hp⟩ := hp
    exact key _ h' _ (by rw [if_neg (by omega)]) hp
  · refine mono _ _ hs (fun v h' hv hp => ?_)
    obtain ⟨x, rfl, hp⟩ := hp
    exact key _ h' _ (by rw [if_neg (by omega)]) hp
  · refine mono _ _ hs (fun v h' hv hp => ?_)
    obtain ⟨x, rfl, hp⟩ := hp
    exact key _ h' _ (by rw [if_neg (by omega)]) hp
  · refine mono _ _ hs (fun v h' hv hp => ?_)
    obtain ⟨x, rfl, hp⟩ := hp
    exact key _ h' _ (by rw [if_neg (by omega)]) hp

section SC
variable {k pc : Nat} {pcs : Nat → Nat}
theorem rev_map {G : WG} {st : List Value} {n : Nat} : st.map (em G) = ((st.take n).reverse.map (em G)).reverse ++ (st.drop n).map (em G) := by
  rw [← List.map_reverse, List.reverse_reverse, ← List.map_append, List.take_append_drop]
/-- a static method -/
theorem s_cs {t kc n idx mc' ms' mc ms : Nat} (hM : MB kc) (hst : Cond.static (yM kc) ∈ wsG) (hw : Cond.methodLink (yM k).cls idx (yM kc) ∈ wsG) (hnA : nA kc = n) (ht : t = (if rK kc = 4 then 1 else rK kc)) (hk5 : rK kc ≤ 4) (em1 : mcM kc = mc') (em2 : msM kc = ms') (h1 : mc ≤ mcM k) (h2 : ms ≤ msM k)
    (hfr : frM kc + 1 ≤ frM k) (hlo : 8 + (lM kc + 11) + loM kc ≤ loM k) (hd : decode (bM k) pc = .ok (.invokestatic idx, 3)) : Snd k pcs pc (pc + 3) (S_cs t kc n mc' ms' mc ms) := by
  intro L st h cc ss nx jp Rt hs hN hJ p l e R s m args below meth c Q G H locs ls X F r o lr
  unfold S_cs at hs
  have hs := gd_iff.mp hs
  have hlen := hs.1
  have hs := gd_iff.mp hs.2
  have hs1 := gd_iff.mp hs.2
  have hs2 := gd_iff.mp hs1.2
  subst em1 em2
  have hsp := cnt_go ht hk5 hs2.2 l G
  · have cw := va_cwS (R := R) (rm := roomM kc) (mc := mcM kc) (ms := msM kc) (own := (yM k).cls) (index := idx) n X.2.2.2.2.1 (wsG_in (ws := va_wsS (yM k).cls idx (yM kc) (wM kc)) (fun w hw' => by
        rcases List.mem_append.mp hw' with q | q
        · simp only [List.mem_cons, List.not_mem_nil, or_false] at q
          rcases q with rfl | rfl | rfl
          · exact hw
          · exact hst
          · exact hM.2.1
        · exact ((wsG_code hM.1) w q).1)) rfl rfl rfl ⟨hM.2.2.1, hM.2.2.2.1, by rw [← hnA]; exact hM.2.2.2.2⟩ ⟨Nat.le_trans hfr X.2.2.2.2.2.1.1, Nat.le_trans hlo X.2.2.2.2.2.1.2.1⟩
    rw [rev_map (n := n)]
    refine go_call (va_runS (As := (st.take n).reverse.map (em G)) (rest := (st.drop n).map (em G)) ⟨X.1, X.2.1, X.2.2.1, X.2.2.2.1, X.2.2.2.2.1⟩ hsp cw ⟨PcM.blind, PcM.at r X.2.2.2.2.2.2.1⟩ rfl (by simp [hlen]) (lr.1.1.trans lr.1.2) rfl (by show 2 * 0 + _ ≤ 8; rw [em_sum]; omega) hd ⟨Nat.le_trans hs1.1 (Nat.le_trans h1 X.2.2.2.2.2.1.2.2.1), Nat.le_trans hs2.1 (Nat.le_trans h2 X.2.2.2.2.2.1.2.2.2)⟩) (fun v st₀ t' LL hL hq hal => ?_)
    obtain ⟨vv, h', e1, e2, e3, st', e4, e5⟩ := hq
    have r' : RP G h' s t'.heap := e3.moved hal.symm
    have o' : LO G (locs ++ LL) := fun q hq => (List.mem_append.mp hq).elim (o q) (hL q)
    have w := (hN _ _ _ _ _ e4 p l e R s m args below meth c Q G _ _ ls X F r' o' lr)
    rw [e5 G] at w
    cases e1
    exact w
/-- a private static method of a nest mate -/
theorem s_csN {t kc n idx mc' ms' mc ms : Nat} {hst0 : String} (hM : MB kc) (hst : Cond.static (yM kc) ∈ wsG) (hw : Cond.methodLinkNest (yM k).cls idx (yM kc) hst0 ∈ nestW) (hnA : nA kc = n) (ht : t = (if rK kc = 4 then 1 else rK kc)) (hk5 : rK kc ≤ 4) (em1 : mcM kc = mc') (em2 : msM kc = ms') (h1 : mc ≤ mcM k) (h2 : ms ≤ msM k)
    (hfr : frM kc + 1 ≤ frM k) (hlo : 8 + (lM kc + 11) + loM kc ≤ loM k) (hd : decode (bM k) pc = .ok (.invokestatic idx, 3)) : Snd k pcs pc (pc + 3) (S_cs t kc n mc' ms' mc ms) := by
  intro L st h cc ss nx jp Rt hs hN hJ p l e R s m args below meth c Q G H locs ls X F r o lr
  unfold S_cs at hs
  have hs := gd_iff.mp hs
  have hlen := hs.1
  have hs := gd_iff.mp hs.2
  have hs1 := gd_iff.mp hs.2
  have hs2 := gd_iff.mp hs1.2
  subst em1 em2
  have hsp := cnt_go ht hk5 hs2.2 l G
  · have cn := va_cnB (R := R) (rm := roomM kc) (mc := mcM kc) (ms := msM kc) (own := (yM k).cls) (index := idx) (host := hst0) n X.2.2.2.2.1 (wsG_code hM.1) rfl rfl rfl (X.2.2.2.2.2.2.1.2.2.1 _ hw) (X.2.2.2.2.1 _ hM.2.1) ⟨hM.2.2.1, hM.2.2.2.1, by rw [← hnA]; exact hM.2.2.2.2⟩ ⟨Nat.le_trans hfr X.2.2.2.2.2.1.1, Nat.le_trans hlo X.2.2.2.2.2.1.2.1⟩
    rw [rev_map (n := n)]
    refine go_call (va_runSN (As := (st.take n).reverse.map (em G)) (rest := (st.drop n).map (em G)) ⟨X.1, X.2.1, X.2.2.1, X.2.2.2.1, X.2.2.2.2.1⟩ hsp ⟨cn, X.2.2.2.2.1 _ hst, trivial⟩ ⟨PcM.blind, PcM.at r X.2.2.2.2.2.2.1⟩ rfl (by simp [hlen]) (lr.1.1.trans lr.1.2) rfl (by show 2 * 0 + _ ≤ 8; rw [em_sum]; omega) hd ⟨Nat.le_trans hs1.1 (Nat.le_trans h1 X.2.2.2.2.2.1.2.2.1), Nat.le_trans hs2.1 (Nat.le_trans h2 X.2.2.2.2.2.1.2.2.2)⟩) (fun v st₀ t' LL hL hq hal => ?_)
    obtain ⟨vv, h', e1, e2, e3, st', e4, e5⟩ := hq
    have r' : RP G h' s t'.heap := e3.moved hal.symm
    have o' : LO G (locs ++ LL) := fun q hq => (List.mem_append.mp hq).elim (o q) (hL q)
    have w := (hN _ _ _ _ _ e4 p l e R s m args below meth c Q G _ _ ls X F r' o' lr)
    rw [e5 G] at w
    cases e1
    exact w
theorem rcv_take {st : List Value} {n : Nat} {v : Value} {r : List Value} (h : st.drop n = v :: r) : (st.take (n + 1)).reverse = v :: (st.take n).reverse ∧ st.drop (n + 1) = r ∧ n ≤ st.length := by
  have h1 : n < st.length := Nat.not_le.mp fun q => by rw [List.drop_of_length_le q] at h; cases h
  have h2 : st[n]? = some v := by
    have h9 := congrArg List.head? h
    rw [List.head?_drop] at h9
    exact h9
  refine ⟨?_, ?_, Nat.le_of_lt h1⟩
  · rw [List.take_succ, h2]
    simp
  · rw [← List.tail_drop, h]
    rfl
theorem mapr {G : WG} {st : List Value} {n a : Nat} {r : List Value} (h : st.drop n = .ref a :: r) (h0 : a ≠ 0) : st.map (em G) = ((st.take n).reverse.map (em G)).reverse ++ .ref (ad G a) :: r.map (em G) := by
  rw [rev_map (n := n), h, List.map_cons, em_n h0]

/-- a method of an object -/
theorem s_cv {t kc n idx c0 mc' ms' mc ms : Nat} (hC : (yM kc).cls = cNm c0) (hsel : Cond.selects (cNm c0) (yM kc) (yM kc) ∈ wsG) (hw : Cond.methodLink (yM k).cls idx (yM kc) ∈ wsG) (hc : c0 < 13) (hM : MB kc) (hin : Cond.instanceMethod (yM kc) ∈ wsG) (hnA : nA kc = n) (ht : t = (if rK kc = 4 then 1 else rK kc)) (hk5 : rK kc ≤ 4) (em1 : mcM kc = mc') (em2 : msM kc = ms') (h1 : mc ≤ mcM k) (h2 : ms ≤ msM k)
    (hfr : frM kc + 1 ≤ frM k) (hlo : 8 + (lM kc + 11) + loM kc ≤ loM k) (hd : decode (bM k) pc = .ok (.invokevirtual idx, 3)) : Snd k pcs pc (pc + 3) (S_cv t kc n (c0 + 1) mc' ms' mc ms) := by
  intro L st h cc ss nx jp Rt hs hN hJ p l e R s m args below meth c Q G H locs ls X F r o lr
  unfold S_cv at hs
  have hs := gd_iff.mp hs
  obtain ⟨a, rr, hst, hka, hsr⟩ := rcv_of hs.2
  have hs1 := gd_iff.mp hsr
  have hs2 := gd_iff.mp hs1.2
  subst em1 em2
  have hsp := cnt_go ht hk5 hs2.2 l G
  obtain ⟨t1, t2, hlen⟩ := rcv_take hst
  have h0 : a ≠ 0 := r.nz (by omega)
  obtain ⟨cell, q1, q2, q3, q4⟩ := (r.2.2.1 a).1 c0 hc hka
  obtain ⟨hS, hfc, kC, hkC, hkind⟩ := X.2.2.2.2.2.2.1.1 c0 hc
  have hsum := hs.1
  rw [t2] at hsum
  have hat : (((st.take (n + 1)).reverse).map (em G)).toArray = (Value.ref (ad G a) :: (st.take n).reverse.map (em G)).toArray := by rw [t1, List.map_cons, em_n h0]
  have hpc : ∀ U : State, U.heap = H → s.WarmedH U.vm → PcM G (st.take (n + 1)).reverse h (Value.ref (ad G a) :: (st.take n).reverse.map (em G)).toArray U := fun U hU hW => by
    rw [← hat]
    exact PcM.at r X.2.2.2.2.2.2.1 U hU hW
  have cw := cwV (R := R) (rm := roomM kc) (mc := mcM kc) (ms := msM kc) (own := (yM k).cls) (index := idx) (C := cNm c0) n X.2.2.2.2.1 (wsG_in (ws := wsV (yM k).cls idx (cNm c0) (yM kc) (wM kc)) (fun w hw' => by
        rcases List.mem_append.mp hw' with q | q
        · simp only [List.mem_cons, List.not_mem_nil, or_false] at q
          rcases q with rfl | rfl | rfl | rfl
          · exact hw
          · exact hin
          · exact hsel
          · exact (cI c0 hc).2
        · exact ((wsG_code hM.1) w q).1)) rfl rfl rfl ⟨hC, hM.2.2.1, hM.2.2.2.1, by rw [← hnA]; exact hM.2.2.2.2⟩ ⟨Nat.le_trans hfr X.2.2.2.2.2.1.1, Nat.le_trans hlo X.2.2.2.2.2.1.2.1⟩
  · rw [mapr hst h0]
    refine go_call (va_runV (As := (st.take n).reverse.map (em G)) (rest := rr.map (em G)) ⟨X.1, X.2.1, X.2.2.1, X.2.2.2.1, X.2.2.2.2.1⟩ hsp cw ⟨PcM.blind, ⟨cell, q1, by rw [q3]; rfl, by rw [q2]; exact hfc⟩, hpc⟩ rfl (by simp [hlen]) (lr.1.1.trans lr.1.2) rfl (by show 2 * 0 + _ ≤ 8; rw [em_sum]; omega) hd ⟨Nat.le_trans hs1.1 (Nat.le_trans h1 X.2.2.2.2.2.1.2.2.1), Nat.le_trans hs2.1 (Nat.le_trans h2 X.2.2.2.2.2.1.2.2.2)⟩) (fun v st₀ t' LL hL hq hal => ?_)
    obtain ⟨vv, h', e1, e2, e3, st', e4, e5⟩ := hq
    have r' : RP G h' s t'.heap := e3.moved hal.symm
    have o' : LO G (locs ++ LL) := fun q hq => (List.mem_append.mp hq).elim (o q) (hL q)
    have w := (hN _ _ _ _ _ e4 p l e R s m args below meth c Q G _ _ ls X F r' o' lr)
    rw [e5 G, t2] at w
    cases e1
    exact w
/-- a constructor -/
theorem s_ci {t kc n idx c0 mc' ms' mc ms : Nat} (hrn : rM kc = none) (hnm : (yM kc).name = "<init>") (hw : Cond.methodLink (yM k).cls idx (yM kc) ∈ wsG) (hc : c0 < 13) (hM : MB kc) (hin : Cond.instanceMethod (yM kc) ∈ wsG) (hnA : nA kc = n) (ht : t = (if rK kc = 4 then 1 else rK kc)) (hk5 : rK kc ≤ 4) (em1 : mcM kc = mc') (em2 : msM kc = ms') (h1 : mc ≤ mcM k) (h2 : ms ≤ msM k)
    (hfr : frM kc + 1 ≤ frM k) (hlo : 8 + (lM kc + 11) + loM kc ≤ loM k) (hd : decode (bM k) pc = .ok (.invokespecial idx, 3)) : Snd k pcs pc (pc + 3) (S_cv t kc n (c0 + 1) mc' ms' mc ms) := by
  intro L st h cc ss nx jp Rt hs hN hJ p l e R s m args below meth c Q G H locs ls X F r o lr
  unfold S_cv at hs
  have hs := gd_iff.mp hs
  obtain ⟨a, rr, hst, hka, hsr⟩ := rcv_of hs.2
  have hs1 := gd_iff.mp hsr
  have hs2 := gd_iff.mp hs1.2
  subst em1 em2
  have hsp := cnt_go ht hk5 hs2.2 l G
  obtain ⟨t1, t2, hlen⟩ := rcv_take hst
  have h0 : a ≠ 0 := r.nz (by omega)
  obtain ⟨cell, q1, q2, q3, q4⟩ := (r.2.2.1 a).1 c0 hc hka
  obtain ⟨hS, hfc, kC, hkC, hkind⟩ := X.2.2.2.2.2.2.1.1 c0 hc
  have hsum := hs.1
  rw [t2] at hsum
  have hat : (((st.take (n + 1)).reverse).map (em G)).toArray = (Value.ref (ad G a) :: (st.take n).reverse.map (em G)).toArray := by rw [t1, List.map_cons, em_n h0]
  have hpc : ∀ U : State, U.heap = H → s.WarmedH U.vm → PcM G (st.take (n + 1)).reverse h (Value.ref (ad G a) :: (st.take n).reverse.map (em G)).toArray U := fun U hU hW => by
    rw [← hat]
    exact PcM.at r X.2.2.2.2.2.2.1 U hU hW
  have cw := cwI (R := R) (rm := roomM kc) (mc := mcM kc) (ms := msM kc) (own := (yM k).cls) (index := idx) (maxL := lM kc) (bytes := bM kc) n X.2.2.2.2.1 (wsG_code hM.1) (by rw [← hrn]; rfl) rfl rfl (X.2.2.2.2.1 _ hM.2.1) (X.2.2.2.2.1 _ hw) (X.2.2.2.2.1 _ hin) hnm ⟨hM.2.2.1, hM.2.2.2.1, by rw [← hnA]; exact hM.2.2.2.2⟩ ⟨Nat.le_trans hfr X.2.2.2.2.2.1.1, Nat.le_trans hlo X.2.2.2.2.2.1.2.1⟩
  · rw [mapr hst h0]
    refine go_call (va_runI (As := (st.take n).reverse.map (em G)) (rest := rr.map (em G)) ⟨X.1, X.2.1, X.2.2.1, X.2.2.2.1, X.2.2.2.2.1⟩ hsp cw ⟨PcM.blind, hpc⟩ rfl (by simp [hlen]) (lr.1.1.trans lr.1.2) rfl (by show 2 * 0 + _ ≤ 8; rw [em_sum]; omega) hd ⟨Nat.le_trans hs1.1 (Nat.le_trans h1 X.2.2.2.2.2.1.2.2.1), Nat.le_trans hs2.1 (Nat.le_trans h2 X.2.2.2.2.2.1.2.2.2)⟩) (fun v st₀ t' LL hL hq hal => ?_)
    obtain ⟨vv, h', e1, e2, e3, st', e4, e5⟩ := hq
    have r' : RP G h' s t'.heap := e3.moved hal.symm
    have o' : LO G (locs ++ LL) := fun q hq => (List.mem_append.mp hq).elim (o q) (hL q)
    have w := (hN _ _ _ _ _ e4 p l e R s m args below meth c Q G _ _ ls X F r' o' lr)
    rw [e5 G, t2] at w
    cases e1
    exact w
/-- a private constructor of a nest mate -/
theorem s_ciN {t kc n idx c0 mc' ms' mc ms : Nat} {hst0 : String} (hrn : rM kc = none) (hnm : (yM kc).name = "<init>") (hw : Cond.methodLinkNest (yM k).cls idx (yM kc) hst0 ∈ nestW) (hc : c0 < 13) (hM : MB kc) (hin : Cond.instanceMethod (yM kc) ∈ wsG) (hnA : nA kc = n) (ht : t = (if rK kc = 4 then 1 else rK kc)) (hk5 : rK kc ≤ 4) (em1 : mcM kc = mc') (em2 : msM kc = ms') (h1 : mc ≤ mcM k) (h2 : ms ≤ msM k)
    (hfr : frM kc + 1 ≤ frM k) (hlo : 8 + (lM kc + 11) + loM kc ≤ loM k) (hd : decode (bM k) pc = .ok (.invokespecial idx, 3)) : Snd k pcs pc (pc + 3) (S_cv t kc n (c0 + 1) mc' ms' mc ms) := by
  intro L st h cc ss nx jp Rt hs hN hJ p l e R s m args below meth c Q G H locs ls X F r o lr
  unfold S_cv at hs
  have hs := gd_iff.mp hs
  obtain ⟨a, rr, hst, hka, hsr⟩ := rcv_of hs.2
  have hs1 := gd_iff.mp hsr
  have hs2 := gd_iff.mp hs1.2
  subst em1 em2
  have hsp := cnt_go ht hk5 hs2.2 l G
  obtain ⟨t1, t2, hlen⟩ := rcv_take hst
  have h0 : a ≠ 0 := r.nz (by omega)
  obtain ⟨cell, q1, q2, q3, q4⟩ := (r.2.2.1 a).1 c0 hc hka
  obtain ⟨hS, hfc, kC, hkC, hkind⟩ := X.2.2.2.2.2.2.1.1 c0 hc
  have hsum := hs.1
  rw [t2] at hsum
  have hat : (((st.take (n + 1)).reverse).map (em G)).toArray = (Value.ref (ad G a) :: (st.take n).reverse.map (em G)).toArray := by rw [t1, List.map_cons, em_n h0]
  have hpc : ∀ U : State, U.heap = H → s.WarmedH U.vm → PcM G (st.take (n + 1)).reverse h (Value.ref (ad G a) :: (st.take n).reverse.map (em G)).toArray U := fun U hU hW => by
    rw [← hat]
    exact PcM.at r X.2.2.2.2.2.2.1 U hU hW
  have cn := va_cnB (R := R) (rm := roomM kc) (mc := mcM kc) (ms := msM kc) (own := (yM k).cls) (index := idx) (host := hst0) (maxL := lM kc) (bytes := bM kc) (ret := none) n X.2.2.2.2.1 (wsG_code hM.1) (by rw [← hrn]; rfl) rfl rfl (X.2.2.2.2.2.2.1.2.2.1 _ hw) (X.2.2.2.2.1 _ hM.2.1) ⟨hM.2.2.1, hM.2.2.2.1, by rw [← hnA]; exact hM.2.2.2.2⟩ ⟨Nat.le_trans hfr X.2.2.2.2.2.1.1, Nat.le_trans hlo X.2.2.2.2.2.1.2.1⟩
  · rw [mapr hst h0]
    refine go_call (va_runIN (As := (st.take n).reverse.map (em G)) (rest := rr.map (em G)) ⟨X.1, X.2.1, X.2.2.1, X.2.2.2.1, X.2.2.2.2.1⟩ hsp ⟨cn, hnm, X.2.2.2.2.1 _ hin⟩ ⟨PcM.blind, hpc⟩ rfl (by simp [hlen]) (lr.1.1.trans lr.1.2) rfl (by show 2 * 0 + _ ≤ 8; rw [em_sum]; omega) hd ⟨Nat.le_trans hs1.1 (Nat.le_trans h1 X.2.2.2.2.2.1.2.2.1), Nat.le_trans hs2.1 (Nat.le_trans h2 X.2.2.2.2.2.1.2.2.2)⟩) (fun v st₀ t' LL hL hq hal => ?_)
    obtain ⟨vv, h', e1, e2, e3, st', e4, e5⟩ := hq
    have r' : RP G h' s t'.heap := e3.moved hal.symm
    have o' : LO G (locs ++ LL) := fun q hq => (List.mem_append.mp hq).elim (o q) (hL q)
    have w := (hN _ _ _ _ _ e4 p l e R s m args below meth c Q G _ _ ls X F r' o' lr)
    rw [e5 G, t2] at w
    cases e1
    exact w
/-! the same, with more words below on the stack -/
section GW
variable {p : Program} {l : Launch} {e : Env} {R : Room} {s : State} {m : MethodId} {args : Array Value} {below : List Frame} {meth : Method} {c : Code} {H : Heap} {locs : List Loc} {cells slots : Nat}
variable {y : MethodName} {bytes cc : ByteArray} {maxL nL mc ms n index w : Nat} {ret : Option FieldType} {ws : List Cond} {rm : Room} {Pc : Array Value → State → Prop} {Qc : Array Value → State → Outcome → State → Prop} {free : Addr → Prop} {Ts : List Cond} {own C host : String} {b : Addr} {As rest : List Value} {g : JFrame}
theorem run_Vw (S : CallFix p m c cc nL s args Ts own) (hM : Met l y ws rm Pc Qc mc ms free) (cw : CallW R s args own C index y bytes maxL ret ws rm mc ms n) (hlo : w + (maxL + 11) + rm.locals ≤ R.locals) (hp : PreV s H C b Pc As)
    (hg : g.method = m) (hn : As.length = n) (hsize : g.locals.size = nL) (hstack : g.stack = As.reverse ++ .ref b :: rest) (hW : 2 * g.monitorRoom + (rest.map fun v => v.category).sum ≤ w) (hdg : decode cc g.pc = .ok (.invokevirtual index, 3)) (hf : cells + mc ≤ R.cells ∧ slots + ms ≤ R.slots) :
    va_Run p l e R s m args below meth c H locs cells slots mc ms g rest (Qc (Value.ref b :: As).toArray) (free) := by
  obtain ⟨⟨hrc, hrs, hfr, -, hws, hcw, hcode, hini, hy, hlen, hl⟩, hin, hse⟩ := cw
  have hK : Back l R p e below s args y 3 w (PreOf R mc ms Pc) (PostOf Qc mc ms free) := back_of (bytes := bytes) (maxL := maxL) (ret := ret) hM hp.1 hrc hrs hfr hlo hws hcw (fun a' U hW => word_at hW (Or.inl (by first | rfl | simp [Cond.onTables, Cond.keeps, Cond.steady])) hini)
  obtain ⟨hx, hb, hml, ho, -⟩ := S
  obtain ⟨-, ⟨cellB, hcB, hoB, hclB⟩, hPc⟩ := hp
  intro T hT X
  obtain ⟨v, vm₁, ⟨U', l2, c2, s2⟩, hW₁, X', ⟨g', mk, t, L, e1, e2, hq, h1, hL, h2, h3⟩, st⟩ := callV X hx (C := C) (bytes := bytes) (maxL := maxL) (ret := ret) ho hl hin hse hcode hy hK (by rw [hT]; exact hcB) hoB hclB hg (hsize.trans hml.symm) (argsL := As) (rest := rest) (fun sig h => hn.trans (hlen sig h)) hstack hW (by rw [hb]; exact hdg)
    (fun vm₁ hW₁ => ⟨hf.1, hf.2, hPc (T.setVm vm₁) hT hW₁⟩)
  dsimp only [Pt.U, Pt.locs, Pt.cells, Pt.slots] at X' e1 e2 h1 h2 h3 st
  subst h1; subst h2; subst h3
  exact ⟨v, (T.setVm vm₁).calling g' mk (Value.ref b :: As).toArray, t, U', L, hT, X', hL, e1, e2, hq, st⟩
theorem run_SNw (S : CallFix p m c cc nL s args Ts own) (hM : Met l y ws rm Pc Qc mc ms free) (cw : va_CN R s args own index y host bytes maxL ret ws rm mc ms n ∧ (Cond.static y).before args s = true ∧ True) (hlo : w + (maxL + 11) + rm.locals ≤ R.locals) (hp : PreS s H Pc As)
    (hg : g.method = m) (hn : As.length = n) (hsize : g.locals.size = nL) (hstack : g.stack = As.reverse ++ rest) (hW : 2 * g.monitorRoom + (rest.map fun v => v.category).sum ≤ w) (hdg : decode cc g.pc = .ok (.invokestatic index, 3)) (hf : cells + mc ≤ R.cells ∧ slots + ms ≤ R.slots) :
    va_Run p l e R s m args below meth c H locs cells slots mc ms g rest (Qc As.toArray) (free) := by
  obtain ⟨⟨⟨hrc, hrs, hfr, -, hws, hcw⟩, hcode, hini, hy, hlen, hl⟩, hx1, hx2⟩ := cw
  have hK : Back l R p e below s args y 3 w (PreOf R mc ms Pc) (PostOf Qc mc ms free) := back_of (bytes := bytes) (maxL := maxL) (ret := ret) hM hp.1 hrc hrs hfr hlo hws hcw (fun a' U hW => word_at hW (Or.inl (by first | rfl | simp [Cond.onTables, Cond.keeps, Cond.steady])) hini)
  obtain ⟨hx, hb, hml, ho, -⟩ := S
  have hPc := hp.2
  intro T hT X
  obtain ⟨v, vm₁, ⟨U', l2, c2, s2⟩, hW₁, X', ⟨g', mk, t, L, e1, e2, hq, h1, hL, h2, h3⟩, st⟩ := va_callSN X hx (bytes := bytes) (maxL := maxL) (ret := ret) ho hl hx1 hini hcode hy hK hg (hsize.trans hml.symm) (argsL := As) (rest := rest) (fun sig h => hn.trans (hlen sig h)) hstack hW (by rw [hb]; exact hdg)
    (fun vm₁ hW₁ => ⟨hf.1, hf.2, hPc (T.setVm vm₁) hT hW₁⟩)
  dsimp only [Pt.U, Pt.locs, Pt.cells, Pt.slots] at X' e1 e2 h1 h2 h3 st
  subst h1; subst h2; subst h3
  exact ⟨v, (T.setVm vm₁).calling g' mk As.toArray, t, U', L, hT, X', hL, e1, e2, hq, st⟩
end GW
def S_csw (w t k n mc' ms' mc ms : Nat) : Sem := fun L st h cc ss nx _ _ => gd n st.length (gd (((st.drop n).map fun v => v.category).sum) w (gd (cc + mc') mc (gd (ss + ms') ms (cnt t k (st.take n).reverse h (st.drop n) (fun st' h' => nx L st' h' (cc + mc') (ss + ms'))))))
def S_cvw (w t k n d mc' ms' mc ms : Nat) : Sem := fun L st h cc ss nx _ _ => gd (((st.drop (n + 1)).map fun v => v.category).sum) w (rcv d h (st.drop n) (gd (cc + mc') mc (gd (ss + ms') ms (cnt t k (st.take (n + 1)).reverse h (st.drop (n + 1)) (fun st' h' => nx L st' h' (cc + mc') (ss + ms'))))))
theorem s_csNw {w t kc n idx mc' ms' mc ms : Nat} {hst0 : String} (hM : MB kc) (hst : Cond.static (yM kc) ∈ wsG) (hw : Cond.methodLinkNest (yM k).cls idx (yM kc) hst0 ∈ nestW) (hnA : nA kc = n) (ht : t = (if rK kc = 4 then 1 else rK kc)) (hk5 : rK kc ≤ 4) (em1 : mcM kc = mc') (em2 : msM kc = ms') (h1 : mc ≤ mcM k) (h2 : ms ≤ msM k)
    (hfr : frM kc + 1 ≤ frM k) (hw8 : 8 ≤ w) (hlo : w + (lM kc + 11) + loM kc ≤ loM k) (hd : decode (bM k) pc = .ok (.invokestatic idx, 3)) : Snd k pcs pc (pc + 3) (S_csw w t kc n mc' ms' mc ms) := by
  intro L st h cc ss nx jp Rt hs hN hJ p l e R s m args below meth c Q G H locs ls X F r o lr
  unfold S_csw at hs
  have hs := gd_iff.mp hs
  have hlen := hs.1
  have hs := gd_iff.mp hs.2
  have hs1 := gd_iff.mp hs.2
  have hs2 := gd_iff.mp hs1.2
  subst em1 em2
  have hsp := cnt_go ht hk5 hs2.2 l G
  · have cn := va_cnB (R := R) (rm := roomM kc) (mc := mcM kc) (ms := msM kc) (own := (yM k).cls) (index := idx) (host := hst0) n X.2.2.2.2.1 (wsG_code hM.1) rfl rfl rfl (X.2.2.2.2.2.2.1.2.2.1 _ hw) (X.2.2.2.2.1 _ hM.2.1) ⟨hM.2.2.1, hM.2.2.2.1, by rw [← hnA]; exact hM.2.2.2.2⟩ ⟨Nat.le_trans hfr X.2.2.2.2.2.1.1, Nat.le_trans (show 8 + (lM kc + 11) + loM kc ≤ loM k by omega) X.2.2.2.2.2.1.2.1⟩
    rw [rev_map (n := n)]
    refine go_call (run_SNw (w := w) (As := (st.take n).reverse.map (em G)) (rest := (st.drop n).map (em G)) ⟨X.1, X.2.1, X.2.2.1, X.2.2.2.1, X.2.2.2.2.1⟩ hsp ⟨cn, X.2.2.2.2.1 _ hst, trivial⟩ (Nat.le_trans hlo X.2.2.2.2.2.1.2.1) ⟨PcM.blind, PcM.at r X.2.2.2.2.2.2.1⟩ rfl (by simp [hlen]) (lr.1.1.trans lr.1.2) rfl (by show 2 * 0 + _ ≤ w; rw [em_sum]; omega) hd ⟨Nat.le_trans hs1.1 (Nat.le_trans h1 X.2.2.2.2.2.1.2.2.1), Nat.le_trans hs2.1 (Nat.le_trans h2 X.2.2.2.2.2.1.2.2.2)⟩) (fun v st₀ t' LL hL hq hal => ?_)
    obtain ⟨vv, h', e1, e2, e3, st', e4, e5⟩ := hq
    have r' : RP G h' s t'.heap := e3.moved hal.symm
    have o' : LO G (locs ++ LL) := fun q hq => (List.mem_append.mp hq).elim (o q) (hL q)
    have w := (hN _ _ _ _ _ e4 p l e R s m args below meth c Q G _ _ ls X F r' o' lr)
    rw [e5 G] at w
    cases e1
    exact w
theorem s_cvw {w t kc n idx c0 mc' ms' mc ms : Nat} (hC : (yM kc).cls = cNm c0) (hsel : Cond.selects (cNm c0) (yM kc) (yM kc) ∈ wsG) (hw : Cond.methodLink (yM k).cls idx (yM kc) ∈ wsG) (hc : c0 < 13) (hM : MB kc) (hin : Cond.instanceMethod (yM kc) ∈ wsG) (hnA : nA kc = n) (ht : t = (if rK kc = 4 then 1 else rK kc)) (hk5 : rK kc ≤ 4) (em1 : mcM kc = mc') (em2 : msM kc = ms') (h1 : mc ≤ mcM k) (h2 : ms ≤ msM k)
    (hfr : frM kc + 1 ≤ frM k) (hw8 : 8 ≤ w) (hlo : w + (lM kc + 11) + loM kc ≤ loM k) (hd : decode (bM k) pc = .ok (.invokevirtual idx, 3)) : Snd k pcs pc (pc + 3) (S_cvw w t kc n (c0 + 1) mc' ms' mc ms) := by
  intro L st h cc ss nx jp Rt hs hN hJ p l e R s m args below meth c Q G H locs ls X F r o lr
  unfold S_cvw at hs
  have hs := gd_iff.mp hs
  obtain ⟨a, rr, hst, hka, hsr⟩ := rcv_of hs.2
  have hs1 := gd_iff.mp hsr
  have hs2 := gd_iff.mp hs1.2
  subst em1 em2
  have hsp := cnt_go ht hk5 hs2.2 l G
  obtain ⟨t1, t2, hlen⟩ := rcv_take hst
  have h0 : a ≠ 0 := r.nz (by omega)
  obtain ⟨cell, q1, q2, q3, q4⟩ := (r.2.2.1 a).1 c0 hc hka
  obtain ⟨hS, hfc, kC, hkC, hkind⟩ := X.2.2.2.2.2.2.1.1 c0 hc
  have hsum := hs.1
  rw [t2] at hsum
  have hat : (((st.take (n + 1)).reverse).map (em G)).toArray = (Value.ref (ad G a) :: (st.take n).reverse.map (em G)).toArray := by rw [t1, List.map_cons, em_n h0]
  have hpc : ∀ U : State, U.heap = H → s.WarmedH U.vm → PcM G (st.take (n + 1)).reverse h (Value.ref (ad G a) :: (st.take n).reverse.map (em G)).toArray U := fun U hU hW => by
    rw [← hat]
    exact PcM.at r X.2.2.2.2.2.2.1 U hU hW
  have cw := cwV (R := R) (rm := roomM kc) (mc := mcM kc) (ms := msM kc) (own := (yM k).cls) (index := idx) (C := cNm c0) n X.2.2.2.2.1 (wsG_in (ws := wsV (yM k).cls idx (cNm c0) (yM kc) (wM kc)) (fun w hw' => by
        rcases List.mem_append.mp hw' with q | q
        · simp only [List.mem_cons, List.not_mem_nil, or_false] at q
          rcases q with rfl | rfl | rfl | rfl
          · exact hw
          · exact hin
          · exact hsel
          · exact (cI c0 hc).2
        · exact ((wsG_code hM.1) w q).1)) rfl rfl rfl ⟨hC, hM.2.2.1, hM.2.2.2.1, by rw [← hnA]; exact hM.2.2.2.2⟩ ⟨Nat.le_trans hfr X.2.2.2.2.2.1.1, Nat.le_trans (show 8 + (lM kc + 11) + loM kc ≤ loM k by omega) X.2.2.2.2.2.1.2.1⟩
  · rw [mapr hst h0]
    refine go_call (run_Vw (w := w) (As := (st.take n).reverse.map (em G)) (rest := rr.map (em G)) ⟨X.1, X.2.1, X.2.2.1, X.2.2.2.1, X.2.2.2.2.1⟩ hsp cw (Nat.le_trans hlo X.2.2.2.2.2.1.2.1) ⟨PcM.blind, ⟨cell, q1, by rw [q3]; rfl, by rw [q2]; exact hfc⟩, hpc⟩ rfl (by simp [hlen]) (lr.1.1.trans lr.1.2) rfl (by show 2 * 0 + _ ≤ w; rw [em_sum]; omega) hd ⟨Nat.le_trans hs1.1 (Nat.le_trans h1 X.2.2.2.2.2.1.2.2.1), Nat.le_trans hs2.1 (Nat.le_trans h2 X.2.2.2.2.2.1.2.2.2)⟩) (fun v st₀ t' LL hL hq hal => ?_)
    obtain ⟨vv, h', e1, e2, e3, st', e4, e5⟩ := hq
    have r' : RP G h' s t'.heap := e3.moved hal.symm
    have o' : LO G (locs ++ LL) := fun q hq => (List.mem_append.mp hq).elim (o q) (hL q)
    have w := (hN _ _ _ _ _ e4 p l e R s m args below meth c Q G _ _ ls X F r' o' lr)
    rw [e5 G, t2] at w
    cases e1
    exact w
end SC
