/-! from the law's entry -/
theorem AR_of {args : Array Value} {s : State} {tm : Term} {N : Nat} {f : Nat → Value} (hN : N < 2 ^ 31) (harr : (Cond.arrayOf tm .int).before args s = true) (hlen : (Term.length tm).eval args s none [] s = some (.int (Int32.ofNat N)))
    (hel : ∀ j : Nat, j < N → (Term.elem tm (.int (Int32.ofNat j))).eval args s none [] s = some (f j)) : ∃ t : Nat, tm.eval args s none [] s = some (.ref t) ∧ AR s s.heap t N f ∧ t < s.heap.size := by
  obtain ⟨t, ht, cell, h1, h2, h3, h4, h5, h6, -⟩ := va_Tof (A := fun _ => False) hN harr hlen hel (fun _ _ q => q)
  obtain ⟨t', cell', ht', hat, -⟩ := Term.length_spec hlen
  cases ht.symm.trans ht'
  obtain ⟨hc', -, -, -⟩ := State.arrayAt?_spec hat
  cases h1.symm.trans hc'
  have hsz : cell.slots.size < 2 ^ 31 := by
    simp only [Term.eval, ht, hat, Option.bind_eq_bind, Option.bind_some] at hlen
    by_cases hlt : cell.slots.size < 2147483648
    · exact hlt
    · simp [hlt] at hlen
  have e : cell.slots.size = N := by
    have h7 : (nI cell.slots.size).toInt = (nI N).toInt := congrArg Int32.toInt h5
    rw [nI_toInt hsz, nI_toInt hN] at h7
    omega
  exact ⟨t, ht, ⟨cell, h1, h2, h3, e, fun j hj => h6 j hj⟩, (Array.getElem?_eq_some_iff.mp h1).1⟩
def stV (n : String) : List Int32 := if n = "CLASS_KEYS" then [0, 10000, 100000000, 1000, 100011000, 300000000, 100002000, 300013000, 102000000, 100000020, 102011020, 502000000, 102004000, 300002020, 502015020, 20000000, 20010200, 320000000, 20003000, 320013200, 120200000, 20001002, 120211202, 720200000, 120206000, 320004002, 720217202, 380000000, 380013800, 986000000, 380006060, 986019860]
  else if n = "COSINES" then [4, 0, 0, 0, 0, 1, 0, 1, 0, 0, 2, 0, 0, 2, 0, 0, 2, 0, 0, 0, 0, -1, 0, 1, 0, 0, 0, 0, 0, 1, 0, -1, -2, 0, 0, 0, 0, -2, 0, 0, 0, 0, -2, 0, 0, -1, 0, -1, -4, 0, 0, 0, 0, -1, 0, -1, 0, 0, -2, 0, 0, -2, 0, 0, -2, 0, 0, 0, 0, 1, 0, -1, 0, 0, 0, 0, 0, -1, 0, 1, 2, 0, 0, 0, 0, 2, 0, 0, 0, 0, 2, 0, 0, 1, 0, 1]
  else [0, 1, 7, 13, 35, 31, 91, 57, 155, 130, 217, 133, 455]
theorem st_row {args : Array Value} {s : State} (n : String) (N : Nat) (hN : N < 2 ^ 31) (hts : ∀ w ∈ lw_tbl, w.before args s = true) (hs : ∀ w ∈ flatC (Jvm.Cond.and given_1 narrow_1), w.before args s = true)
    (m1 : Cond.arrayOf (.static "CrystalHouse" n "[I") .int ∈ flatC (Jvm.Cond.and given_1 narrow_1)) (m2 : Cond.eq (.length (.static "CrystalHouse" n "[I")) (.int (Int32.ofNat N)) ∈ flatC (Jvm.Cond.and given_1 narrow_1))
    (m3 : ∀ j, j < N → Cond.eq (.elem (.static "CrystalHouse" n "[I") (.int (Int32.ofNat j))) (.int ((stV n).getD j 0)) ∈ flatC (Jvm.Cond.and given_1 narrow_1)) (m4 : Cond.laysStatic "CrystalHouse" n "[I" ∈ lw_tbl) (m5 : Cond.initialized "CrystalHouse" ∈ lw_tbl) :
    ∃ t : Nat, AR s s.heap t N (fun j => .int ((stV n).getD j 0)) ∧ t < s.heap.size ∧ va_Z "CrystalHouse" n "[I" (.ref t) (fun q => s.heap.size ≤ q) s s.heap := by
  obtain ⟨t, ht, ha, hl⟩ := AR_of (f := fun j => .int ((stV n).getD j 0)) hN (hs _ m1) (va_eqt (hs _ m2)) (fun j hj => va_eqt (hs _ (m3 j hj)))
  exact ⟨t, ha, hl, va_Zref (hts _ m4) (hts _ m5) ht (fun a h q => absurd h (Nat.not_lt.mpr q))⟩
theorem ao_long {args : Array Value} {s : State} (h : (Cond.arrayOver (.array .long)).before args s = true) :
    ∃ comp c k, s.vm.findClass (FieldType.array FieldType.long).toString = some comp ∧ s.vm.classes[c]? = some k ∧ k.kind = .array comp (.array .long) ∧ s.vm.findClass ("[" ++ (FieldType.array FieldType.long).toString) = some c := by
  simp only [Cond.before, Cond.holds, Cond.value, beq_iff_eq] at h
  rcases hc : s.vm.findClass (FieldType.array FieldType.long).toString with _ | comp
  · rw [hc] at h; simp at h
  · rw [hc, Option.bind_some] at h
    obtain ⟨c, hi, h⟩ := Option.bind_eq_some_iff.mp h
    obtain ⟨k, hk, hb⟩ := Option.map_eq_some_iff.mp h
    have hp := (Array.findIdx?_eq_some_iff_getElem.mp hi).2.1
    rw [(Array.getElem?_eq_some_iff.mp hk).2] at hp
    rcases hkind : k.kind with _ | ⟨component, ty⟩ | _ <;> rw [hkind] at hb hp <;> simp at hb hp
    exact ⟨comp, c, k, rfl, hk, by rw [hkind, hp, hb.1], hb.2⟩
theorem nest_in : ∀ w ∈ nestW, w ∈ lw_tbl := by decide +kernel
theorem KN_ex {args : Array Value} {s : State} (hts : ∀ w ∈ lw_tbl, w.before args s = true) (gs : Nat → Nat) (gb : Nat) : ∃ G : WG, KN G s ∧ gS G = gs ∧ gB G = gb := by
  have hw : ∀ w ∈ wsG, w.before args s = true := fun w h => hts w (wsG_tbl w h)
  have hc : ∀ c, c < 13 → ∃ (cC : ClassId) (iS : Nat → Nat), u_Kn s (cNm c) (cT c) (cN c) cC iS := fun c h => u_known hw (cL c h) (hw _ (cI c h).1)
  let gC : Nat → ClassId := fun c => if h : c < 13 then (hc c h).choose else 0
  let gI : Nat → Nat → Nat := fun c => if h : c < 13 then (hc c h).choose_spec.choose else fun _ => 0
  have hC : ∀ c, c < 13 → u_Kn s (cNm c) (cT c) (cN c) (gC c) (gI c) := fun c h => by
    show u_Kn s (cNm c) (cT c) (cN c) (dite _ _ _) (dite _ _ _)
    rw [dif_pos h, dif_pos h]
    exact (hc c h).choose_spec.choose_spec
  have p : ∀ t : FieldType, Cond.arrayClass t ∈ lw_tbl → ∃ c k comp, s.vm.findClass ("[" ++ t.toString) = some c ∧ s.vm.classes[c]? = some k ∧ k.kind = .array comp t := fun t h => Cond.arrayClass_spec (hts _ h)
  have o : ∀ n : String, Cond.arrayOver (.object n) ∈ lw_tbl → ∃ comp c k, s.vm.findClass n = some comp ∧ s.vm.classes[c]? = some k ∧ k.kind = .array comp (.object n) ∧ s.vm.findClass ("[" ++ (FieldType.object n).toString) = some c := fun n h => by
    obtain ⟨comp, c, k, h1, -, h2, h3, h4⟩ := Cond.arrayOver_spec (hts _ h)
    exact ⟨comp, c, k, h1, h2, h3, h4⟩
  obtain ⟨a20, k20, c20, e20⟩ := p .int (by decide +kernel)
  obtain ⟨a21, k21, c21, e21⟩ := p .long (by decide +kernel)
  obtain ⟨a22, k22, c22, e22⟩ := p .boolean (by decide +kernel)
  obtain ⟨a23, k23, c23, e23⟩ := p .char (by decide +kernel)
  obtain ⟨c24, a24, k24, e24⟩ := o "CrystalHouse$Group" (by decide +kernel)
  obtain ⟨c25, a25, k25, e25⟩ := o "CrystalHouse$Cell" (by decide +kernel)
  obtain ⟨c26, a26, k26, e26⟩ := o "CrystalHouse$Model" (by decide +kernel)
  obtain ⟨c27, a27, k27, e27⟩ := o "CrystalHouse$Lines" (by decide +kernel)
  obtain ⟨c28, a28, k28, e28⟩ := ao_long (hts (Cond.arrayOver (.array .long)) (by decide +kernel))
  have cls : ∀ c (h : c < 13), s.vm.findClass (cNm c) = some (gC c) := fun c h => (hC c h).2.1
  let gA : Nat → ClassId := fun k => match k with
    | 20 => a20
    | 21 => a21
    | 22 => a22
    | 23 => a23
    | 24 => a24
    | 25 => a25
    | 26 => a26
    | 27 => a27
    | _ => a28
  refine ⟨(gC, gI, gA, gs, gb), ⟨hC, ?_, fun w h => va_Nw.of (nest_tab w h) (hts w (nest_in w h)), ?_⟩, rfl, rfl⟩
  · intro k k1 k2
    have h : k = 20 ∨ k = 21 ∨ k = 22 ∨ k = 23 ∨ k = 24 ∨ k = 25 ∨ k = 26 ∨ k = 27 ∨ k = 28 := by omega
    rcases h with rfl | rfl | rfl | rfl | rfl | rfl | rfl | rfl | rfl
    · exact ⟨k20, c20, e20.2.1, e20.2.2, e20.1, fun q => absurd q (by decide), fun q => absurd q (by decide)⟩
    · exact ⟨k21, c21, e21.2.1, e21.2.2, e21.1, fun q => absurd q (by decide), fun q => absurd q (by decide)⟩
    · exact ⟨k22, c22, e22.2.1, e22.2.2, e22.1, fun q => absurd q (by decide), fun q => absurd q (by decide)⟩
    · exact ⟨k23, c23, e23.2.1, e23.2.2, e23.1, fun q => absurd q (by decide), fun q => absurd q (by decide)⟩
    · exact ⟨k24, c24, e24.2.1, e24.2.2.1, e24.2.2.2, fun _ _ => Option.some.inj (e24.1.symm.trans (cls 3 (by decide))), fun q => absurd q (by decide)⟩
    · exact ⟨k25, c25, e25.2.1, e25.2.2.1, e25.2.2.2, fun _ _ => Option.some.inj (e25.1.symm.trans (cls 0 (by decide))), fun q => absurd q (by decide)⟩
    · exact ⟨k26, c26, e26.2.1, e26.2.2.1, e26.2.2.2, fun _ _ => Option.some.inj (e26.1.symm.trans (cls 5 (by decide))), fun q => absurd q (by decide)⟩
    · exact ⟨k27, c27, e27.2.1, e27.2.2.1, e27.2.2.2, fun _ _ => Option.some.inj (e27.1.symm.trans (cls 4 (by decide))), fun q => absurd q (by decide)⟩
    · exact ⟨k28, c28, e28.2.1, e28.2.2.1, e28.2.2.2, fun _ q => absurd q (by decide), fun _ => Option.some.inj (e28.1.symm.trans e21.1)⟩
  · intro k k1 k2
    have h : k = 24 ∨ k = 25 ∨ k = 26 ∨ k = 27 ∨ k = 28 := by omega
    rcases h with rfl | rfl | rfl | rfl | rfl
    · exact hts (Cond.arrayOver (.object "CrystalHouse$Group")) (by decide +kernel)
    · exact hts (Cond.arrayOver (.object "CrystalHouse$Cell")) (by decide +kernel)
    · exact hts (Cond.arrayOver (.object "CrystalHouse$Model")) (by decide +kernel)
    · exact hts (Cond.arrayOver (.object "CrystalHouse$Lines")) (by decide +kernel)
    · exact hts (Cond.arrayOver (.array .long)) (by decide +kernel)
/-- the heap that the law finds -/
def z0 (L : Nat) (xs : Nat → Int32) : h0T := (fun a => if a = 0 ∨ 5 ≤ a then 0 else 19, fun a => if a = 1 then L else if a = 2 then 32 else if a = 3 then 96 else 13,
  fun a j => if a = 1 then xs j else if a = 2 then (stV "CLASS_KEYS").getD j 0 else if a = 3 then (stV "COSINES").getD j 0 else (stV "LATTICES").getD j 0, fun _ _ => 0, fun _ _ => 0)
theorem FN_law {p : Program} {l : Launch} {e : Jvm.Env} {s : State} {m : MethodId} {below : List Frame} {meth : Method} {c : Code} {b : Nat} {G : WG} (hx : p.tables.exec = Jvm.exec) (hb : c.code = code) (hr : meth.sig.returnType = ret) (hlocks : meth.locks = false) (hG : gB G = s.heap.size) :
    FN k_Law_law p l e room_1 s m #[Value.ref b] below meth c (lw_Z below #[Value.ref b] s) G (fun v _ => v = .int 1) := by
  intro H locs cc ss pc ls v h st hRP hLO hcc hss hv hRI
  subst hv
  have hd : st = [.int 1] ∧ decode code pc = .ok (.ireturn, 1) := by
    rcases hRI with ⟨q, _⟩ | ⟨q, _⟩ | ⟨q, _⟩ | ⟨q, _⟩ | ⟨_, ⟨x, e1, _, e2⟩, e3⟩
    · exact absurd q (by decide)
    · exact absurd q (by decide)
    · exact absurd q (by decide)
    · exact absurd q (by decide)
    · cases e1
      exact ⟨e2, e3⟩
  rw [hd.1]
  refine va_forget (fun q hq => ?_) (W.widen (k := 600000) (n := 7302250) hcc hss (lw_ret hx hb hr hlocks hd.2))
  have := hLO q hq
  rw [hG] at this
  exact this
theorem stt_2 : ∀ j, j < 32 → (stV "CLASS_KEYS").getD j 0 = keysL.getD j 0 := by decide +kernel
theorem stt_3 : ∀ j, j < 96 → (stV "COSINES").getD j 0 = zI (csT.getD j 0) := by decide +kernel
theorem stt_4 : ∀ j, j < 13 → (stV "LATTICES").getD j 0 = nI (lat.getD j 0) := by decide +kernel
theorem z0_2 {L : Nat} {xs : Nat → Int32} : ∀ j, j < 32 → mi (5, z0 L xs) 2 j = keysL.getD j 0 := fun j hj => stt_2 j hj
theorem z0_3 {L : Nat} {xs : Nat → Int32} : ∀ j, j < 96 → mi (5, z0 L xs) 3 j = zI (csT.getD j 0) := fun j hj => stt_3 j hj
theorem z0_4 {L : Nat} {xs : Nat → Int32} : ∀ j, j < 13 → mi (5, z0 L xs) 4 j = nI (lat.getD j 0) := fun j hj => stt_4 j hj
theorem whole_start {p : Program} {e : Jvm.Env} {s : State} {m : MethodId} {below : List Frame} {meth : Method} {c : Code} (l : Launch) {b L : Nat} {xs : Nat → Int32} (hL : L ≤ 448) (C0 : lw_At p s m meth c b L xs) : W p l e room_1 s m #[Value.ref b] below meth c s.heap [] 0 0 (lw_Z below #[Value.ref b] s) (entryFrame m ([Value.ref b] : List Value).toArray 4) := by
  obtain ⟨hx, hb, hr, hml, hown, hts, hX, hbl, hlocks, hgv⟩ := id C0
  have hs := flat_of_before _ hgv
  have m5 : Cond.initialized "CrystalHouse" ∈ lw_tbl := by decide +kernel
  obtain ⟨t2, A2, l2, Z2⟩ := st_row "CLASS_KEYS" 32 (by decide) hts hs (by decide +kernel) (by decide +kernel) (by decide +kernel) (by decide +kernel) m5
  obtain ⟨t3, A3, l3, Z3⟩ := st_row "COSINES" 96 (by decide) hts hs (by decide +kernel) (by decide +kernel) (by decide +kernel) (by decide +kernel) m5
  obtain ⟨t4, A4, l4, Z4⟩ := st_row "LATTICES" 13 (by decide) hts hs (by decide +kernel) (by decide +kernel) (by decide +kernel) (by decide +kernel) m5
  obtain ⟨G, hK, hgS, hgB⟩ := KN_ex hts (fun a => if a = 1 then b else if a = 2 then t2 else if a = 3 then t3 else t4) s.heap.size
  have s1 : gS G 1 = b := by rw [hgS]; rfl
  have s2 : gS G 2 = t2 := by rw [hgS]; rfl
  have s3 : gS G 3 = t3 := by rw [hgS]; rfl
  have s4 : gS G 4 = t4 := by rw [hgS]; rfl
  have d1 : ad G 1 = b := s1
  have d2 : ad G 2 = t2 := s2
  have d3 : ad G 3 = t3 := s3
  have d4 : ad G 4 = t4 := s4
  have hRP : RP G (5, z0 L xs) s s.heap := by
    refine ⟨⟨Nat.le_refl 5, by rw [hgB]; rfl, fun a a0 a5 => ?_⟩, fun a ha => ?_, fun a => ⟨fun c hc q => ?_, fun q => ?_, fun k k1 k2 q => ?_⟩, ?_, ?_, ?_⟩
    · rw [hgB]
      have h : a = 1 ∨ a = 2 ∨ a = 3 ∨ a = 4 := by omega
      rcases h with rfl | rfl | rfl | rfl
      · rw [s1]; exact hbl
      · rw [s2]; exact l2
      · rw [s3]; exact l3
      · rw [s4]; exact l4
    · have q : (if a = 0 ∨ 5 ≤ a then 0 else 19) ≠ 0 := ha
      by_cases h : a = 0 ∨ 5 ≤ a
      · rw [if_pos h] at q; exact absurd rfl q
      · exact Or.inl ⟨if_neg h, by omega, by omega⟩
    · have q : (if a = 0 ∨ 5 ≤ a then 0 else 19) = c + 1 := q
      split at q <;> omega
    · have q : (if a = 0 ∨ 5 ≤ a then 0 else 19) = 19 := q
      have h : a = 1 ∨ a = 2 ∨ a = 3 ∨ a = 4 := by
        by_cases h : a = 0 ∨ 5 ≤ a
        · rw [if_pos h] at q; cases q
        · omega
      rcases h with rfl | rfl | rfl | rfl
      · rw [d1]; exact hX
      · rw [d2]; exact A2
      · rw [d3]; exact A3
      · rw [d4]; exact A4
    · have q : (if a = 0 ∨ 5 ≤ a then 0 else 19) = k := q
      split at q <;> omega
    · show va_Z _ _ _ (.ref (gS G 2)) (fun q => gB G ≤ q) s s.heap
      rw [s2, hgB]; exact Z2
    · show va_Z _ _ _ (.ref (gS G 3)) (fun q => gB G ≤ q) s s.heap
      rw [s3, hgB]; exact Z3
    · show va_Z _ _ _ (.ref (gS G 4)) (fun q => gB G ≤ q) s s.heap
      rw [s4, hgB]; exact Z4
  have hw := law_all rnd0 rndA (fun S h => cls_all h) (fun S h p hp => site_all h hp) (z0 L xs) (fun a a0 a5 => if_neg (by omega)) rfl rfl rfl z0_2 z0_3 z0_4 hL
  have ea : ([.ref 1] : List Value).map (em G) = [.ref b] := by
    show [er G 1] = [.ref b]
    show [Value.ref (ad G 1)] = [.ref b]
    rw [d1]
  have E : entryFrame m ([Value.ref b] : List Value).toArray 4 = entryFrame m (([.ref 1] : List Value).map (em G)).toArray 4 := by rw [ea]
  rw [E, lg_entry_eq]
  exact hw p l e room_1 s m #[Value.ref b] below meth c _ G s.heap [] _ ⟨hx, hb, hml, hown, fun w h => hts w (wsG_tbl w h), ⟨Nat.le_of_ble_eq_true rfl, Nat.le_of_ble_eq_true rfl, Nat.le_of_ble_eq_true rfl, Nat.le_of_ble_eq_true rfl⟩, hK, Nat.le_of_eq hgB, fun q => absurd q (by decide +kernel)⟩ (FN_law hx hb hr hlocks hgB) hRP (fun _ q => by cases q) (LR.entry rfl (by decide))
