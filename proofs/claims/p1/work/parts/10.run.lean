/-! a method's entry; runs of instructions up to a loop's head or an end -/
def entL : List Value → List Value
  | [] => []
  | .long x :: vs => .long x :: Jv :: entL vs
  | v :: vs => v :: entL vs
def ent (n : Nat) (as : List Value) : List Value := entL as ++ List.replicate (n - (entL as).length) Jv
def okA : List Value → Bool
  | [] => true
  | .int _ :: vs => okA vs
  | .long _ :: vs => okA vs
  | .ref _ :: vs => okA vs
  | _ => false
theorem okA_cons {v : Value} {vs : List Value} (h : okA (v :: vs) = true) : ((∃ x, v = .int x) ∨ (∃ x, v = .long x) ∨ ∃ x, v = .ref x) ∧ okA vs = true := by
  cases v <;> first | exact ⟨Or.inl ⟨_, rfl⟩, h⟩ | exact ⟨Or.inr (Or.inl ⟨_, rfl⟩), h⟩ | exact ⟨Or.inr (Or.inr ⟨_, rfl⟩), h⟩ | cases h
theorem entL_len {G : WG} : ∀ (as : List Value), okA as = true → (lg_sl (as.map (em G))).length = (entL as).length
  | [], _ => rfl
  | v :: vs, h => by
    obtain ⟨hv, h2⟩ := okA_cons h
    have ih := entL_len (G := G) vs h2
    rcases hv with ⟨x, rfl⟩ | ⟨x, rfl⟩ | ⟨x, rfl⟩
    · show (lg_sl (.int x :: vs.map (em G))).length = (entL vs).length + 1
      simp only [lg_sl, List.flatMap_cons, List.length_append] at ih ⊢
      rw [ih]
      simp [Value.category]
      omega
    · show (lg_sl (.long x :: vs.map (em G))).length = (entL vs).length + 1 + 1
      simp only [lg_sl, List.flatMap_cons, List.length_append] at ih ⊢
      rw [ih]
      simp [Value.category]
      omega
    · have hc : (em G (.ref x)).category = 1 := em_cat (G := G) (.ref x)
      show (lg_sl (em G (.ref x) :: vs.map (em G))).length = (entL vs).length + 1
      simp only [lg_sl, List.flatMap_cons, List.length_append] at ih ⊢
      rw [ih, hc]
      simp
      omega
theorem entL_in {G : WG} : ∀ (as : List Value), okA as = true → ∀ (o i : Nat) (v : Value), (entL as)[i]? = some v → v ≠ Jv → (o + i, em G v) ∈ lv_args o (as.map (em G))
  | [], _, o, i, v, h, _ => by simp [entL] at h
  | w :: vs, hk, o, i, v, h, hv => by
    obtain ⟨hw, h2⟩ := okA_cons hk
    have ih := entL_in (G := G) vs h2
    rcases hw with ⟨x, rfl⟩ | ⟨x, rfl⟩ | ⟨x, rfl⟩
    · cases i with
      | zero =>
        have e : Value.int x = v := by simpa [entL] using h
        subst e
        exact List.mem_cons_self
      | succ i =>
        have e : (entL vs)[i]? = some v := by simpa [entL] using h
        have := ih (o + 1) i v e hv
        rw [show o + 1 + i = o + (i + 1) by omega] at this
        exact List.mem_cons_of_mem _ this
    · cases i with
      | zero =>
        have e : Value.long x = v := by simpa [entL] using h
        subst e
        exact List.mem_cons_self
      | succ i =>
        cases i with
        | zero =>
          have e : Jv = v := by simpa [entL] using h
          exact absurd e.symm hv
        | succ i =>
          have e : (entL vs)[i]? = some v := by simpa [entL] using h
          have := ih (o + 2) i v e hv
          rw [show o + 2 + i = o + (i + 1 + 1) by omega] at this
          exact List.mem_cons_of_mem _ this
    · have hc : ¬ (em G (.ref x)).category = 2 := by rw [em_cat]; exact (by decide : ¬ (1 : Nat) = 2)
      cases i with
      | zero =>
        have e : Value.ref x = v := by simpa [entL] using h
        subst e
        exact List.mem_cons_self
      | succ i =>
        have e : (entL vs)[i]? = some v := by simpa [entL] using h
        have := ih (o + 1) i v e hv
        rw [show o + 1 + i = o + (i + 1) by omega] at this
        show _ ∈ (o, em G (.ref x)) :: lv_args (if (em G (.ref x)).category = 2 then o + 2 else o + 1) (vs.map (em G))
        rw [if_neg hc]
        exact List.mem_cons_of_mem _ this
theorem LR.entry {G : WG} {n : Nat} {as : List Value} (hk : okA as = true) (hl : (entL as).length ≤ n) : LR G n (ent n as) ((lg_sl (as.map (em G)) ++ List.replicate (n - (lg_sl (as.map (em G))).length) Slot.unset).toArray) := by
  have hL := entL_len (G := G) as hk
  have h1 := lv_entry (as.map (em G)) (n := n) (by rw [hL]; exact hl)
  have h2 : (ent n as).length = n := by simp [ent]; omega
  refine ⟨⟨by rw [h1.1, h2], h2⟩, h1.2.1, fun i v hi hv => ?_⟩
  by_cases hlt : i < (entL as).length
  · unfold ent at hi
    rw [List.getElem?_append_left hlt] at hi
    have := entL_in (G := G) as hk 0 i v hi hv
    rw [Nat.zero_add] at this
    exact h1.2.2 _ this
  · unfold ent at hi
    rw [List.getElem?_append_right (by omega)] at hi
    have := List.eq_of_mem_replicate (List.mem_of_getElem? hi)
    exact absurd this hv
def isRT (t : Option FieldType) : Bool := match t with
  | some (.object _) => true
  | some (.array _) => true
  | _ => false
theorem rKM : ∀ k, k < 281 → (rK k = 0 → rM k = none) ∧ (rK k = 1 → rM k = some .int) ∧ (rK k = 2 → rM k = some .long) ∧ (rK k = 4 → rM k = some .boolean) ∧ (rK k = 3 → isRT (rM k) = true) := by decide +kernel
theorem FN.own {k : Nat} {p : Program} {l : Launch} {e : Env} {s : State} {m : MethodId} {args : Array Value} {below : List Frame} {meth : Method} {c : Code} {G : WG} {Rt : Value → MH → Prop} {R : Room} (hk : k < 281) (hx : p.tables.exec = Jvm.exec) (hb : c.code = bM k) (hr : meth.sig.returnType = rM k) (hlocks : meth.locks = false) :
    FN k p l e R s m args below meth c (MQ below (QcM G k Rt) args s (mcM k) (msM k) (fun q => gB G ≤ q)) G Rt := by
  intro H locs cc ss pc ls v h st r o h1 h2 hR hri
  obtain ⟨r0, r1, r2, r4, r3⟩ := rKM k hk
  refine W.widen h1 h2 ?_
  rcases hri with ⟨ek, rfl, rfl, hd⟩ | ⟨ek, ⟨x, rfl, rfl⟩, hd⟩ | ⟨ek, ⟨x, rfl, rfl⟩, hd⟩ | ⟨ek, ⟨a, rfl, rfl⟩, hd⟩ | ⟨ek, ⟨x, rfl, hx01, rfl⟩, hd⟩
  · exact W.vret hx hb (by rw [hr, r0 ek]) (fun t ht hW => ⟨.null, h, by simp [rv, ek], by simp [vT, ek], by rw [ht]; exact r.warm hW, hR⟩) o hd
  · exact W.iret hx hb (by rw [hr, r1 ek]) (fun t ht hW => ⟨.int x, h, by simp [rv, ek, em], by simp [vT, ek], by rw [ht]; exact r.warm hW, hR⟩) o hd
  · exact W.lret hx hb (by rw [hr, r2 ek]) (fun t ht hW => ⟨.long x, h, by simp [rv, ek, em], by simp [vT, ek], by rw [ht]; exact r.warm hW, hR⟩) o hd
  · have h3 := r3 ek
    have hrt : ∃ rt, rM k = some rt ∧ ((∃ n, rt = .object n) ∨ ∃ t, rt = .array t) := by
      unfold isRT at h3
      split at h3
      · rename_i e9; exact ⟨_, e9, Or.inl ⟨_, rfl⟩⟩
      · rename_i e9; exact ⟨_, e9, Or.inr ⟨_, rfl⟩⟩
      · cases h3
    obtain ⟨rt, e8, e9⟩ := hrt
    exact W.aret (rt := rt) hx hb (by rw [hr, e8]) e9 (by unfold er; split; exact Or.inl rfl; exact Or.inr ⟨_, rfl⟩) (fun t ht hW => ⟨.ref a, h, by simp [rv, ek, em], by simp [vT, ek], by rw [ht]; exact r.warm hW, hR⟩) o hd
  · exact W.zret (ty := .boolean) hx hb (by rw [hr, r4 ek]) (by rcases hx01 with rfl | rfl <;> rfl) (fun t ht hW => ⟨.int x, h, by simp [rv, ek, em], by simp only [vT, ek]; exact ⟨x, rfl, hx01⟩, by rw [ht]; exact r.warm hW, hR⟩) o hd
theorem Sp_intro {k : Nat} {as : List Value} {h : MH} {Rt : Value → MH → Prop} (hk : k < 281) (hpl : plainName (yM k).cls = true) (ha : okA as = true) (hl : (entL as).length ≤ lM k) (w : WM k 0 (ent (lM k) as) [] h 0 0 Rt) : Sp k as h Rt := by
  intro l G
  refine Met.ofW (cc := bM k) (maxL := lM k) (ret := rM k) hpl rfl ?_
  intro p e s m args below meth c s₁ B hml hv
  obtain ⟨rfl, hr, hK⟩ := hv
  have hts := atoms_spec (ws := wM k) B.pre
  rw [lg_entry_eq]
  refine w p l e (headSpec (wM k) (roomM k)).room s m _ below meth c _ G s.heap [] _ ⟨B.exec, B.bytes, hml, findClass_of_methodNamed B.named, fun w hw => hts w (List.mem_cons_of_mem _ hw), ⟨Nat.le_refl _, Nat.le_refl _, Nat.le_refl _, Nat.le_refl _⟩, hK, ?_, fun hi => ?_⟩ (FN.own hk B.exec B.bytes B.returns B.notSynchronized) hr (fun _ q => by cases q) (LR.entry ha hl)
  · have := hr.1.2.1
    have := hr.1.1
    omega
  · rw [(name_of_methodNamed B.named B.method).1]
    exact eq_of_beq hi
abbrev Rows : Type := List (Nat × Nat × Sem)
def lk : List (Nat × List Bool) → Nat → Option (List Bool)
  | [], _ => none
  | (a, m) :: hs, q => match Nat.beq a q with
    | true => some m
    | false => lk hs q
def gx (k : Nat) (hs : List (Nat × List Bool)) (Rt : Value → MH → Prop) (rs : Rows) (f : K5) : K5 := fun L st h cc ss => match rs with
  | [] => False
  | (pc, _) :: _ => match lk hs pc with
    | some m => WM k pc (kl m L) st h cc ss Rt
    | none => f L st h cc ss
def ex (k : Nat) (rows : Rows) (hs : List (Nat × List Bool)) (Rt : Value → MH → Prop) : Nat → Rows → K5
  | 0, _ => fun _ _ _ _ _ => False
  | _ + 1, [] => fun _ _ _ _ _ => False
  | n + 1, (_, _, sem) :: rs => fun L st h cc ss => sem L st h cc ss (gx k hs Rt rs (ex k rows hs Rt n rs)) (fun i => gx k hs Rt (rows.drop i) (ex k rows hs Rt n (rows.drop i))) Rt
def nxt : Rows → Nat → Prop
  | [], _ => True
  | (pc, _) :: _, q => pc = q
def GR (k : Nat) (pcs : Nat → Nat) : Rows → Prop
  | [] => True
  | (pc, len, sem) :: rs => Snd k pcs pc (pc + len) sem ∧ nxt rs (pc + len) ∧ GR k pcs rs
theorem GR.drop {k : Nat} {pcs : Nat → Nat} : ∀ (i : Nat) (rs : Rows), GR k pcs rs → GR k pcs (rs.drop i)
  | 0, rs, h => h
  | i + 1, [], h => h
  | i + 1, (_, _, _) :: rs, h => GR.drop i rs h.2.2
theorem WM.kl {k pc : Nat} {L st : List Value} {h : MH} {cc ss : Nat} {Rt : Value → MH → Prop} (m : List Bool) (w : WM k pc (kl m L) st h cc ss Rt) : WM k pc L st h cc ss Rt :=
  fun p l e R s mm args below meth c Q G H locs ls X F r o lr => w p l e R s mm args below meth c Q G H locs ls X F r o (lr.kl m)
theorem ex_ok {k : Nat} {rows : Rows} {hs : List (Nat × List Bool)} {Rt : Value → MH → Prop} {pl : List Nat} (hp : rows.map (fun q => q.1) = pl) (hg : GR k (fun i => pl.getD i 0) rows) :
    ∀ (n : Nat) (rs : Rows), GR k (fun i => pl.getD i 0) rs → ∀ (pc len : Nat) (sem : Sem) (rs' : Rows), rs = (pc, len, sem) :: rs' → ∀ L st h cc ss, ex k rows hs Rt n rs L st h cc ss → WM k pc L st h cc ss Rt
  | 0, rs, _, pc, len, sem, rs', _, L, st, h, cc, ss, q => q.elim
  | n + 1, rs0, hr, pc, len, sem, rs', e0, L, st, h, cc, ss, q => by
    subst e0
    have go : ∀ (rs : Rows), GR k (fun i => pl.getD i 0) rs → ∀ (q : Nat), nxt rs q → ∀ L st h cc ss, gx k hs Rt rs (ex k rows hs Rt n rs) L st h cc ss → WM k q L st h cc ss Rt := by
      intro rs hr q hq L st h cc ss w
      match rs, hr, hq, w with
      | (pc', len', sem') :: rs'', hr, hq, w =>
        have hq : pc' = q := hq
        subst hq
        unfold gx at w
        cases hl : lk hs pc' with
        | some m =>
          simp only [hl] at w
          exact WM.kl m w
        | none =>
          simp only [hl] at w
          exact ex_ok hp hg n _ hr pc' len' sem' rs'' rfl _ _ _ _ _ w
    refine hr.1 L st h cc ss _ _ Rt q (fun L st h cc ss w => go rs' hr.2.2 _ hr.2.1 L st h cc ss w) (fun i L st h cc ss w => ?_)
    have hgd := GR.drop i rows hg
    refine go (rows.drop i) hgd _ ?_ L st h cc ss w
    cases hdr : rows.drop i with
    | nil => exact trivial
    | cons r rs =>
      obtain ⟨a, b, sem2⟩ := r
      show a = pl.getD i 0
      have h9 : rows[i]? = some (a, b, sem2) := by
        have h9 := congrArg List.head? hdr
        rw [List.head?_drop] at h9
        exact h9
      rw [← hp, List.getD_eq_getElem?_getD, List.getElem?_map, h9]
      rfl
theorem WM_at {k : Nat} {rows : Rows} {hs : List (Nat × List Bool)} {pl : List Nat} (g : rows.map (fun q => q.1) = pl ∧ GR k (fun i => pl.getD i 0) rows) (n i : Nat) {pc : Nat} {L st : List Value} {h : MH} {cc ss : Nat} {Rt : Value → MH → Prop} (hi : pl[i]? = some pc) (w : ex k rows hs Rt n (rows.drop i) L st h cc ss) : WM k pc L st h cc ss Rt := by
  have hgd := GR.drop i rows g.2
  cases hdr : rows.drop i with
  | nil =>
    rw [hdr] at w
    cases n <;> exact w.elim
  | cons r rs =>
    obtain ⟨a, b, sem2⟩ := r
    have h9 : rows[i]? = some (a, b, sem2) := by
      have h9 := congrArg List.head? hdr
      rw [List.head?_drop] at h9
      exact h9
    have h8 : pl[i]? = some a := by rw [← g.1, List.getElem?_map, h9]; rfl
    have h7 : a = pc := Option.some.inj (h8.symm.trans hi)
    subst h7
    rw [hdr] at hgd w
    exact ex_ok g.1 g.2 n _ hgd a b sem2 rs rfl _ _ _ _ _ w
