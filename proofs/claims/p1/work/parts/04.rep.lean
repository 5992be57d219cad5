theorem up2_s {α : Type} {f : Nat → Nat → α} {a i : Nat} {x : α} : up2 f a i x a i = x := by simp [up2]
theorem up2_n {α : Type} {f : Nat → Nat → α} {a i b j : Nat} {x : α} (h : b ≠ a ∨ j ≠ i) : up2 f a i x b j = f b j := by
  unfold up2
  rw [if_neg]
  rintro ⟨rfl, rfl⟩
  rcases h with h | h <;> exact h rfl
theorem ad_ge {G : WG} {a : Nat} (h : 5 ≤ a) : ad G a = gB G + (a - 5) := by unfold ad; rw [if_neg (by omega)]
theorem ad_lt {G : WG} {a : Nat} (h : a < 5) : ad G a = gS G a := by unfold ad; rw [if_pos h]
theorem ad_le {G : WG} {a : Nat} (h : 5 ≤ a) : gB G ≤ ad G a := by rw [ad_ge h]; omega
theorem RP.pos {G : WG} {h : MH} {s : State} {H : Heap} (r : RP G h s H) {a : Nat} (k0 : kd h a ≠ 0) (k9 : kd h a ≠ 19) : 5 ≤ a ∧ a < hn h := by
  rcases r.2.1 a k0 with q | q
  · exact absurd q.1 k9
  · exact q.2
theorem ad_ne {G : WG} {h : MH} {s : State} {H : Heap} (r : RP G h s H) {a b : Nat} (ha : 5 ≤ a) (hb : kd h b ≠ 0) (hab : b ≠ a) : ad G b ≠ ad G a := by
  rcases r.2.1 b hb with ⟨-, b0, b5⟩ | ⟨-, b5, -⟩
  · rw [ad_lt b5, ad_ge ha]
    have := r.1.2.2 b b0 b5
    omega
  · rw [ad_ge b5, ad_ge ha]
    omega
theorem CLa.congr {G : WG} {h h' : MH} {s : State} {H H' : Heap} {a : Nat} (hk : kd h' a = kd h a) (hl : kd h a ≠ 0 → ln h' a = ln h a) (h1 : kd h a ≠ 0 → mi h' a = mi h a) (h2 : kd h a ≠ 0 → ml h' a = ml h a) (h3 : kd h a ≠ 0 → mr h' a = mr h a) (hH : kd h a ≠ 0 → H'[ad G a]? = H[ad G a]?) (q : CLa G h s H a) : CLa G h' s H' a := by
  obtain ⟨q1, q2, q3⟩ := q
  refine ⟨fun c hc e => ?_, fun e => ?_, fun k k1 k2 e => ?_⟩
  · rw [hk] at e
    have hne : kd h a ≠ 0 := by omega
    refine ((q1 c hc e).kept (hH hne)).to (fun j _ => ?_)
    unfold fv
    rw [h1 hne, h2 hne, h3 hne]
  · rw [hk] at e
    have hne : kd h a ≠ 0 := by omega
    obtain ⟨cell, a1, a2, a3, a4, a5⟩ := q2 e
    exact ⟨cell, by rw [hH hne]; exact a1, a2, a3, by rw [hl hne]; exact a4, fun j hj => by rw [h1 hne]; rw [hl hne] at hj; exact a5 j hj⟩
  · rw [hk] at e
    have hne : kd h a ≠ 0 := by omega
    obtain ⟨cell, a1, a2, a3, a4, a5⟩ := q3 k k1 k2 e
    refine ⟨cell, by rw [hH hne]; exact a1, a2, a3, by rw [hl hne]; exact a4, fun j hj => ?_⟩
    rw [hl hne] at hj
    have := a5 j hj
    unfold av at this ⊢
    rw [h1 hne, h2 hne, h3 hne]
    exact this
theorem ZS.kept {G : WG} {s : State} {H H' : Heap} {n : String} {i : Nat} (z : ZS G s H n i) (hq : ∀ q, q < H.size → q < gB G → H'[q]? = H[q]?) : ZS G s H' n i :=
  va_Z.kept z (fun a ha hA => hq a ha (Nat.not_le.mp hA))
/-- a cell of the run's own is written -/
theorem RP.upd {G : WG} {h h' : MH} {s : State} {H H' : Heap} {a : Nat} (r : RP G h s H) (ha : 5 ≤ a) (hz : H'.size = H.size) (ho : ∀ q, q ≠ ad G a → H'[q]? = H[q]?)
    (en : hn h' = hn h) (ek : kd h' = kd h) (el : ln h' = ln h) (e1 : ∀ b, b ≠ a → mi h' b = mi h b) (e2 : ∀ b, b ≠ a → ml h' b = ml h b) (e3 : ∀ b, b ≠ a → mr h' b = mr h b) (hc : CLa G h' s H' a) : RP G h' s H' := by
  have hzs : ∀ q, q < H.size → q < gB G → H'[q]? = H[q]? := fun q _ h2 => ho q (by have := ad_le (G := G) ha; omega)
  obtain ⟨⟨r1, r2, r3⟩, r4, r5, z1, z2, z3⟩ := r
  refine ⟨⟨by rw [en]; exact r1, by rw [hz, en]; exact r2, r3⟩, fun b hb => ?_, fun b => ?_, z1.kept hzs, z2.kept hzs, z3.kept hzs⟩
  · rw [ek] at hb ⊢
    rw [en]
    exact r4 b hb
  · by_cases hba : b = a
    · subst hba
      exact hc
    · exact (r5 b).congr (by rw [ek]) (fun _ => by rw [el]) (fun _ => e1 b hba) (fun _ => e2 b hba) (fun _ => e3 b hba) (fun hk => ho _ (ad_ne ⟨⟨r1, r2, r3⟩, r4, r5, z1, z2, z3⟩ ha hk hba))
/-- a cell is made -/
theorem RP.new {G : WG} {h : MH} {s : State} {H H' : Heap} {k n : Nat} (r : RP G h s H) (hk : k ≠ 19) (hz : H'.size = H.size + 1) (ho : ∀ q, q < H.size → H'[q]? = H[q]?) (hc : CLa G (nw h k n) s H' (hn h)) : RP G (nw h k n) s H' := by
  have r0 := r
  obtain ⟨⟨r1, r2, r3⟩, r4, r5, z1, z2, z3⟩ := r
  have hzs : ∀ q, q < H.size → q < gB G → H'[q]? = H[q]? := fun q h1 _ => ho q h1
  have kne : ∀ b, b ≠ hn h → kd (nw h k n) b = kd h b := fun b hb => if_neg hb
  refine ⟨⟨Nat.le_succ_of_le r1, ?_, r3⟩, fun b hb => ?_, fun b => ?_, z1.kept hzs, z2.kept hzs, z3.kept hzs⟩
  · show H'.size + 5 = gB G + (hn h + 1)
    omega
  · by_cases hbn : b = hn h
    · subst hbn
      have e : kd (nw h k n) (hn h) = k := if_pos rfl
      exact Or.inr ⟨by rw [e]; exact hk, r1, Nat.lt_succ_self _⟩
    · rw [kne b hbn] at hb ⊢
      rcases r4 b hb with q | ⟨q1, q2, q3⟩
      · exact Or.inl q
      · exact Or.inr ⟨q1, q2, Nat.lt_succ_of_lt q3⟩
  · by_cases hbn : b = hn h
    · subst hbn
      exact hc
    · refine (r5 b).congr (kne b hbn) (fun _ => if_neg hbn) (fun _ => ?_) (fun _ => ?_) (fun _ => ?_) (fun hk => ho _ ?_)
      · funext j; exact if_neg hbn
      · funext j; exact if_neg hbn
      · funext j; exact if_neg hbn
      · rcases r4 b hk with ⟨-, b0, b5⟩ | ⟨-, b5, bn⟩
        · rw [ad_lt b5]
          have := r3 b b0 b5
          omega
        · rw [ad_ge b5]
          omega
theorem ad_new {G : WG} {h : MH} {s : State} {H : Heap} (r : RP G h s H) : ad G (hn h) = H.size := by
  rw [ad_ge r.1.1]
  have := r.1.2.1
  have := r.1.1
  omega
theorem CLa.moved {G : WG} {h : MH} {u U : State} {H : Heap} {a : Nat} (hvm : u.vm.Alike U.vm) (q : CLa G h u H a) : CLa G h U H a := by
  refine ⟨q.1, fun e => ?_, q.2.2⟩
  obtain ⟨cell, a1, a2, a3⟩ := q.2.1 e
  exact ⟨cell, a1, State.isArrayOf_alike hvm a2, a3⟩
theorem RP.moved {G : WG} {h : MH} {u U : State} {H : Heap} (hvm : u.vm.Alike U.vm) (r : RP G h u H) : RP G h U H :=
  ⟨r.1, r.2.1, fun a => (r.2.2.1 a).moved hvm, va_Z.moved hvm r.2.2.2.1, va_Z.moved hvm r.2.2.2.2.1, va_Z.moved hvm r.2.2.2.2.2⟩
theorem ao_moved {t : FieldType} {u U : State} (hvm : u.vm.Alike U.vm) (h : (Cond.arrayOver t).before #[] u = true) : (Cond.arrayOver t).before #[] U = true := by
  have e := Cond.arrayOver_setVmC (args := #[]) hvm t
  rw [h] at e
  simp only [Cond.before, Cond.holds, Cond.value, State.vm_setVm] at e ⊢
  exact e
theorem nest_warm {s U : State} (hW : s.WarmedH U.vm) : ∀ w ∈ nestW, va_Nw w s → va_Nw w U := by
  intro w hw hz
  simp only [nestW, List.mem_cons, List.not_mem_nil, or_false] at hw
  rcases hw with rfl | rfl | rfl | rfl | rfl | rfl | rfl | rfl | rfl | rfl | rfl | rfl | rfl | rfl | rfl | rfl <;> first | exact va_Nw.warmM hW hz | exact va_Nw.warmF hW hz
theorem KN.warm {G : WG} {s U : State} (hW : s.WarmedH U.vm) (h : KN G s) : KN G U := by
  have hvm := hW.alike
  refine ⟨fun c hc => u_Kn_moved hvm (h.1 c hc), fun k k1 k2 => ?_, fun w hw => nest_warm hW w hw (h.2.2.1 w hw), fun k k1 k2 => ao_moved hvm (h.2.2.2 k k1 k2)⟩
  obtain ⟨kA, comp, a1, a2, a3, a4⟩ := h.2.1 k k1 k2
  obtain ⟨k', hk', he⟩ := hvm.2.2 _ _ a1
  exact ⟨k', comp, hk', by rw [he]; exact a2, by rw [hvm.findClass]; exact a3, a4⟩
theorem RP.warm {G : WG} {h : MH} {s U : State} {H : Heap} (hW : s.WarmedH U.vm) (r : RP G h s H) : RP G h U H := r.moved hW.alike
theorem nest_tab : ∀ w ∈ nestW, w.onTables = true := by decide +kernel
