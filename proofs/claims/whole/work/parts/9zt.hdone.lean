/-! the half's list is the whole's -/
theorem HSt.done {f f1 : (Nat → Nat → Int32)} {l l1 : (Nat → Nat → Int64)} {s : S6} {P : List Pl} {m y : Nat} (hm : m < 7) (st : HSt f l s P m y f1 l1 (bN m)) : ∃ L, L.length ≤ bN m / 2 ∧ LinL s P m 0 (bN m) L ∧ LnR f1 l1 y L (lnV s P m 0 (bN m)) := by
  obtain ⟨L, _, _, _, ll, le, rl⟩ := st
  have o := bN_odd m
  refine ⟨L, by omega, ll.half hm, rl.ext (fun q i => ?_)⟩
  unfold V2
  by_cases e : i = 0
  · rw [if_pos e, e, lnV_0]
  · rw [if_neg e, lnV_half hm (by omega)]
