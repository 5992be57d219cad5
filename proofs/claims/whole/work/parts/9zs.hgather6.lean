/-! the class's gather -/
def GaP (h : MH) (s : S6) (P : List Pl) (m y : Nat) (g : MH) : Prop := ∃ g1 f' l', Kp [] h g1 ∧ hn g1 = hn h + 1 ∧ g = sil g1 f' l' ∧ HSt (mi g1) (ml g1) s P m y f' l' (bN m)
theorem sp_Lines_gather {h : MH} {x a b t y m : Nat} {P : List Pl} {s : S6} (H : SS h) (hx : 99 ≤ x) (hx2 : x + 6 < hn h) (hy : 99 ≤ y) (hy2 : y + 2 < hn h) (mk : MdK h x a b) (ma : MdA h x t P) (ok : okP t P) (ht : t ≤ 30) (hc : CosAt (mi h)) (oks : okC s) (hm : m < 7) (lk : LnK h y m) (hb : b < hn h) (kb : kd h b = 3) (ft : FoAt (ml h) b (db s)) (dis : ∀ j, j < 7 → x + j ≠ y ∧ x + j ≠ y + 2) (f0 : mi h y 0 = nI m) (f3 : mi h y 3 = 0) :
    SpV k_Lines_gather [.ref y, .ref x, .ref 45] h (GaP h s P m y) := by
  have h99 := H.1
  refine v_Lines_gather _ _ _ _ _ ⟨mk.1.1, ?_⟩
  rw [mk.1.2.2.1]
  refine SpR.mono (sp_reciprocal H oks hb kb ft) ?_
  rintro _ g ⟨rfl, K, hg, kr, fr⟩
  have no : ∀ z, z ∉ ([] : List Nat) := fun z => List.not_mem_nil
  have e0 := K.1.sil
  have ma1 : MdA (sil g (mi g) (ml g)) x t P := by rw [← e0]; exact ma.kp mk K hx2 (fun j _ => no _)
  have lk1 : LnK g y m := by
    unfold LnK at *
    rw [K.k (by omega), K.k (by omega), K.k (by omega), K.n (by omega), K.n (by omega), K.r (by omega) (no _)]
    exact lk
  have hc1 : CosAt (mi g) := fun j hj => by rw [K.i (by omega) (no _)]; exact hc j hj
  have E : HEnv g (mi g) (ml g) s P x a b t y (hn h) m := ⟨K.1, hx, hy, h99, mk.kp K hx2 (no _) (no _), ma1, ok, ht, hc1, oks, hm, lk1, kr, fr, dis, by rw [K.i (by omega) (no _)]; exact f0⟩
  have st : HSt (mi g) (ml g) s P m y (mi g) (ml g) (bN m / 2 + 1) := ⟨[], Fr.refl, fun _ _ => rfl, Fr.refl, LinL.nil, by show 0 + _ ≤ _; omega, by rw [K.i (by omega) (no _)]; exact f3, fun k => k, fun k hk => absurd hk (Nat.not_lt_zero k), fun j k hj => absurd hj (Nat.not_lt_zero j), fun k hk => absurd hk (Nat.not_lt_zero k)⟩
  have w := hg_1 (Rt := fun _ k => GaP h s P m y k) E (fun f2 l2 st2 => ⟨g, f2, l2, K, hg, rfl, st2⟩) _ m (mi g) (ml g) 1 6 rfl (by omega) (Nat.le_refl _) (by decide) (by decide) (Or.inl ⟨rfl, st⟩)
  rw [← e0, show ((m : Int) - m) = 0 by omega] at w
  exact w
