/-! the class's addPair -/
def cpF (f : (Nat → Nat → Int32)) (d sp dp n : Nat) : (Nat → Nat → Int32) := fun b j => if b = d ∧ dp ≤ j ∧ j < dp + n then f d (sp + (j - dp)) else f b j
def inO (o : Nat → Nat) (k n j : Nat) : Nat := if j < k then o j else if j = k then n else o (j - 1)
theorem inO_lt {o : Nat → Nat} {k n j : Nat} (h : j < k) : inO o k n j = o j := if_pos h
theorem inO_eq {o : Nat → Nat} {k n j : Nat} (h : j = k) : inO o k n j = n := by unfold inO; rw [if_neg (by omega), if_pos h]
theorem inO_gt {o : Nat → Nat} {k n j : Nat} (h : k < j) : inO o k n j = o (j - 1) := by unfold inO; rw [if_neg (by omega), if_neg (by omega)]
theorem sp_addPair {h : MH} {f : (Nat → Nat → Int32)} {l : (Nat → Nat → Int64)} {y m : Nat} {L : List Int} {V : Int → Nat → Int} {q : Int} {pw : Nat → Int} (H : SS h) (hy : 99 ≤ y) (hm : m < 7) (lk : LnK h y m) (so : L.Pairwise (· < ·)) (lt : L.length < bN m / 2) (r : LnR f l y L V) (V0 : ∀ x, V x 0 = x) (lb : ∀ x ∈ L, -1000000000000 ≤ x ∧ x ≤ 1000000000000) (qb : -1000000000000 ≤ q ∧ q ≤ 1000000000000) (nv : q ∉ L → ∀ j, 1 ≤ j → V q j = 0) (hp : F4 l 48 pw) :
    SpV k_Lines_addPair [.ref y, .long (zL q), .ref 48] (sil h f l) (ApP h f l y L V q pw) := by
  have hl := half_le hm
  have lks : ∀ f' l', LnK (sil h f' l') y m := fun f' l' => lk.s H
  have r1 : ∀ f' l', mr (sil h f' l') y 1 = y + 1 := fun f' l' => (lks f' l').1.2.1
  have r2 : ∀ f' l', mr (sil h f' l') y 2 = y + 2 := fun f' l' => (lks f' l').1.2.2
  have n1 : ∀ f' l', ln (sil h f' l') (y + 1) = 6 * (bN m / 2) := fun f' l' => (lks f' l').2.2.1
  have n2 : ∀ f' l', ln (sil h f' l') (y + 2) = bN m / 2 := fun f' l' => (lks f' l').2.2.2.2
  have m6 : ∀ a : Nat, (6 : Int32) * nI a = nI (6 * a) := fun a => nI_mul 6 a
  have tn2 : (Int32.ofNat (bN m / 2)).toInt = ((bN m / 2 : Nat) : Int) := nI_toI (by omega)
  obtain ⟨e3, o, o1, o2, o3⟩ := id r
  have ins : ∀ k, k ≤ L.length → (∀ i, i < k → L.getD i 0 < q) → (∀ i, k ≤ i → i < L.length → q < L.getD i 0) → WM k_Lines_addPair p_Lines_addPair_1 [.ref y, .long (zL q), Jv, .ref 48, .int (nI k), Jv, Jv] [] (sil h f l) 0 0 (fun _ g => ApP h f l y L V q pw g) := by
    intro k hk lo hg
    have nq : q ∉ L := fun c => by
      obtain ⟨j, hj, e⟩ := zmem_getD c
      by_cases w : j < k
      · have := lo j w; omega
      · have := hg j (by omega) hj; omega
    refine v_Lines_addPair_1 _ _ _ _ _ _ ⟨(lks f l).1.1, ?_⟩
    rw [r2, n2, mi_sil, e3, tn2, nI_sub hk, nI_1, nI_toI (by omega), nI_toI (by omega), nI_toI (by omega), nI_toI (by omega), ix_nI (a := k) (by omega), ix_nI (a := k + 1) (by omega), ix_nI (a := L.length - k) (by omega)]
    refine ⟨(lks f l).2.2.2.1, fun _ => ⟨⟨by omega, by omega, by omega, by omega, by omega⟩, ?_⟩, fun c => absurd (by omega) c⟩
    rintro _ rfl
    have ec : cpI (sil h f l) (y + 2) k (y + 2) (k + 1) (L.length - k) = sil h (cpF f (y + 2) k (k + 1) (L.length - k)) l := rfl
    rw [ec, mi_sil]
    have cy : ∀ b, b ≠ y + 2 → cpF f (y + 2) k (k + 1) (L.length - k) b = f b := fun b hb => funext fun j => if_neg (fun w => hb w.1)
    have c1 : ∀ j, j < k → cpF f (y + 2) k (k + 1) (L.length - k) (y + 2) j = f (y + 2) j := fun j hj => if_neg (fun w => by omega)
    have c2 : ∀ j, k < j → j ≤ L.length → cpF f (y + 2) k (k + 1) (L.length - k) (y + 2) j = f (y + 2) (j - 1) := fun j h1 h2 => by
      show (if _ then _ else _) = _
      rw [if_pos ⟨rfl, by omega, by omega⟩, show k + (j - (k + 1)) = j - 1 by omega]
    generalize cpF f (y + 2) k (k + 1) (L.length - k) = f1 at *
    rw [cy y (by omega), e3]
    refine ⟨InB_nI (by omega) (by omega), ?_⟩
    rintro _ rfl
    rw [wi_sil, mi_sil, up2_ne (by omega), cy y (by omega), e3, m6]
    refine SpV.mono (sp_startRow (r := 6 * L.length) H hm lk (by omega)) ?_
    rintro _ ⟨l2, rfl, fr2, out2, q2, z2⟩
    refine ⟨(lks _ _).1.1, ?_⟩
    rw [mi_sil, up2_ne (by omega), cy y (by omega), e3, nI_1]
    rintro _ rfl
    rw [wi_sil]
    have len : (zS (insF (fun j => L.getD j 0) k q) (L.length + 1)).length = L.length + 1 := zS_len _ _
    have gi : (zS (insF (fun j => L.getD j 0) k q) (L.length + 1)).getD k 0 = q := by rw [zS_getD (by omega), insF_eq]
    have n48 : 48 ∉ [y + 1] := fun w => by have := List.mem_singleton.mp w; omega
    refine ap_add (L := zS (insF (fun j => L.getD j 0) k q) (L.length + 1)) H hy hm lk ?_ (fun j hj => by rw [up2_ni hj, up2_ne (by omega), cy y (by omega)]) fr2 (ins_srt so hk lo hg) (fun x => ?_) (by omega) (by omega) ⟨by rw [up2_s, len], inO o k L.length, fun j hj => ?_, fun a b ha hb e => ?_, fun j hj i hi => ?_⟩ (by omega) gi (hp.fr (fr2 48 n48))
    · refine Fr.up (Fr.up (fun b hb => cy b (fun e => hb (by rw [e]; simp))) (by simp)) (by simp)
    · rw [zS_mem, insF_mem hk]
      refine ⟨fun c => ?_, fun c => ?_⟩
      · rcases c with c | ⟨j, hj, e⟩
        · exact Or.inl c
        · exact Or.inr (by rw [← e]; exact zgetD_mem hj)
      · rcases c with c | c
        · exact Or.inl c
        · exact Or.inr (zmem_getD c)
    · rw [len] at hj ⊢
      rw [up2_ne (by omega)]
      rcases Nat.lt_trichotomy j k with c | c | c
      · have := o1 j (by omega)
        rw [inO_lt c, up2_ni (by omega), c1 j c]
        exact ⟨by omega, this.2⟩
      · subst c
        rw [inO_eq rfl, up2_s]
        exact ⟨by omega, rfl⟩
      · have := o1 (j - 1) (by omega)
        rw [inO_gt c, up2_ni (by omega), c2 j c (by omega)]
        exact ⟨by omega, this.2⟩
    · rw [len] at ha hb
      have ol : ∀ j, j < L.length → o j < L.length := fun j hj => (o1 j hj).1
      rcases Nat.lt_trichotomy a k with c | c | c <;> rcases Nat.lt_trichotomy b k with d | d | d
      · rw [inO_lt c, inO_lt d] at e; exact o2 a b (by omega) (by omega) e
      · rw [inO_lt c, inO_eq d] at e; have := ol a (by omega); omega
      · rw [inO_lt c, inO_gt d] at e; have := o2 a (b - 1) (by omega) (by omega) e; omega
      · rw [inO_eq c, inO_lt d] at e; have := ol b (by omega); omega
      · omega
      · rw [inO_eq c, inO_gt d] at e; have := ol (b - 1) (by omega); omega
      · rw [inO_gt c, inO_lt d] at e; have := o2 (a - 1) b (by omega) (by omega) e; omega
      · rw [inO_gt c, inO_eq d] at e; have := ol (a - 1) (by omega); omega
      · rw [inO_gt c, inO_gt d] at e; have := o2 (a - 1) (b - 1) (by omega) (by omega) e; omega
    · rw [len] at hj
      rw [zS_getD hj]
      rcases Nat.lt_trichotomy j k with c | c | c
      · have := (o1 j (by omega)).1
        rw [inO_lt c, insF_lt c, out2 _ (by omega)]; exact o3 j (by omega) i hi
      · subst c
        rw [inO_eq rfl, insF_eq]
        by_cases i0 : i = 0
        · subst i0; exact q2.trans (by rw [V0])
        · rw [z2 i (by omega) hi, nv nq i (by omega)]
      · have := (o1 (j - 1) (by omega)).1
        rw [inO_gt c, insF_gt c, out2 _ (by omega)]; exact o3 (j - 1) (by omega) i hi
  refine v_Lines_addPair _ _ _ _ _ ⟨(lks f l).1.1, SpI.mono (sp_Lines_seat H hm lk r V0 so (by omega) lb qb) ?_⟩
  rintro _ g ⟨eg, k, hk, rfl, lo, hg⟩
  subst g
  rw [mi_sil, e3, nI_toI (by omega), nI_toI (by omega)]
  refine ⟨(lks f l).1.1, fun c => ?_, fun c => ins k hk lo (fun i h1 h2 => absurd h1 (by omega))⟩
  have kl : k < L.length := by omega
  have ok := o1 k kl
  have b := lb _ (zgetD_mem kl)
  have v : l (y + 1) (6 * o k) = zL (L.getD k 0) := (o3 k kl 0 (by decide)).trans (by rw [V0])
  rw [r1, r2, n1, n2, ix_nI (a := k) (by omega), ok.2, m6, ix_nI (a := 6 * o k) (by omega), ml_sil, v, lz_eq b.1 b.2 qb.1 qb.2]
  refine ⟨(lks f l).2.2.2.1, InB_nI (by omega) (by omega), (lks f l).2.1, InB_nI (by omega) (by omega), fun e => ?_, fun e => ins k hk lo (fun i h1 h2 => ?_)⟩
  · exact ap_add H hy hm lk Fr.refl (fun _ _ => rfl) Fr.refl so (fun x => ⟨Or.inr, fun w => w.elim (fun w => by rw [w, ← e]; exact zgetD_mem kl) id⟩) (by omega) (by omega) r kl e hp
  · by_cases w : i = k
    · subst w; have := hg i h1 h2; omega
    · have := zsrt_lt so (show k < i by omega) h2
      have := hg k (Nat.le_refl _) kl
      omega
