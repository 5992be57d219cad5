/-! the reference sorts its list and numbers it -/
def rot (i k : Nat) (j : Nat) : Nat := if j < i then j else if j = i then k else if j ≤ k then j - 1 else j
def bck (i k : Nat) (j : Nat) : Nat := if j < i then j else if j = k then i else if j < k then j + 1 else j
theorem rot_lt {i k n j : Nat} (hi : i ≤ k) (hk : k < n) (hj : j < n) : rot i k j < n := by unfold rot; split; omega; split; omega; split <;> omega
theorem bck_lt {i k n j : Nat} (hi : i ≤ k) (hk : k < n) (hj : j < n) : bck i k j < n := by unfold bck; split; omega; split; omega; split <;> omega
theorem rot_bck {i k j : Nat} (hi : i ≤ k) : rot i k (bck i k j) = j := by
  unfold bck
  split
  · unfold rot; rw [if_pos (by omega)]
  · split
    · unfold rot; rw [if_neg (by omega), if_pos rfl]; omega
    · split
      · unfold rot; rw [if_neg (by omega), if_neg (by omega), if_pos (by omega)]; omega
      · unfold rot; rw [if_neg (by omega), if_neg (by omega), if_neg (by omega)]
theorem bck_rot {i k j : Nat} (hi : i ≤ k) : bck i k (rot i k j) = j := by
  unfold rot
  split
  · unfold bck; rw [if_pos (by omega)]
  · split
    · unfold bck; rw [if_neg (by omega), if_pos rfl]; omega
    · split
      · unfold bck; rw [if_neg (by omega), if_neg (by omega), if_pos (by omega)]; omega
      · unfold bck; rw [if_neg (by omega), if_neg (by omega), if_neg (by omega)]
def ShF (L : List Nat) (F : Nat → Nat) : Prop := (∀ j, j < L.length → F j ∈ L) ∧ (∀ x ∈ L, ∃ j, j < L.length ∧ F j = x) ∧ ∀ i j, i < L.length → j < L.length → F i = F j → i = j
theorem ShF.rt {L : List Nat} {F : Nat → Nat} {i k : Nat} (h : ShF L F) (hi : i ≤ k) (hk : k < L.length) : ShF L (fun j => F (rot i k j)) := by
  refine ⟨fun j hj => h.1 _ (rot_lt hi hk hj), fun x hx => ?_, fun a b ha hb e => ?_⟩
  · obtain ⟨j, hj, e⟩ := h.2.1 x hx
    exact ⟨bck i k j, bck_lt hi hk hj, by show F (rot i k _) = _; rw [rot_bck hi]; exact e⟩
  · have := h.2.2 _ _ (rot_lt hi hk ha) (rot_lt hi hk hb) e
    rw [← bck_rot (j := a) hi, ← bck_rot (j := b) hi, this]
theorem num_sort {h : MH} {l : (Nat → Nat → Int64)} {L : List Nat} {Rt : Value → MH → Prop} (f0 : (Nat → Nat → Int32)) (hl : LsAt f0 L)
    (fin : ∀ (f : (Nat → Nat → Int32)) (F : Nat → Nat), ShF L F → (∀ i j, i < j → j < L.length → F i < F j) → Fr [66] f0 f → (∀ j, j < L.length → f 66 j = nI (F j)) → WM k_Ref_numbered p_Ref_numbered_3 [.ref 54, .int (nI 0), Jv, Jv] [] (sil h f l) 0 0 Rt) :
    WM k_Ref_numbered p_Ref_numbered_1 [.ref 54, .int (nI 1), Jv, Jv] [] (sil h f0 l) 0 0 Rt := by
  obtain ⟨⟨l1, l2, l3⟩, l4, l5⟩ := hl
  have bd : ∀ {F : Nat → Nat} (s : ShF L F) {j : Nat}, j < L.length → F j < 272097792 := fun s j hj => l3 _ (s.1 j hj)
  have n19 : ∀ f, Fr [66] f0 f → f 54 19 = nI L.length := fun f fr => by rw [fr 54 (by decide)]; exact l4
  have main : ∀ d k (f : (Nat → Nat → Int32)) (F : Nat → Nat), L.length - k = d → ShF L F → (∀ i j, i < j → j < k → j < L.length → F i < F j) → Fr [66] f0 f → (∀ j, j < L.length → f 66 j = nI (F j)) → k ≤ 192 → 1 ≤ k →
      WM k_Ref_numbered p_Ref_numbered_1 [.ref 54, .int (nI k), Jv, Jv] [] (sil h f l) 0 0 Rt := by
    intro d
    induction d with
    | zero =>
      intro k f F hd s inc fr ar hk hk1
      refine v_Ref_numbered_1 _ _ _ _ ⟨K54, ?_⟩
      rw [mi_sil, n19 f fr, nI_toI (by omega), nI_toI (by omega)]
      exact ⟨fun c => absurd c (by omega), fun _ => fin f F s (fun i j h1 h2 => inc i j h1 (by omega) h2) fr ar⟩
    | succ d ih =>
      intro k f F hd s inc fr ar hk hk1
      have kl : k < L.length := by omega
      have bk := bd s kl
      have inner : ∀ i (f : (Nat → Nat → Int32)), i ≤ k → Fr [66] f0 f → (∀ j, j < i → f 66 j = nI (F j)) → (∀ j, i < j → j ≤ k → f 66 j = nI (F (j - 1))) → (∀ j, k < j → j < L.length → f 66 j = nI (F j)) → (∀ j, i ≤ j → j < k → F k < F j) →
          WM k_Ref_numbered p_Ref_numbered_2 [.ref 54, .int (nI k), .int (nI (F k)), .int (nI i)] [] (sil h f l) 0 0 Rt := by
        have put : ∀ i (f : (Nat → Nat → Int32)), i ≤ k → Fr [66] f0 f → (∀ j, j < i → f 66 j = nI (F j)) → (∀ j, i < j → j ≤ k → f 66 j = nI (F (j - 1))) → (∀ j, k < j → j < L.length → f 66 j = nI (F j)) → (∀ j, i ≤ j → j < k → F k < F j) → (∀ j, j < i → F j < F k) →
            WM k_Ref_numbered p_Ref_numbered_1 [.ref 54, .int (nI k + 1), Jv, Jv] [] (sil h (up2 f 66 i (nI (F k))) l) 0 0 Rt := by
          intro i f hi fr a1 a2 a3 a4 a5
          rw [nI_1]
          refine ih (k + 1) _ (fun j => F (rot i k j)) (by omega) (s.rt hi kl) (fun a b h1 h2 h3 => ?_) (fr.up (by decide)) (fun j hj => ?_) (by omega) (by omega)
          · show F (rot i k a) < F (rot i k b)
            by_cases c1 : b < i
            · rw [show rot i k a = a by unfold rot; exact if_pos (by omega), show rot i k b = b by unfold rot; exact if_pos c1]
              exact inc a b h1 (by omega) (by omega)
            · by_cases c2 : b = i
              · rw [show rot i k a = a by unfold rot; exact if_pos (by omega), show rot i k b = k by unfold rot; rw [if_neg c1, if_pos c2]]
                exact a5 a (by omega)
              · have eb : rot i k b = b - 1 := by unfold rot; rw [if_neg c1, if_neg c2, if_pos (by omega)]
                rw [eb]
                by_cases c3 : a < i
                · rw [show rot i k a = a by unfold rot; exact if_pos c3]
                  exact inc a (b - 1) (by omega) (by omega) (by omega)
                · by_cases c4 : a = i
                  · rw [show rot i k a = k by unfold rot; rw [if_neg c3, if_pos c4]]
                    exact a4 (b - 1) (by omega) (by omega)
                  · rw [show rot i k a = a - 1 by unfold rot; rw [if_neg c3, if_neg c4, if_pos (by omega)]]
                    exact inc (a - 1) (b - 1) (by omega) (by omega) (by omega)
          · show _ = nI (F (rot i k j))
            by_cases c1 : j = i
            · subst c1
              rw [up2_s, show rot j k j = k by unfold rot; rw [if_neg (Nat.lt_irrefl j), if_pos rfl]]
            · rw [up2_ni c1]
              by_cases c2 : j < i
              · rw [show rot i k j = j by unfold rot; exact if_pos c2]; exact a1 j c2
              · by_cases c3 : j ≤ k
                · rw [show rot i k j = j - 1 by unfold rot; rw [if_neg c2, if_neg c1, if_pos c3]]; exact a2 j (by omega) c3
                · rw [show rot i k j = j by unfold rot; rw [if_neg c2, if_neg c1, if_neg c3]]; exact a3 j (by omega) hj
        intro i
        induction i with
        | zero =>
          intro f hi fr a1 a2 a3 a4
          refine v_Ref_numbered_2 _ _ _ _ _ _ ?_
          rw [nI_toI (by omega), R54_18, ix_nI (by omega)]
          refine ⟨fun c => absurd c (by omega), fun _ => ⟨K54, K66, InB_nI (show 0 < 200 by omega) (by omega), ?_⟩⟩
          rintro _ rfl
          rw [wi_sil]
          exact put 0 f hi fr a1 a2 a3 a4 (fun j hj => absurd hj (Nat.not_lt_zero j))
        | succ i ihi =>
          intro f hi fr a1 a2 a3 a4
          have bi := bd s (show i < L.length by omega)
          have ei : f 66 i = nI (F i) := a1 i (by omega)
          refine v_Ref_numbered_2 _ _ _ _ _ _ ?_
          rw [nI_toI (by omega), R54_18, show nI (i + 1) - (1 : Int32) = nI i by show nI (i + 1) - nI 1 = _; rw [pk_sub (by omega)]; rfl, ix_nI (by omega), ix_nI (by omega), mi_sil, ei, nI_toI (by omega), nI_toI (by omega)]
          refine ⟨fun _ => ⟨K54, K66, InB_nI (show i < 200 by omega) (by omega), fun c => ⟨InB_nI (show i + 1 < 200 by omega) (by omega), ?_⟩, fun c => ⟨InB_nI (show i + 1 < 200 by omega) (by omega), ?_⟩⟩, fun c => absurd (by omega) c⟩
          · rintro _ rfl
            rw [wi_sil, show nI (i + 1) + (-1 : Int32) = nI i by rw [show (-1 : Int32) = zI (-1) from rfl, nI_addZ, ← zI_nat]; congr 1; omega]
            refine ihi _ (by omega) (fr.up (by decide)) (fun j hj => ?_) (fun j h1 h2 => ?_) (fun j h1 h2 => ?_) (fun j h1 h2 => ?_)
            · rw [up2_ni (by omega)]; exact a1 j (by omega)
            · by_cases e : j = i + 1
              · subst e; rw [up2_s]; rfl
              · rw [up2_ni e]; exact a2 j (by omega) h2
            · rw [up2_ni (by omega)]; exact a3 j h1 h2
            · by_cases e : j = i
              · subst e; omega
              · exact a4 j (by omega) h2
          · rintro _ rfl
            rw [wi_sil]
            refine put (i + 1) f hi fr a1 a2 a3 a4 (fun j hj => ?_)
            have ne : F i ≠ F k := fun q => by have := s.2.2 i k (by omega) kl q; omega
            by_cases e : j = i
            · subst e; omega
            · have := inc j i (by omega) (by omega) (by omega)
              omega
      refine v_Ref_numbered_1 _ _ _ _ ⟨K54, ?_⟩
      rw [mi_sil, n19 f fr, nI_toI (by omega), nI_toI (by omega), R54_18, ix_nI (by omega), ar k kl]
      refine ⟨fun _ => ⟨K66, InB_nI (show k < 200 by omega) (by omega), ?_⟩, fun c => absurd (by omega) c⟩
      exact inner k f (Nat.le_refl _) fr (fun j hj => ar j (by omega)) (fun j h1 h2 => by omega) (fun j h1 h2 => ar j h2) (fun j h1 h2 => by omega)
  refine main _ 1 f0 (fun j => L.getD j 0) rfl ⟨fun j hj => getD_mem hj, fun x hx => mem_getD hx, fun i j hi hj e => ?_⟩ (fun i j h1 h2 h3 => by omega) Fr.refl l5 (by decide) (by decide)
  have e : L.getD i 0 = L.getD j 0 := e
  rw [getD_lt hi, getD_lt hj] at e
  rcases Nat.lt_trichotomy i j with q | q | q
  · exact absurd e (List.pairwise_iff_getElem.mp l2 i j hi hj q)
  · exact q
  · exact absurd e.symm (List.pairwise_iff_getElem.mp l2 j i hj hi q)
/-- the list is compared, and kept if it is new -/
def lF (F : Nat → Nat) (n : Nat) : List Nat := (List.range n).map F
theorem lF_len (F : Nat → Nat) (n : Nat) : (lF F n).length = n := by unfold lF; rw [List.length_map, List.length_range]
theorem lF_getD {F : Nat → Nat} {n i : Nat} (h : i < n) : (lF F n).getD i 0 = F i := by
  unfold lF
  rw [List.getD_eq_getElem?_getD, List.getElem?_map, List.getElem?_range h]
  rfl
theorem lF_mem {F : Nat → Nat} {n x : Nat} : x ∈ lF F n ↔ ∃ i, i < n ∧ F i = x := by
  unfold lF
  rw [List.mem_map]
  constructor
  · rintro ⟨i, hi, e⟩; exact ⟨i, List.mem_range.mp hi, e⟩
  · rintro ⟨i, hi, e⟩; exact ⟨i, List.mem_range.mpr hi, e⟩
theorem lF_srt {F : Nat → Nat} {n : Nat} (h : ∀ i j, i < j → j < n → F i < F j) : (lF F n).Pairwise (· < ·) := by
  rw [List.pairwise_iff_getElem]
  intro i j hi hj hij
  rw [← getD_lt hi, ← getD_lt hj]
  rw [lF_len] at hi hj
  rw [lF_getD hi, lF_getD hj]
  exact h i j hij hj
def NumP (h : MH) (f0 : (Nat → Nat → Int32)) (l : (Nat → Nat → Int64)) (L : List Nat) (GS : List (List Nat)) (r : Int32) (g : MH) : Prop := ∃ f' S GS', g = sil h f' l ∧ Fr [54, 64, 65, 66] f0 f' ∧ (∀ j, j ≠ 17 → f' 54 j = f0 54 j) ∧ S.Pairwise (· < ·) ∧ (∀ x, x ∈ S ↔ x ∈ L) ∧ Reg GS S r GS' ∧ RGrp f' GS'
theorem sp_Ref_numbered {h : MH} {f : (Nat → Nat → Int32)} {l : (Nat → Nat → Int64)} {L : List Nat} {GS : List (List Nat)} (hl : LsAt f L) (hg : RGrp f GS) : SpI k_Ref_numbered [.ref 54] (sil h f l) (fun r g => NumP h f l L GS r g) := by
  refine v_Ref_numbered _ _ _ (num_sort f hl ?_)
  intro f1 F s inc fr ar
  obtain ⟨⟨l1, l2, l3⟩, l4, l5⟩ := hl
  obtain ⟨g1, g2, g3, g4⟩ := hg
  have bd : ∀ {j : Nat}, j < L.length → F j < 272097792 := fun hj => l3 _ (s.1 _ hj)
  have n19 : f1 54 19 = nI L.length := by rw [fr 54 (by decide)]; exact l4
  have n17 : f1 54 17 = nI GS.length := by rw [fr 54 (by decide)]; exact g3
  have e65 : f1 65 = f 65 := fr 65 (by decide)
  have e64 : f1 64 = f 64 := fr 64 (by decide)
  have srt := lF_srt (F := F) (n := L.length) inc
  have mem : ∀ x, x ∈ lF F L.length ↔ x ∈ L := fun x => by
    rw [lF_mem]
    exact ⟨fun ⟨i, hi, e⟩ => by rw [← e]; exact s.1 i hi, fun hx => s.2.1 x hx⟩
  have fr4 : Fr [54, 64, 65, 66] f f1 := fr.mono (by decide)
  have keep : ∀ j, j ≠ 17 → f1 54 j = f 54 j := fun j _ => by rw [fr 54 (by decide)]
  have gr1 : RGrp f1 GS := ⟨g1, g2, n17, fun i hi => by rw [e65, e64]; exact g4 i hi⟩
  -- keeping it
  have last : (∀ j, j < GS.length → GS.getD j [] ≠ lF F L.length) → GS.length < 60 → ∀ d i (f2 : (Nat → Nat → Int32)), L.length - i = d → i ≤ L.length → Fr [54, 64, 65, 66] f f2 → f2 54 = f1 54 → f2 65 = f1 65 → f2 66 = f1 66 → (∀ m, m < 192 * GS.length → f2 64 m = f1 64 m) → (∀ j, j < i → f2 64 (192 * GS.length + j) = nI (F j)) →
      WM k_Ref_numbered p_Ref_numbered_5 [.ref 54, .int (nI i), Jv, Jv] [] (sil h f2 l) 0 0 (fun v g => ∃ r, v = .int r ∧ NumP h f l L GS r g) := by
    intro new lt d
    induction d with
    | zero =>
      intro i f2 hd hi fr2 q54 q65 q66 q64 done
      refine v_Ref_numbered_5 _ _ _ _ ⟨K54, ?_⟩
      rw [mi_sil, q54, n19, n17, nI_toI (by omega), nI_toI (by omega), R54_16, ix_nI (by omega)]
      refine ⟨fun c => absurd c (by omega), fun _ => ⟨K65, InB_nI (show GS.length < 60 by omega) (by omega), ?_⟩⟩
      rintro _ rfl
      rintro _ rfl
      rw [ix_nI (a := GS.length) (by omega), wi_sil, mi_sil, up2_ne (by decide), q54, n17, nI_1, wi_sil, mi_sil, up2_s]
      refine ⟨_, rfl, _, lF F L.length, GS ++ [lF F L.length], rfl, (fr2.up (by decide)).up (by decide), fun j hj => ?_, srt, mem, Or.inr ⟨new, Or.inr ⟨lt, ?_, rfl⟩⟩, ?_, fun S hS => ?_, ?_, fun j hj => ?_⟩
      · rw [up2_ni hj, up2_ne (by decide), q54]; exact keep j hj
      · show nI (GS.length + 1) - nI 1 = _; rw [pk_sub (by omega)]; rfl
      · rw [List.length_append]; show GS.length + 1 ≤ 60; omega
      · rcases List.mem_append.mp hS with q | q
        · exact g2 S q
        · rw [List.mem_singleton] at q
          subst q
          exact ⟨by rw [lF_len]; exact l1, fun x hx => l3 x ((mem x).mp hx)⟩
      · rw [up2_s, List.length_append]; rfl
      · rw [List.length_append] at hj
        have hj : j < GS.length + 1 := hj
        rw [up2_ne (by decide)]
        by_cases e : j = GS.length
        · subst e
          rw [gD_end, lF_len, up2_s]
          refine ⟨rfl, fun m hm => ?_⟩
          rw [up2_ne (by decide), up2_ne (by decide), lF_getD hm]
          exact done m (by omega)
        · have hj' : j < GS.length := by omega
          have w := (g2 _ (gD_mem hj')).1
          rw [gD_left hj', up2_ni e, q65]
          refine ⟨(gr1.2.2.2 j hj').1, fun m hm => ?_⟩
          rw [up2_ne (by decide), up2_ne (by decide), q64 _ (by omega)]
          exact (gr1.2.2.2 j hj').2 m hm
    | succ d ih =>
      intro i f2 hd hi fr2 q54 q65 q66 q64 done
      refine v_Ref_numbered_5 _ _ _ _ ⟨K54, ?_⟩
      rw [mi_sil, q54, n19, n17, nI_toI (by omega), nI_toI (by omega), R54_15, R54_18, show (192 : Int32) = nI 192 from rfl, nI_mul, nI_add, ix_nI (by omega), ix_nI (by omega), q66, ar i (by omega)]
      refine ⟨fun _ => ⟨K66, InB_nI (show i < 200 by omega) (by omega), K64, InB_nI (show 192 * GS.length + i < 11520 by omega) (by omega), ?_⟩, fun c => absurd (by omega) c⟩
      rintro _ rfl
      rw [wi_sil, nI_1]
      refine ih (i + 1) _ (by omega) (by omega) (fr2.up (by decide)) ?_ ?_ ?_ (fun m hm => ?_) (fun j hj => ?_)
      · rw [up2_row (by decide)]; exact q54
      · rw [up2_row (by decide)]; exact q65
      · rw [up2_row (by decide)]; exact q66
      · rw [up2_ni (by omega)]; exact q64 m hm
      · by_cases e : j = i
        · subst e; rw [up2_s]
        · rw [up2_ni (by omega)]; exact done j (by omega)
  -- comparing it
  have cmp : ∀ d g, GS.length - g = d → g ≤ GS.length → (∀ j, j < g → GS.getD j [] ≠ lF F L.length) →
      WM k_Ref_numbered p_Ref_numbered_3 [.ref 54, .int (nI g), Jv, Jv] [] (sil h f1 l) 0 0 (fun v g => ∃ r, v = .int r ∧ NumP h f l L GS r g) := by
    intro d
    induction d with
    | zero =>
      intro g hd hg2 ne
      refine v_Ref_numbered_3 _ _ _ _ ⟨K54, ?_⟩
      rw [mi_sil, n17, nI_toI (by omega), nI_toI (by omega), show (60 : Int32) = nI 60 from rfl, nI_inj (by omega) (by omega)]
      refine ⟨fun c => absurd c (by omega), fun _ => ⟨fun c => ⟨_, rfl, f1, lF F L.length, GS, rfl, fr4, keep, srt, mem, Or.inr ⟨fun j hj => ne j (by omega), Or.inl ⟨c, rfl, rfl⟩⟩, gr1⟩, fun c => ?_⟩⟩
      exact last (fun j hj => ne j (by omega)) (by omega) _ 0 f1 rfl (Nat.zero_le _) fr4 rfl rfl rfl (fun m _ => rfl) (fun j hj => absurd hj (Nat.not_lt_zero j))
    | succ d ih =>
      intro g hd hg2 ne
      have gl : g < GS.length := by omega
      have w := (g2 _ (gD_mem gl)).1
      have next : GS.getD g [] ≠ lF F L.length → WM k_Ref_numbered p_Ref_numbered_3 [.ref 54, .int (nI g + 1), Jv, Jv] [] (sil h f1 l) 0 0 (fun v g => ∃ r, v = .int r ∧ NumP h f l L GS r g) := fun q => by
        rw [nI_1]
        exact ih (g + 1) (by omega) (by omega) (fun j hj => by
          by_cases e : j = g
          · rw [e]; exact q
          · exact ne j (by omega))
      have four0 : GS.getD g [] ≠ lF F L.length → ∀ k, k ≤ 192 → WM k_Ref_numbered p_Ref_numbered_4 [.ref 54, .int (nI g), .int 0, .int (nI k)] [] (sil h f1 l) 0 0 (fun v g => ∃ r, v = .int r ∧ NumP h f l L GS r g) := fun q k hk => by
        refine v_Ref_numbered_4 _ _ _ _ _ _ ⟨K54, fun _ => ⟨fun _ => ⟨fun _ => next q, fun c => absurd rfl c⟩, fun c => absurd rfl c⟩, fun _ => ⟨fun _ => next q, fun c => absurd rfl c⟩⟩
      have four1 : (GS.getD g []).length = L.length → ∀ d k, L.length - k = d → k ≤ L.length → (∀ j, j < k → (GS.getD g []).getD j 0 = F j) → WM k_Ref_numbered p_Ref_numbered_4 [.ref 54, .int (nI g), .int 1, .int (nI k)] [] (sil h f1 l) 0 0 (fun v g => ∃ r, v = .int r ∧ NumP h f l L GS r g) := by
        intro len d
        induction d with
        | zero =>
          intro k hd hk eq
          refine v_Ref_numbered_4 _ _ _ _ _ _ ⟨K54, ?_⟩
          rw [mi_sil, n19, nI_toI (by omega), nI_toI (by omega)]
          refine ⟨fun c => absurd c (by omega), fun _ => ⟨fun c => absurd c (by decide), fun _ => ⟨_, rfl, f1, lF F L.length, GS, rfl, fr4, keep, srt, mem, Or.inl ⟨g, gl, ?_, ne, rfl, rfl⟩, gr1⟩⟩⟩
          refine list_ext (by rw [lF_len]; exact len) (fun i hi => ?_)
          rw [lF_getD (by omega)]
          exact eq i (by omega)
        | succ d ih4 =>
          intro k hd hk eq
          have kl : k < L.length := by omega
          have b1 := cOK_mem (g2 _ (gD_mem gl)).2 (show k < (GS.getD g []).length by omega)
          have b2 := bd kl
          refine v_Ref_numbered_4 _ _ _ _ _ _ ⟨K54, ?_⟩
          rw [mi_sil, n19, nI_toI (by omega), nI_toI (by omega), R54_15, R54_18, show (192 : Int32) = nI 192 from rfl, nI_mul, nI_add, ix_nI (by omega), ix_nI (by omega), ar k kl, (gr1.2.2.2 g gl).2 k (by omega), nI_inj (by omega) (by omega)]
          refine ⟨fun _ => ⟨fun c => absurd c (by decide), fun _ => ⟨K64, InB_nI (show 192 * g + k < 11520 by omega) (by omega), K66, InB_nI (show k < 200 by omega) (by omega), fun c => ?_, fun c => ?_⟩⟩, fun c => absurd (by omega) c⟩
          · rw [nI_1]; exact ih4 (k + 1) (by omega) (by omega) (fun j hj => by
              by_cases e : j = k
              · rw [e]; exact c
              · exact eq j (by omega))
          · rw [nI_1]; exact four0 (fun q => c (by rw [q, lF_getD kl])) (k + 1) (by omega)
      refine v_Ref_numbered_3 _ _ _ _ ⟨K54, ?_⟩
      rw [mi_sil, n17, nI_toI (by omega), nI_toI (by omega), R54_16, ix_nI (by omega), (gr1.2.2.2 g gl).1, n19, nI_inj (by omega) (by omega)]
      refine ⟨fun _ => ⟨K65, InB_nI (show g < 60 by omega) (by omega), fun c => ?_, fun c => ?_⟩, fun c => absurd (by omega) c⟩
      · exact four1 c _ 0 rfl (Nat.zero_le _) (fun j hj => absurd hj (Nat.not_lt_zero j))
      · exact four0 (fun q => c (by rw [q, lF_len])) 0 (by omega)
  exact cmp _ 0 rfl (Nat.zero_le _) (fun j hj => absurd hj (Nat.not_lt_zero j))
