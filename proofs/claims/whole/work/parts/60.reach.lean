/-! what operations make -/
def RSt (G X : Nat → Prop) : Prop := X idc ∧ ∀ x g y, X x → G g → Pr x g y → X y
def reach (G : Nat → Prop) (y : Nat) : Prop := ∀ X : Nat → Prop, RSt G X → X y
theorem reach_id {G : Nat → Prop} : reach G idc := fun _ h => h.1
theorem reach_step {G : Nat → Prop} {x g y : Nat} (h : reach G x) (hg : G g) (hp : Pr x g y) : reach G y := fun X hX => hX.2 x g y (h X hX) hg hp
theorem reach_ind {G : Nat → Prop} (P : Nat → Prop) (h0 : P idc) (hs : ∀ x g y, reach G x → P x → G g → Pr x g y → P y) : ∀ y, reach G y → P y := fun y hy =>
  (hy (fun y => reach G y ∧ P y) ⟨⟨reach_id, h0⟩, fun x g y q hg hp => ⟨reach_step q.1 hg hp, hs x g y q.1 q.2 hg hp⟩⟩).2
def Ops (G : Nat → Prop) : Prop := ∀ g, G g → isOp g
theorem id_op : isOp idc := ⟨id_ok, Or.inl (by rw [det9_ext id_M]; decide)⟩
theorem reach_op {G : Nat → Prop} (hG : Ops G) : ∀ y, reach G y → isOp y := reach_ind isOp id_op (fun _ g _ _ hx hg hp => Pr_op hp hx (hG g hg))
theorem reach_mono {G G' : Nat → Prop} (h : ∀ g, G g → G' g) {y : Nat} (hy : reach G y) : reach G' y := reach_ind (G := G) (reach G') reach_id (fun _ _ _ _ hx hg hp => reach_step hx (h _ hg) hp) y hy
def Total (G : Nat → Prop) : Prop := ∀ x, reach G x → ∀ g, G g → ∃ y, Pr x g y
theorem reach_mul {G : Nat → Prop} (hG : Ops G) (hT : Total G) {x : Nat} (hx : reach G x) : ∀ u, reach G u → ∃ v, Pr x u v ∧ reach G v := by
  refine reach_ind (fun u => ∃ v, Pr x u v ∧ reach G v) ⟨x, Pr.id_r (reach_op hG x hx).1, hx⟩ ?_
  rintro u m u' hu ⟨v, hv, rv⟩ hm hp
  obtain ⟨v', hv'⟩ := hT v rv m hm
  exact ⟨v', hv.assoc hp hv', reach_step rv hm hv'⟩
theorem reach_gen {G : Nat → Prop} {g : Nat} (hG : Ops G) (hg : G g) : reach G g := reach_step reach_id hg (Pr.id_l (hG g hg).1)
/-- what is made already makes nothing new -/
theorem reach_same {G G' : Nat → Prop} (hG : Ops G') (hT : Total G') (h1 : ∀ g, G' g → G g) (h2 : ∀ g, G g → reach G' g) : (∀ y, reach G y ↔ reach G' y) ∧ Total G := by
  have sub : ∀ y, reach G y → reach G' y := reach_ind _ reach_id (fun x g y _ hx hg hp => by
    obtain ⟨v, hv, rv⟩ := reach_mul hG hT hx g (h2 g hg)
    rw [hp.fn hv]; exact rv)
  refine ⟨fun y => ⟨sub y, reach_mono h1⟩, fun x hx g hg => ?_⟩
  obtain ⟨v, hv, _⟩ := reach_mul hG hT (sub x hx) g (h2 g hg)
  exact ⟨v, hv⟩
/-- a group comes of it: every product is an operation, and there are no more than 192 -/
def Good (G : Nat → Prop) : Prop := Total G ∧ ∀ L : List Nat, L.Nodup → (∀ x ∈ L, reach G x) → L.length ≤ 192
theorem sub_len : ∀ (L M : List Nat), L.Nodup → (∀ x ∈ L, x ∈ M) → L.length ≤ M.length
  | [], _, _, _ => Nat.zero_le _
  | x :: L, M, hn, h => by
    have hn' := List.nodup_cons.mp hn
    have hx : x ∈ M := h x List.mem_cons_self
    have := sub_len L (M.erase x) hn'.2 (fun y hy => (List.mem_erase_of_ne (fun e => hn'.1 (by rw [← e]; exact hy))).mpr (h y (List.mem_cons_of_mem _ hy)))
    rw [List.length_erase_of_mem hx] at this
    have := List.length_pos_of_mem hx
    simp only [List.length_cons]
    omega
theorem map_nodup {L : List Nat} {f : Nat → Nat} (hn : L.Nodup) (hf : ∀ x ∈ L, ∀ y ∈ L, f x = f y → x = y) : (L.map f).Nodup := by
  induction L with
  | nil => exact List.nodup_nil
  | cons a L ih =>
    have hn' := List.nodup_cons.mp hn
    rw [List.map_cons]
    refine List.nodup_cons.mpr ⟨fun q => ?_, ih hn'.2 (fun x hx y hy e => hf x (List.mem_cons_of_mem _ hx) y (List.mem_cons_of_mem _ hy) e)⟩
    obtain ⟨b, hb, e⟩ := List.mem_map.mp q
    have := hf b (List.mem_cons_of_mem _ hb) a List.mem_cons_self e
    exact hn'.1 (by rw [← this]; exact hb)
theorem surj_of {L : List Nat} {f : Nat → Nat} (hn : L.Nodup) (hm : ∀ x ∈ L, f x ∈ L) (hf : ∀ x ∈ L, ∀ y ∈ L, f x = f y → x = y) : ∀ z ∈ L, ∃ x ∈ L, f x = z := by
  intro z hz
  by_cases q : z ∈ L.map f
  · obtain ⟨x, hx, e⟩ := List.mem_map.mp q
    exact ⟨x, hx, e⟩
  · have := sub_len (z :: L.map f) L (List.nodup_cons.mpr ⟨q, map_nodup hn hf⟩) (fun y hy => by
      rcases List.mem_cons.mp hy with e | hy
      · rw [e]; exact hz
      · obtain ⟨x, hx, e⟩ := List.mem_map.mp hy
        rw [← e]; exact hm x hx)
    simp only [List.length_cons, List.length_map] at this
    omega
theorem Pr_toNat {p q r : Nat} (h : Pr p q r) : (prod p q).toNat = r := by rw [h.prod]; rfl
/-- in a finite one, each has its opposite -/
theorem reach_inv {G : Nat → Prop} {L : List Nat} (hG : Ops G) (hT : Total G) (hn : L.Nodup) (hL : ∀ y, y ∈ L ↔ reach G y) {x : Nat} (hx : reach G x) : ∃ y, reach G y ∧ Pr x y idc := by
  have pr : ∀ u ∈ L, Pr x u (prod x u).toNat ∧ reach G (prod x u).toNat := fun u hu => by
    obtain ⟨v, hv, rv⟩ := reach_mul hG hT hx u ((hL u).mp hu)
    rw [Pr_toNat hv]; exact ⟨hv, rv⟩
  obtain ⟨y, hy, e⟩ := surj_of (f := fun u => (prod x u).toNat) hn (fun u hu => (hL _).mpr (pr u hu).2) (fun u hu w hw e => by
    have a := (pr u hu).1
    have b := (pr w hw).1
    have e : (prod x u).toNat = (prod x w).toNat := e
    rw [← e] at b
    exact Pr.cancel (reach_op hG x hx) a b) idc ((hL _).mpr reach_id)
  have := (pr y hy).1
  have e : (prod x y).toNat = idc := e
  rw [e] at this
  exact ⟨y, (hL y).mp hy, this⟩
/-- a new maker at least doubles -/
theorem doubles {G : Nat → Prop} {L M : List Nat} {c : Nat} (hG : Ops G) (hc : isOp c) (hT : Total G) (hn : L.Nodup) (hL : ∀ y, y ∈ L ↔ reach G y) (hT' : Total (fun g => G g ∨ g = c)) (hM : ∀ y, reach (fun g => G g ∨ g = c) y → y ∈ M) (nc : ¬ reach G c) : 2 * L.length ≤ M.length := by
  have hG' : Ops (fun g => G g ∨ g = c) := fun g hg => by rcases hg with hg | hg; exact hG g hg; rw [hg]; exact hc
  have rc : reach (fun g => G g ∨ g = c) c := reach_gen hG' (Or.inr rfl)
  have up : ∀ y, reach G y → reach (fun g => G g ∨ g = c) y := fun y hy => reach_mono (fun g hg => Or.inl hg) hy
  have pr : ∀ u ∈ L, Pr c u (prod c u).toNat ∧ reach (fun g => G g ∨ g = c) (prod c u).toNat := fun u hu => by
    obtain ⟨v, hv, rv⟩ := reach_mul hG' hT' rc u (up u ((hL u).mp hu))
    rw [Pr_toNat hv]; exact ⟨hv, rv⟩
  have n2 : (L.map fun u => (prod c u).toNat).Nodup := map_nodup hn (fun u hu w hw e => by
    have a := (pr u hu).1
    have b := (pr w hw).1
    rw [← e] at b
    exact Pr.cancel hc a b)
  have dis : ∀ z ∈ L, z ∉ L.map fun u => (prod c u).toNat := by
    intro z hz q
    obtain ⟨u, hu, e⟩ := List.mem_map.mp q
    have pu := (pr u hu).1
    rw [e] at pu
    obtain ⟨u', ru', hu'⟩ := reach_inv hG hT hn hL ((hL u).mp hu)
    obtain ⟨w, hw, rw_⟩ := reach_mul hG hT ((hL z).mp hz) u' ru'
    have := pu.assoc hu' hw
    have e2 := this.fn (Pr.id_r hc.1)
    rw [e2] at rw_
    exact nc rw_
  have := sub_len (L ++ L.map fun u => (prod c u).toNat) M (List.nodup_append.mpr ⟨hn, n2, fun a ha b hb e => dis a ha (by rw [e]; exact hb)⟩) (fun y hy => by
    rcases List.mem_append.mp hy with hy | hy
    · exact hM y (up y ((hL y).mp hy))
    · obtain ⟨u, hu, e⟩ := List.mem_map.mp hy
      rw [← e]; exact hM _ (pr u hu).2)
  simp only [List.length_append, List.length_map] at this
  omega
