/-! what the search shows -/
theorem elm_i {y : Nat} : ∀ {L : List Nat}, elm y L = true ↔ y ∈ L
  | [] => ⟨fun h => Bool.noConfusion h, fun h => absurd h List.not_mem_nil⟩
  | a :: t => by
    show or (Nat.beq y a) (elm y t) = true ↔ _
    rw [Bool.or_eq_true, elm_i, List.mem_cons]
    exact ⟨fun h => h.imp (fun q => Nat.eq_of_beq_eq_true q) id, fun h => h.imp (fun q => by rw [q]; exact Nat.beq_refl a) id⟩
theorem stp_c {wg x : Nat} {ks : List Nat → List Nat → Bool} {g : E5} {gs : List E5} {td ac : List Nat} : stp wg x ks (g :: gs) td ac = cond (lok (lz g x)) (cond (elm (lsb (lz g x)) ac) (stp wg x ks gs td ac) (cond (Nat.ble wg (lsb (lz g x))) (stp wg x ks gs (lsb (lz g x) :: td) (lsb (lz g x) :: ac)) true)) true := by
  rw [stp, frc_e, frc_e]
theorem clo_c {wg : Nat} {gens : List E5} {k : List Nat → Bool} {n x : Nat} {td ac : List Nat} : clo wg gens k (n + 1) (x :: td) ac = stp wg x (fun td' ac' => clo wg gens k n td' ac') gens td ac := by rw [clo]
theorem clo_n {wg : Nat} {gens : List E5} {k : List Nat → Bool} {n : Nat} {ac : List Nat} : clo wg gens k (n + 1) [] ac = k ac := by rw [clo]
theorem srch_c {n : Nat} {G : List Nat} {gens : List E5} {g : E5} {t : List E5} : srch (n + 1) G gens (g :: t) = cond (elm g.1 G) (srch n G gens t) (and (clo g.1 (g :: gens) (fun H => srch n H (g :: gens) t) 200 (g.1 :: G) (g.1 :: G)) (srch n G gens t)) := by rw [srch]
theorem srch_n {n : Nat} {G : List Nat} {gens : List E5} : srch (n + 1) G gens [] = okc G := by rw [srch]
def PCl (Q : Nat → Prop) : Prop := ∀ e ∈ rtL, Q e.1 → ∀ x, Q x → lok (lz e x) = true ∧ Q (lsb (lz e x))
theorem stp_s {Q : Nat → Prop} (hc : PCl Q) {wg x : Nat} {ks : List Nat → List Nat → Bool} (hx : Q x) : ∀ (gs : List E5) (td ac : List Nat), (∀ e ∈ gs, e ∈ rtL ∧ Q e.1) → (∀ y ∈ td, Q y) → (∀ y ∈ ac, Q y) → (∀ y, Q y → y ∈ ac ∨ wg ≤ y) → stp wg x ks gs td ac = true →
    ∃ td' ac', (∀ y ∈ td', Q y) ∧ (∀ y ∈ ac', Q y) ∧ (∀ y ∈ ac, y ∈ ac') ∧ ks td' ac' = true
  | [], td, ac, _, h1, h2, _, h => ⟨td, ac, h1, h2, fun _ q => q, h⟩
  | g :: gs, td, ac, hg, h1, h2, h3, h => by
    obtain ⟨k1, k2⟩ := hc g (hg g List.mem_cons_self).1 (hg g List.mem_cons_self).2 x hx
    have hg' : ∀ e ∈ gs, e ∈ rtL ∧ Q e.1 := fun e he => hg e (List.mem_cons_of_mem _ he)
    rw [stp_c, k1, cond_true] at h
    generalize lsb (lz g x) = y at *
    by_cases m : y ∈ ac
    · rw [elm_i.mpr m, cond_true] at h
      exact stp_s hc hx gs td ac hg' h1 h2 h3 h
    · have e : elm y ac = false := by
        cases q : elm y ac with
        | false => rfl
        | true => exact absurd (elm_i.mp q) m
      have b : Nat.ble wg y = true := Nat.ble_eq.mpr ((h3 y k2).resolve_left m)
      rw [e, b, cond_false, cond_true] at h
      obtain ⟨td', ac', r1, r2, r3, r4⟩ := stp_s hc hx gs (y :: td) (y :: ac) hg' (fun z hz => (List.mem_cons.mp hz).elim (fun q => by rw [q]; exact k2) (h1 z)) (fun z hz => (List.mem_cons.mp hz).elim (fun q => by rw [q]; exact k2) (h2 z)) (fun z hz => (h3 z hz).imp (fun q => List.mem_cons_of_mem _ q) id) h
      exact ⟨td', ac', r1, r2, fun z hz => r3 z (List.mem_cons_of_mem _ hz), r4⟩
theorem clo_s {Q : Nat → Prop} (hc : PCl Q) {wg : Nat} {gens : List E5} {k : List Nat → Bool} (hg : ∀ e ∈ gens, e ∈ rtL ∧ Q e.1) : ∀ (n : Nat) (td ac : List Nat), (∀ y ∈ td, Q y) → (∀ y ∈ ac, Q y) → (∀ y, Q y → y ∈ ac ∨ wg ≤ y) → clo wg gens k n td ac = true → ∃ H, (∀ y ∈ H, Q y) ∧ (∀ y ∈ ac, y ∈ H) ∧ k H = true
  | 0, _, _, _, _, _, h => Bool.noConfusion h
  | n + 1, [], ac, _, h2, _, h => ⟨ac, h2, fun _ q => q, by rw [clo_n] at h; exact h⟩
  | n + 1, x :: td, ac, h1, h2, h3, h => by
    rw [clo_c] at h
    obtain ⟨td', ac', r1, r2, r3, r4⟩ := stp_s hc (h1 x List.mem_cons_self) gens td ac hg (fun y hy => h1 y (List.mem_cons_of_mem _ hy)) h2 h3 h
    obtain ⟨H, s1, s2, s3⟩ := clo_s hc hg n td' ac' r1 r2 (fun y hy => (h3 y hy).imp (r3 y) id) r4
    exact ⟨H, s1, fun y hy => s2 y (r3 y hy), s3⟩
def Fnl (Q : Nat → Prop) : Prop := ∃ G, (∀ y, Q y ↔ y ∈ G) ∧ okc G = true
theorem srch_s {Q : Nat → Prop} (hc : PCl Q) : ∀ (n : Nat) (G : List Nat) (gens rest : List E5), (∀ e ∈ gens, e ∈ rtL ∧ Q e.1) → (∀ e ∈ rest, e ∈ rtL) → rest.Pairwise (fun a b => a.1 < b.1) → (∀ y ∈ G, Q y) → (∀ y, Q y → y ∈ G ∨ ∃ e ∈ rest, e.1 = y) → srch n G gens rest = true → Fnl Q
  | 0, _, _, _, _, _, _, _, _, h => Bool.noConfusion h
  | n + 1, G, gens, [], _, _, _, h4, h5, h => ⟨G, fun y => ⟨fun q => (h5 y q).elim id (fun ⟨e, he, _⟩ => absurd he List.not_mem_nil), h4 y⟩, by rw [srch_n] at h; exact h⟩
  | n + 1, G, gens, g :: t, h1, h2, h3, h4, h5, h => by
    rw [srch_c] at h
    have h2' : ∀ e ∈ t, e ∈ rtL := fun e he => h2 e (List.mem_cons_of_mem _ he)
    have h3' := (List.pairwise_cons.mp h3).2
    have up := (List.pairwise_cons.mp h3).1
    by_cases m : g.1 ∈ G
    · rw [elm_i.mpr m, cond_true] at h
      exact srch_s hc n G gens t h1 h2' h3' h4 (fun y hy => (h5 y hy).elim Or.inl (fun ⟨e, he, ee⟩ => (List.mem_cons.mp he).elim (fun q => Or.inl (by rw [← ee, q]; exact m)) (fun q => Or.inr ⟨e, q, ee⟩))) h
    · have e : elm g.1 G = false := by
        cases q : elm g.1 G with
        | false => rfl
        | true => exact absurd (elm_i.mp q) m
      rw [e, cond_false, Bool.and_eq_true] at h
      by_cases qg : Q g.1
      · have hg : ∀ e ∈ g :: gens, e ∈ rtL ∧ Q e.1 := fun e he => (List.mem_cons.mp he).elim (fun q => by rw [q]; exact ⟨h2 g List.mem_cons_self, qg⟩) (h1 e)
        have hm : ∀ y ∈ g.1 :: G, Q y := fun y hy => (List.mem_cons.mp hy).elim (fun q => by rw [q]; exact qg) (h4 y)
        obtain ⟨H, s1, s2, s3⟩ := clo_s hc hg 200 (g.1 :: G) (g.1 :: G) hm hm (fun y hy => (h5 y hy).elim (fun q => Or.inl (List.mem_cons_of_mem _ q)) (fun ⟨e, he, ee⟩ => Or.inr ((List.mem_cons.mp he).elim (fun q => by rw [← ee, q]; exact Nat.le_refl _) (fun q => by rw [← ee]; exact Nat.le_of_lt (up e q))))) h.1
        exact srch_s hc n H (g :: gens) t hg h2' h3' s1 (fun y hy => (h5 y hy).elim (fun q => Or.inl (s2 y (List.mem_cons_of_mem _ q))) (fun ⟨e, he, ee⟩ => (List.mem_cons.mp he).elim (fun q => Or.inl (s2 y (by rw [← ee, q]; exact List.mem_cons_self))) (fun q => Or.inr ⟨e, q, ee⟩))) s3
      · exact srch_s hc n G gens t h1 h2' h3' h4 (fun y hy => (h5 y hy).elim Or.inl (fun ⟨e, he, ee⟩ => (List.mem_cons.mp he).elim (fun q => absurd (by rw [← q, ee]; exact hy) qg) (fun q => Or.inr ⟨e, q, ee⟩))) h.2
theorem tops_s {Q : Nat → Prop} (hc : PCl Q) (hI : Q 567417826971714) : ∀ (l r : List E5), (∀ e ∈ l ++ r, e ∈ rtL) → (l ++ r).Pairwise (fun a b => a.1 < b.1) → (∀ y, Q y → y = 567417826971714 ∨ ∃ e ∈ l ++ r, e.1 = y) → tops l r = true → Fnl Q ∨ ∀ y, Q y → y = 567417826971714 ∨ ∃ e ∈ r, e.1 = y
  | [], r, _, _, h5, _ => Or.inr h5
  | g :: l, r, h2, h3, h5, h => by
    rw [tops, Bool.and_eq_true] at h
    have h2' : ∀ e ∈ l ++ r, e ∈ rtL := fun e he => h2 e (List.mem_cons_of_mem _ he)
    have h3' := (List.pairwise_cons.mp h3).2
    have up := (List.pairwise_cons.mp h3).1
    by_cases qg : Q g.1 ∧ g.1 ≠ 567417826971714
    · refine Or.inl ?_
      have hb := h.1
      unfold brn at hb
      have e : elm g.1 [567417826971714] = false := by
        cases q : elm g.1 [567417826971714] with
        | false => rfl
        | true => exact absurd (List.mem_singleton.mp (elm_i.mp q)) qg.2
      rw [e, Bool.false_or] at hb
      have hg : ∀ e ∈ [g], e ∈ rtL ∧ Q e.1 := fun e he => by rw [List.mem_singleton.mp he]; exact ⟨h2 g List.mem_cons_self, qg.1⟩
      have hm : ∀ y ∈ [g.1, 567417826971714], Q y := fun y hy => (List.mem_cons.mp hy).elim (fun q => by rw [q]; exact qg.1) (fun q => by rw [List.mem_singleton.mp q]; exact hI)
      have wi : 567417826971714 ∈ [g.1, 567417826971714] := List.mem_cons_of_mem _ List.mem_cons_self
      obtain ⟨H, s1, s2, s3⟩ := clo_s hc hg 200 _ _ hm hm (fun y hy => (h5 y hy).elim (fun q => Or.inl (by rw [q]; exact wi)) (fun ⟨e, he, ee⟩ => Or.inr ((List.mem_cons.mp he).elim (fun q => by rw [← ee, q]; exact Nat.le_refl _) (fun q => by rw [← ee]; exact Nat.le_of_lt (up e q))))) hb
      exact srch_s hc 500 H [g] (l ++ r) hg h2' h3' s1 (fun y hy => (h5 y hy).elim (fun q => Or.inl (s2 y (by rw [q]; exact wi))) (fun ⟨e, he, ee⟩ => (List.mem_cons.mp he).elim (fun q => Or.inl (s2 y (by rw [← ee, q]; exact List.mem_cons_self))) (fun q => Or.inr ⟨e, q, ee⟩))) s3
    · exact tops_s hc hI l r h2' h3' (fun y hy => (h5 y hy).elim Or.inl (fun ⟨e, he, ee⟩ => (List.mem_cons.mp he).elim (fun q => by
        by_cases w : y = 567417826971714
        · exact Or.inl w
        · exact absurd ⟨by rw [← q, ee]; exact hy, by rw [← q, ee]; exact w⟩ qg) (fun q => Or.inr ⟨e, q, ee⟩))) h.2
def asc : Nat → List E5 → Bool
  | _, [] => true
  | a, e :: t => and (Nat.blt a e.1) (asc e.1 t)
theorem asc_p : ∀ (a : Nat) (l : List E5), asc a l = true → l.Pairwise (fun a b => a.1 < b.1) ∧ ∀ e ∈ l, a < e.1
  | _, [], _ => ⟨List.Pairwise.nil, fun e he => absurd he List.not_mem_nil⟩
  | a, e :: t, h => by
    rw [asc, Bool.and_eq_true] at h
    have lt : a < e.1 := Nat.ble_eq.mp h.1
    obtain ⟨p, q⟩ := asc_p e.1 t h.2
    exact ⟨List.pairwise_cons.mpr ⟨q, p⟩, fun x hx => (List.mem_cons.mp hx).elim (fun w => by rw [w]; exact lt) (fun w => Nat.lt_trans lt (q x w))⟩
set_option maxRecDepth 100000 in
theorem rt_asc : asc 0 rtL = true := by decide +kernel
set_option maxRecDepth 100000 in
theorem okc_I : okc [567417826971714] = true := by decide +kernel
theorem all_s {Q : Nat → Prop} (hc : PCl Q) (hI : Q 567417826971714) (hR : ∀ y, Q y → ∃ e ∈ rtL, e.1 = y) : Fnl Q := by
  have so := (asc_p 0 rtL rt_asc).1
  have go : ∀ (pre l r : List E5), rtL = pre ++ (l ++ r) → tops l r = true → (Fnl Q ∨ ∀ y, Q y → y = 567417826971714 ∨ ∃ e ∈ l ++ r, e.1 = y) → Fnl Q ∨ ∀ y, Q y → y = 567417826971714 ∨ ∃ e ∈ r, e.1 = y := fun pre l r e h q => q.elim Or.inl (fun q => by
    have so' := so
    rw [e] at so'
    exact tops_s hc hI l r (fun x hx => by rw [e]; exact List.mem_append_right _ hx) (List.pairwise_append.mp so').2.1 q h)
  have s0 : Fnl Q ∨ ∀ y, Q y → y = 567417826971714 ∨ ∃ e ∈ rtL, e.1 = y := Or.inr (fun y hy => Or.inr (hR y hy))
  have s1 := go [] rt0 ((rt1 ++ (rt2 ++ (rt3 ++ (rt4 ++ (rt5 ++ (rt6 ++ (rt7 ++ (rt8 ++ (rt9 ++ (rt10 ++ (rt11 ++ (rt12 ++ (rt13 ++ (rt14 ++ rt15))))))))))))))) (by unfold rtL; simp only [List.append_assoc, List.nil_append]) top0 s0
  have s2 := go (rt0) rt1 ((rt2 ++ (rt3 ++ (rt4 ++ (rt5 ++ (rt6 ++ (rt7 ++ (rt8 ++ (rt9 ++ (rt10 ++ (rt11 ++ (rt12 ++ (rt13 ++ (rt14 ++ rt15)))))))))))))) (by unfold rtL; simp only [List.append_assoc, List.nil_append]) top1 s1
  have s3 := go (rt0 ++ rt1) rt2 ((rt3 ++ (rt4 ++ (rt5 ++ (rt6 ++ (rt7 ++ (rt8 ++ (rt9 ++ (rt10 ++ (rt11 ++ (rt12 ++ (rt13 ++ (rt14 ++ rt15))))))))))))) (by unfold rtL; simp only [List.append_assoc, List.nil_append]) top2 s2
  have s4 := go (rt0 ++ rt1 ++ rt2) rt3 ((rt4 ++ (rt5 ++ (rt6 ++ (rt7 ++ (rt8 ++ (rt9 ++ (rt10 ++ (rt11 ++ (rt12 ++ (rt13 ++ (rt14 ++ rt15)))))))))))) (by unfold rtL; simp only [List.append_assoc, List.nil_append]) top3 s3
  have s5 := go (rt0 ++ rt1 ++ rt2 ++ rt3) rt4 ((rt5 ++ (rt6 ++ (rt7 ++ (rt8 ++ (rt9 ++ (rt10 ++ (rt11 ++ (rt12 ++ (rt13 ++ (rt14 ++ rt15))))))))))) (by unfold rtL; simp only [List.append_assoc, List.nil_append]) top4 s4
  have s6 := go (rt0 ++ rt1 ++ rt2 ++ rt3 ++ rt4) rt5 ((rt6 ++ (rt7 ++ (rt8 ++ (rt9 ++ (rt10 ++ (rt11 ++ (rt12 ++ (rt13 ++ (rt14 ++ rt15)))))))))) (by unfold rtL; simp only [List.append_assoc, List.nil_append]) top5 s5
  have s7 := go (rt0 ++ rt1 ++ rt2 ++ rt3 ++ rt4 ++ rt5) rt6 ((rt7 ++ (rt8 ++ (rt9 ++ (rt10 ++ (rt11 ++ (rt12 ++ (rt13 ++ (rt14 ++ rt15))))))))) (by unfold rtL; simp only [List.append_assoc, List.nil_append]) top6 s6
  have s8 := go (rt0 ++ rt1 ++ rt2 ++ rt3 ++ rt4 ++ rt5 ++ rt6) rt7 ((rt8 ++ (rt9 ++ (rt10 ++ (rt11 ++ (rt12 ++ (rt13 ++ (rt14 ++ rt15)))))))) (by unfold rtL; simp only [List.append_assoc, List.nil_append]) top7 s7
  have s9 := go (rt0 ++ rt1 ++ rt2 ++ rt3 ++ rt4 ++ rt5 ++ rt6 ++ rt7) rt8 ((rt9 ++ (rt10 ++ (rt11 ++ (rt12 ++ (rt13 ++ (rt14 ++ rt15))))))) (by unfold rtL; simp only [List.append_assoc, List.nil_append]) top8 s8
  have s10 := go (rt0 ++ rt1 ++ rt2 ++ rt3 ++ rt4 ++ rt5 ++ rt6 ++ rt7 ++ rt8) rt9 ((rt10 ++ (rt11 ++ (rt12 ++ (rt13 ++ (rt14 ++ rt15)))))) (by unfold rtL; simp only [List.append_assoc, List.nil_append]) top9 s9
  have s11 := go (rt0 ++ rt1 ++ rt2 ++ rt3 ++ rt4 ++ rt5 ++ rt6 ++ rt7 ++ rt8 ++ rt9) rt10 ((rt11 ++ (rt12 ++ (rt13 ++ (rt14 ++ rt15))))) (by unfold rtL; simp only [List.append_assoc, List.nil_append]) top10 s10
  have s12 := go (rt0 ++ rt1 ++ rt2 ++ rt3 ++ rt4 ++ rt5 ++ rt6 ++ rt7 ++ rt8 ++ rt9 ++ rt10) rt11 ((rt12 ++ (rt13 ++ (rt14 ++ rt15)))) (by unfold rtL; simp only [List.append_assoc, List.nil_append]) top11 s11
  have s13 := go (rt0 ++ rt1 ++ rt2 ++ rt3 ++ rt4 ++ rt5 ++ rt6 ++ rt7 ++ rt8 ++ rt9 ++ rt10 ++ rt11) rt12 ((rt13 ++ (rt14 ++ rt15))) (by unfold rtL; simp only [List.append_assoc, List.nil_append]) top12 s12
  have s14 := go (rt0 ++ rt1 ++ rt2 ++ rt3 ++ rt4 ++ rt5 ++ rt6 ++ rt7 ++ rt8 ++ rt9 ++ rt10 ++ rt11 ++ rt12) rt13 ((rt14 ++ rt15)) (by unfold rtL; simp only [List.append_assoc, List.nil_append]) top13 s13
  have s15 := go (rt0 ++ rt1 ++ rt2 ++ rt3 ++ rt4 ++ rt5 ++ rt6 ++ rt7 ++ rt8 ++ rt9 ++ rt10 ++ rt11 ++ rt12 ++ rt13) rt14 (rt15) (by unfold rtL; simp only [List.append_assoc, List.nil_append]) top14 s14
  have s16 := go (rt0 ++ rt1 ++ rt2 ++ rt3 ++ rt4 ++ rt5 ++ rt6 ++ rt7 ++ rt8 ++ rt9 ++ rt10 ++ rt11 ++ rt12 ++ rt13 ++ rt14) rt15 [] (by unfold rtL; simp only [List.append_assoc, List.append_nil]) top15 (by rw [List.append_nil]; exact s15)
  rcases s16 with q | q
  · exact q
  · exact ⟨[567417826971714], fun y => ⟨fun w => by rw [List.mem_singleton]; exact (q y w).elim id (fun ⟨e, he, _⟩ => absurd he List.not_mem_nil), fun w => by rw [List.mem_singleton.mp w]; exact hI⟩, okc_I⟩
