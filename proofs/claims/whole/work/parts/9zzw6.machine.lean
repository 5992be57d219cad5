/-! the machine that walks the tree of cheap rounds -/
/-- stage, sign, rounds so far, three vectors, rows, the sums of the last states -/
abbrev Cx : Type := Nat × Bool × Nat × Vc × Vc × Vc × List Rw × List Rw
/-- an instruction: what, vectors, rows, certificates -/
abbrev Tk : Type := Nat × List Vc × List Rw × List Ct
def gJ1 (g : Bool) : Int := if g then 1 else -1
def tR (p q r : Vc) : Rw := rad (qR p) (rad (qR q) (qR r))
/-- a + b + c at the root -/
def tR0 : Rw := (1, 1, 1, 0, 0, 0, 0)
def cRw (K : Nat) (T : Rw) : Rw := rad (rk (10 * K + 9)) (rsu T tR0)
def w4 (H : List Rw) (T : Rw) : Rw := match H with
  | _ :: _ :: _ :: h :: _ => rad (rsu h T) (rk (-1))
  | _ => rk 0
def pm (v w : Vc) : Bool := vbq v w || vbq v (vsm (-1) w)
def dR (g : Bool) (q r : Vc) : Rw := rsm (gJ1 g) (bR q r)
def sgW (g : Bool) (q r : Vc) : Rw := if g then rad (bR q r) (rk (-1)) else rsm (-1) (bR q r)
def stInf (c : Ct) : Cx → Option (List Cx) := fun (_, _, _, _, _, _, P, _) => if imp P c (rk (-1)) then some [] else none
def stSp (r1 r2 : Rw) : Cx → Option (List Cx) := fun (st, g, K, p, q, r, P, H) => if rbq r2 (rng r1) then some [(st, g, K, p, q, r, r1 :: P, H), (st, g, K, p, q, r, r2 :: P, H)] else none
/-- signs -/
def stSg (g : Bool) (p' q' r' : Vc) (k1 k2 k3 : Ct) : Cx → Option (List Cx) := fun (st, _, K, p, q, r, P, H) =>
  if Nat.beq st 0 && (Nat.ble K 1000 && (pm p' p && (pm q' q && (pm r' r && (imp P k1 (sgW g q' r') && (imp P k2 (sgW g p' r') && imp P k3 (sgW g p' q'))))))) then some [(1, g, K, p', q', r', P, H)] else none
/-- the swap of the first two -/
def stS1 (r0 r1 r2 r4 : Rw) : Cx → Option (List Cx) := fun (st, g, K, p, q, r, P, H) =>
  if Nat.beq st 1 && (rbq r0 (rsu (qR q) (qR p)) && (rbq r1 (rad (rsu (qR p) (qR q)) (rk (-1))) && (rbq r2 (rsu (qR p) (qR q)) && rbq r4 (rad (rsu (dR g q r) (dR g p r)) (rk (-1)))))) then
    some [(2, g, K, p, q, r, r0 :: P, H), (2, g, K, q, p, r, r1 :: P, H), (2, g, K, q, p, r, r4 :: r0 :: r2 :: P, H)] else none
/-- the swap of the last two -/
def stS2 (r0 r1 r2 r4 T c w : Rw) : Cx → Option (List Cx) := fun (st, g, K, p, q, r, P, H) =>
  if Nat.beq st 2 && (rbq r0 (rsu (qR r) (qR q)) && (rbq r1 (rad (rsu (qR q) (qR r)) (rk (-1))) && (rbq r2 (rsu (qR q) (qR r)) && (rbq r4 (rad (rsu (dR g p r) (dR g p q)) (rk (-1))) && (rbq T (tR p r q) && (rbq c (cRw (K + 1) T) && rbq w (w4 H T))))))) then
    some [(3, g, K, p, q, r, r0 :: P, H), (0, g, K + 1, p, r, q, w :: c :: r1 :: P, T :: H), (0, g, K + 1, p, r, q, w :: c :: r4 :: r0 :: r2 :: P, T :: H)] else none
/-- C by B -/
def stX (r' : Vc) (r0 r1 r2 r4 T c w : Rw) : Cx → Option (List Cx) := fun (st, g, K, p, q, r, P, H) =>
  if Nat.beq st 3 && (vbq r' (vadd r (vsm (-gJ1 g) q)) && (rbq r0 (rsu (qR q) (rsm 2 (dR g q r))) && (rbq r1 (rad (rsu (rsm 2 (dR g q r)) (qR q)) (rk (-1))) && (rbq r2 (rsu (rsm 2 (dR g q r)) (qR q)) && (rbq r4 (if g then rad (rsu (bR p q) (rsm 2 (bR p r))) (rk (-1)) else rad (rsm (-1) (bR p q)) (rk (-1))) && (rbq T (tR p q r') && (rbq c (cRw (K + 1) T) && rbq w (w4 H T)))))))) then
    some [(0, g, K + 1, p, q, r', w :: c :: r1 :: P, T :: H), (0, g, K + 1, p, q, r', w :: c :: r4 :: r0 :: r2 :: P, T :: H), (4, g, K, p, q, r, r0 :: P, H)] else none
/-- C by A -/
def stY (r' : Vc) (r0 r1 r2 r4 T c w : Rw) : Cx → Option (List Cx) := fun (st, g, K, p, q, r, P, H) =>
  if Nat.beq st 4 && (vbq r' (vadd r (vsm (-gJ1 g) p)) && (rbq r0 (rsu (qR p) (rsm 2 (dR g p r))) && (rbq r1 (rad (rsu (rsm 2 (dR g p r)) (qR p)) (rk (-1))) && (rbq r2 (rsu (rsm 2 (dR g p r)) (qR p)) && (rbq r4 (if g then rad (rsu (bR p q) (rsm 2 (bR q r))) (rk (-1)) else rad (rsm (-1) (bR p q)) (rk (-1))) && (rbq T (tR p q r') && (rbq c (cRw (K + 1) T) && rbq w (w4 H T)))))))) then
    some [(0, g, K + 1, p, q, r', w :: c :: r1 :: P, T :: H), (0, g, K + 1, p, q, r', w :: c :: r4 :: r0 :: r2 :: P, T :: H), (5, g, K, p, q, r, r0 :: P, H)] else none
/-- the sums of the last states, the newest j rounds before v -/
def Hst (t : S6) (v : S6) : Nat → List Rw → Prop
  | _, [] => True
  | j, h :: H => (∃ s, OKs s ∧ tT s = rwv t h ∧ Rn j s v) ∧ Hst t v (j + 1) H
theorem Rn.snoc : ∀ {k : Nat} {t v w : S6}, Rn k t v → stR v w True → Rn (k + 1) t w
  | 0, t, v, w, h, g => by
    have h : t = v := h
    subst h
    exact ⟨w, g, rfl⟩
  | k + 1, t, v, w, ⟨u, g0, h⟩, g => ⟨u, g0, Rn.snoc h g⟩
theorem Hst.nx {t v w : S6} (g : stR v w True) : ∀ {j : Nat} {H : List Rw}, Hst t v j H → Hst t w (j + 1) H
  | _, [], _ => trivial
  | _, _ :: _, h => ⟨by obtain ⟨s, a, b, c⟩ := h.1; exact ⟨s, a, b, c.snoc g⟩, Hst.nx g h.2⟩
theorem Hst.w4r {t v : S6} {H : List Rw} {T : Rw} (h : Hst t v 1 H) (e : tT v = rwv t T) : 0 ≤ rwv t (w4 H T) := by
  unfold w4
  split
  · obtain ⟨_, _, _, ⟨s, ho, es, r⟩, _⟩ := h
    have := (Rn.low 4 s v ho r).1
    rw [rwv_ad, rwv_su, rwv_k]
    omega
  · rw [rwv_k]; omega
/-- the whole: from t, whose sorted and signed form is the root's; far from the end, every beginning cheap -/
def Env (t ρ u : S6) : Prop := OKs (db ρ) ∧ OKs t ∧ tT t = tT (db ρ) ∧ 120000 < tT t - tT u ∧ ∀ k v, 1 ≤ k → Rn k t v → tT t - tT v < 10 * (k : Int) + 10
def Fz0 (t ρ u : S6) (K : Nat) (p q r : Vc) (H : List Rw) : Prop := ∃ s n w, Rn K t s ∧ Red n s u ∧ sgR s w ∧ sgR (onB (db ρ) p q r) w ∧ Hst ρ s 0 H
def Fz1 (t ρ u : S6) (g : Bool) (K : Nat) (p q r : Vc) (H : List Rw) : Prop := OKs (onB (db ρ) p q r) ∧ ∃ s n v, Rn K t s ∧ stR s v True ∧ Red n v u ∧ sgR s (onB (db ρ) p q r) ∧ Nrm g (onB (db ρ) p q r) ∧ Hst ρ s 0 H
def Fz2 (t ρ u : S6) (g : Bool) (K : Nat) (p q r : Vc) (H : List Rw) : Prop := OKs (onB (db ρ) p q r) ∧ ∃ n v, Rn (K + 1) t v ∧ Red n v u ∧ Nrm g (onB (db ρ) p q r) ∧ ¬ c1 (onB (db ρ) p q r) ∧ ((c2 (onB (db ρ) p q r) ∧ sgR v (s2F (onB (db ρ) p q r)) ∧ tT v = tT (onB (db ρ) p q r)) ∨ (¬ c2 (onB (db ρ) p q r) ∧ lsR (onB (db ρ) p q r) v True)) ∧ (tT (onB (db ρ) p q r) ≤ tT t ∧ tT t - tT (onB (db ρ) p q r) ≤ 10 * (K : Int) + 10) ∧ Hst ρ v 1 H
def Fz3 (t ρ u : S6) (g : Bool) (K : Nat) (p q r : Vc) (H : List Rw) (X : Prop) : Prop := OKs (onB (db ρ) p q r) ∧ ∃ n v, Rn (K + 1) t v ∧ Red n v u ∧ Nrm g (onB (db ρ) p q r) ∧ ¬ c1 (onB (db ρ) p q r) ∧ ¬ c2 (onB (db ρ) p q r) ∧ lsR (onB (db ρ) p q r) v True ∧ (tT (onB (db ρ) p q r) ≤ tT t ∧ tT t - tT (onB (db ρ) p q r) ≤ 10 * (K : Int) + 10) ∧ X ∧ Hst ρ v 1 H
/-- what a context says -/
def Stg (t ρ u : S6) (st : Nat) (g : Bool) (K : Nat) (p q r : Vc) (H : List Rw) : Prop := match st with
  | 0 => Fz0 t ρ u K p q r H
  | 1 => Fz1 t ρ u g K p q r H
  | 2 => Fz2 t ρ u g K p q r H
  | 3 => Fz3 t ρ u g K p q r H True
  | 4 => Fz3 t ρ u g K p q r H (¬ cx (onB (db ρ) p q r))
  | 5 => Fz3 t ρ u g K p q r H (¬ cx (onB (db ρ) p q r) ∧ ¬ cy (onB (db ρ) p q r))
  | 6 => Fz3 t ρ u g K p q r H (¬ cx (onB (db ρ) p q r) ∧ ¬ cy (onB (db ρ) p q r) ∧ ¬ cz (onB (db ρ) p q r))
  | _ => True
def Fct (t ρ u : S6) : Cx → Prop := fun (st, g, K, p, q, r, P, H) => Hol ρ P ∧ Stg t ρ u st g K p q r H
/-- all contexts of a list are refuted -/
def Rfs (t ρ u : S6) : List Cx → Prop
  | [] => True
  | c :: l => ¬ Fct t ρ u c ∧ Rfs t ρ u l
theorem if_some {c : Bool} {a l : List Cx} (h : (if c = true then some a else none) = some l) : c = true ∧ a = l := by
  cases c
  · exact absurd h (by intro w; cases w)
  · injection h with h
    exact ⟨rfl, h⟩
theorem sdInf {t ρ u : S6} (E : Env t ρ u) {k : Ct} {c : Cx} {l : List Cx} (h : stInf k c = some l) : ¬ Fct t ρ u c := by
  obtain ⟨st, g, K, p, q, r, P, H⟩ := c
  obtain ⟨a, b, c, d, e, f⟩ := ρ
  rintro ⟨hl, fc⟩
  have := imp_ge E.1 hl (if_some h).1
  rw [rwv_k] at this
  omega
theorem sdSp {t ρ u : S6} {r1 r2 : Rw} {c : Cx} {l : List Cx} (h : stSp r1 r2 c = some l) (R : Rfs t ρ u l) : ¬ Fct t ρ u c := by
  obtain ⟨st, g, K, p, q, r, P, H⟩ := c
  rintro ⟨hl, fc⟩
  obtain ⟨i, e⟩ := if_some h
  subst e
  have e2 := rbq_eq i
  by_cases w : 0 ≤ rwv ρ r1
  · exact R.1 ⟨⟨w, hl⟩, fc⟩
  · exact R.2.1 ⟨⟨by rw [e2, rwv_ng]; omega, hl⟩, fc⟩
