/-! the static cells by definition (printed: wip/gen/genstatic2.py) -/
def ssR2 : List (Nat × List (Nat × Nat)) := [(5, [(0, 6), (1, 13), (2, 14), (4, 15), (5, 29), (7, 30), (8, 33), (9, 36), (10, 39), (11, 41), (12, 42), (13, 43), (15, 44), (17, 45), (18, 50)]), (6, [(0, 7), (1, 8), (6, 9), (7, 12)]), (9, [(0, 10), (1, 11)]), (15, [(0, 16), (1, 18), (2, 19), (4, 20), (5, 23), (6, 26)]), (16, [(0, 17)]), (20, [(0, 21), (1, 22)]), (23, [(0, 24), (1, 25)]), (26, [(0, 27), (1, 28)]), (30, [(0, 31), (1, 32)]), (33, [(0, 34), (1, 35)]), (36, [(0, 37), (1, 38)]), (39, [(0, 40)]), (45, [(0, 46), (1, 47), (2, 48), (3, 49)]), (50, [(0, 51), (1, 52), (2, 53)]), (54, [(0, 55), (2, 56), (3, 57), (4, 58), (5, 59), (6, 60), (7, 61), (8, 62), (13, 63), (15, 64), (16, 65), (18, 66), (20, 67), (21, 68), (22, 69), (23, 70), (24, 71), (25, 72), (26, 73), (27, 74), (28, 75), (29, 76), (30, 77), (31, 78), (33, 79), (34, 80), (38, 81), (39, 82), (40, 83), (41, 84), (42, 85), (43, 86), (44, 87), (46, 88), (47, 89), (48, 90), (49, 91), (53, 92), (54, 93), (55, 94), (59, 95), (60, 96), (61, 97), (66, 98)])]
def sK (k : Nat → Nat) : Nat → Nat := fun a => (ssK.lookup a).getD (k a)
def sL (k : Nat → Nat) : Nat → Nat := fun a => (ssL.lookup a).getD (k a)
def sR (m : Nat → Nat → Nat) : Nat → Nat → Nat := fun a j => match ssR2.lookup a with
  | none => m a j
  | some L => (L.lookup j).getD (m a j)
def sil (h : MH) (f : Nat → Nat → Int32) (l : Nat → Nat → Int64) : MH := (hn h, sK (kd h), sL (ln h), f, l, sR (mr h))
theorem lookup_mem {β : Type} {a : Nat} {b : β} : ∀ {L : List (Nat × β)}, L.lookup a = some b → (a, b) ∈ L
  | [], h => by cases h
  | (c, d) :: L, h => by
    rw [List.lookup_cons] at h
    split at h
    · rename_i e
      have e2 := eq_of_beq e
      cases h
      subst e2
      exact List.mem_cons_self
    · exact List.mem_cons_of_mem _ (lookup_mem h)
theorem ssR2_ok : ∀ p ∈ ssR2, ∀ q ∈ p.2, (p.1, q.1, q.2) ∈ ssR := by decide
theorem sK_eq {h : MH} (H : SS h) : sK (kd h) = kd h := by
  funext a
  unfold sK
  cases e : ssK.lookup a with
  | none => rfl
  | some v => exact (H.2.1 _ (lookup_mem e)).symm
theorem sL_eq {h : MH} (H : SS h) : sL (ln h) = ln h := by
  funext a
  unfold sL
  cases e : ssL.lookup a with
  | none => rfl
  | some v => exact (H.2.2.1 _ (lookup_mem e)).symm
theorem sR_eq {h : MH} (H : SS h) : sR (mr h) = mr h := by
  funext a j
  unfold sR
  cases e : ssR2.lookup a with
  | none => rfl
  | some L =>
    show (L.lookup j).getD (mr h a j) = _
    cases e2 : L.lookup j with
    | none => rfl
    | some v => exact (H.2.2.2 _ (ssR2_ok _ (lookup_mem e) _ (lookup_mem e2))).symm
theorem SS.sil {h : MH} (H : SS h) : h = sil h (mi h) (ml h) := by
  show h = (hn h, sK (kd h), sL (ln h), mi h, ml h, sR (mr h))
  rw [sK_eq H, sL_eq H, sR_eq H]
  rfl
theorem ssK_lt : ∀ p ∈ ssK, p.1 < 99 := by decide
theorem ssL_lt : ∀ p ∈ ssL, p.1 < 99 := by decide
theorem ssR2_lt : ∀ p ∈ ssR2, p.1 < 99 := by decide
theorem kd_dyn {h : MH} {f : Nat → Nat → Int32} {l : Nat → Nat → Int64} {a : Nat} (ha : 99 ≤ a) : kd (sil h f l) a = kd h a := by
  show sK (kd h) a = _
  unfold sK
  cases e : ssK.lookup a with
  | none => rfl
  | some v => have := ssK_lt _ (lookup_mem e); omega
theorem ln_dyn {h : MH} {f : Nat → Nat → Int32} {l : Nat → Nat → Int64} {a : Nat} (ha : 99 ≤ a) : ln (sil h f l) a = ln h a := by
  show sL (ln h) a = _
  unfold sL
  cases e : ssL.lookup a with
  | none => rfl
  | some v => have := ssL_lt _ (lookup_mem e); omega
theorem mr_dyn {h : MH} {f : Nat → Nat → Int32} {l : Nat → Nat → Int64} {a j : Nat} (ha : 99 ≤ a) : mr (sil h f l) a j = mr h a j := by
  show sR (mr h) a j = _
  unfold sR
  cases e : ssR2.lookup a with
  | none => rfl
  | some v => have := ssR2_lt _ (lookup_mem e); omega
theorem mi_sil {h : MH} {f : Nat → Nat → Int32} {l : Nat → Nat → Int64} : mi (sil h f l) = f := rfl
theorem ml_sil {h : MH} {f : Nat → Nat → Int32} {l : Nat → Nat → Int64} : ml (sil h f l) = l := rfl
theorem hn_sil {h : MH} {f : Nat → Nat → Int32} {l : Nat → Nat → Int64} : hn (sil h f l) = hn h := rfl
theorem wi_sil {h : MH} {f : Nat → Nat → Int32} {l : Nat → Nat → Int64} {a i : Nat} {x : Int32} : wi (sil h f l) a i x = sil h (up2 f a i x) l := rfl
theorem wl_sil {h : MH} {f : Nat → Nat → Int32} {l : Nat → Nat → Int64} {a i : Nat} {x : Int64} : wl (sil h f l) a i x = sil h f (up2 l a i x) := rfl
theorem si_sil {h : MH} {f g : Nat → Nat → Int32} {l : Nat → Nat → Int64} : si (sil h f l) g = sil h g l := rfl
theorem K1 {h : MH} {f : Nat → Nat → Int32} {l : Nat → Nat → Int64} : kd (sil h f l) 1 = 19 := rfl
theorem K2 {h : MH} {f : Nat → Nat → Int32} {l : Nat → Nat → Int64} : kd (sil h f l) 2 = 19 := rfl
theorem K3 {h : MH} {f : Nat → Nat → Int32} {l : Nat → Nat → Int64} : kd (sil h f l) 3 = 19 := rfl
theorem K4 {h : MH} {f : Nat → Nat → Int32} {l : Nat → Nat → Int64} : kd (sil h f l) 4 = 19 := rfl
theorem Kd5 {h : MH} {f : Nat → Nat → Int32} {l : Nat → Nat → Int64} : kd (sil h f l) 5 = 12 := rfl
theorem K6 {h : MH} {f : Nat → Nat → Int32} {l : Nat → Nat → Int64} : kd (sil h f l) 6 = 10 := rfl
theorem K7 {h : MH} {f : Nat → Nat → Int32} {l : Nat → Nat → Int64} : kd (sil h f l) 7 = 20 := rfl
theorem K8 {h : MH} {f : Nat → Nat → Int32} {l : Nat → Nat → Int64} : kd (sil h f l) 8 = 20 := rfl
theorem K9 {h : MH} {f : Nat → Nat → Int32} {l : Nat → Nat → Int64} : kd (sil h f l) 9 = 7 := rfl
theorem K10 {h : MH} {f : Nat → Nat → Int32} {l : Nat → Nat → Int64} : kd (sil h f l) 10 = 20 := rfl
theorem K11 {h : MH} {f : Nat → Nat → Int32} {l : Nat → Nat → Int64} : kd (sil h f l) 11 = 20 := rfl
theorem K12 {h : MH} {f : Nat → Nat → Int32} {l : Nat → Nat → Int64} : kd (sil h f l) 12 = 23 := rfl
theorem K13 {h : MH} {f : Nat → Nat → Int32} {l : Nat → Nat → Int64} : kd (sil h f l) 13 = 20 := rfl
theorem K14 {h : MH} {f : Nat → Nat → Int32} {l : Nat → Nat → Int64} : kd (sil h f l) 14 = 22 := rfl
theorem K15 {h : MH} {f : Nat → Nat → Int32} {l : Nat → Nat → Int64} : kd (sil h f l) 15 = 2 := rfl
theorem K16 {h : MH} {f : Nat → Nat → Int32} {l : Nat → Nat → Int64} : kd (sil h f l) 16 = 9 := rfl
theorem K17 {h : MH} {f : Nat → Nat → Int32} {l : Nat → Nat → Int64} : kd (sil h f l) 17 = 20 := rfl
theorem K18 {h : MH} {f : Nat → Nat → Int32} {l : Nat → Nat → Int64} : kd (sil h f l) 18 = 20 := rfl
theorem K19 {h : MH} {f : Nat → Nat → Int32} {l : Nat → Nat → Int64} : kd (sil h f l) 19 = 20 := rfl
theorem K20 {h : MH} {f : Nat → Nat → Int32} {l : Nat → Nat → Int64} : kd (sil h f l) 20 = 7 := rfl
theorem K21 {h : MH} {f : Nat → Nat → Int32} {l : Nat → Nat → Int64} : kd (sil h f l) 21 = 20 := rfl
theorem K22 {h : MH} {f : Nat → Nat → Int32} {l : Nat → Nat → Int64} : kd (sil h f l) 22 = 20 := rfl
theorem K23 {h : MH} {f : Nat → Nat → Int32} {l : Nat → Nat → Int64} : kd (sil h f l) 23 = 7 := rfl
theorem K24 {h : MH} {f : Nat → Nat → Int32} {l : Nat → Nat → Int64} : kd (sil h f l) 24 = 20 := rfl
theorem K25 {h : MH} {f : Nat → Nat → Int32} {l : Nat → Nat → Int64} : kd (sil h f l) 25 = 20 := rfl
theorem K26 {h : MH} {f : Nat → Nat → Int32} {l : Nat → Nat → Int64} : kd (sil h f l) 26 = 7 := rfl
theorem K27 {h : MH} {f : Nat → Nat → Int32} {l : Nat → Nat → Int64} : kd (sil h f l) 27 = 20 := rfl
theorem K28 {h : MH} {f : Nat → Nat → Int32} {l : Nat → Nat → Int64} : kd (sil h f l) 28 = 20 := rfl
theorem K29 {h : MH} {f : Nat → Nat → Int32} {l : Nat → Nat → Int64} : kd (sil h f l) 29 = 24 := rfl
theorem K30 {h : MH} {f : Nat → Nat → Int32} {l : Nat → Nat → Int64} : kd (sil h f l) 30 = 7 := rfl
theorem K31 {h : MH} {f : Nat → Nat → Int32} {l : Nat → Nat → Int64} : kd (sil h f l) 31 = 20 := rfl
theorem K32 {h : MH} {f : Nat → Nat → Int32} {l : Nat → Nat → Int64} : kd (sil h f l) 32 = 20 := rfl
theorem K33 {h : MH} {f : Nat → Nat → Int32} {l : Nat → Nat → Int64} : kd (sil h f l) 33 = 7 := rfl
theorem K34 {h : MH} {f : Nat → Nat → Int32} {l : Nat → Nat → Int64} : kd (sil h f l) 34 = 20 := rfl
theorem K35 {h : MH} {f : Nat → Nat → Int32} {l : Nat → Nat → Int64} : kd (sil h f l) 35 = 20 := rfl
theorem K36 {h : MH} {f : Nat → Nat → Int32} {l : Nat → Nat → Int64} : kd (sil h f l) 36 = 7 := rfl
theorem K37 {h : MH} {f : Nat → Nat → Int32} {l : Nat → Nat → Int64} : kd (sil h f l) 37 = 20 := rfl
theorem K38 {h : MH} {f : Nat → Nat → Int32} {l : Nat → Nat → Int64} : kd (sil h f l) 38 = 20 := rfl
theorem K39 {h : MH} {f : Nat → Nat → Int32} {l : Nat → Nat → Int64} : kd (sil h f l) 39 = 9 := rfl
theorem K40 {h : MH} {f : Nat → Nat → Int32} {l : Nat → Nat → Int64} : kd (sil h f l) 40 = 20 := rfl
theorem K41 {h : MH} {f : Nat → Nat → Int32} {l : Nat → Nat → Int64} : kd (sil h f l) 41 = 20 := rfl
theorem K42 {h : MH} {f : Nat → Nat → Int32} {l : Nat → Nat → Int64} : kd (sil h f l) 42 = 20 := rfl
theorem K43 {h : MH} {f : Nat → Nat → Int32} {l : Nat → Nat → Int64} : kd (sil h f l) 43 = 25 := rfl
theorem K44 {h : MH} {f : Nat → Nat → Int32} {l : Nat → Nat → Int64} : kd (sil h f l) 44 = 26 := rfl
theorem K45 {h : MH} {f : Nat → Nat → Int32} {l : Nat → Nat → Int64} : kd (sil h f l) 45 = 11 := rfl
theorem K46 {h : MH} {f : Nat → Nat → Int32} {l : Nat → Nat → Int64} : kd (sil h f l) 46 = 21 := rfl
theorem K47 {h : MH} {f : Nat → Nat → Int32} {l : Nat → Nat → Int64} : kd (sil h f l) 47 = 21 := rfl
theorem K48 {h : MH} {f : Nat → Nat → Int32} {l : Nat → Nat → Int64} : kd (sil h f l) 48 = 21 := rfl
theorem K49 {h : MH} {f : Nat → Nat → Int32} {l : Nat → Nat → Int64} : kd (sil h f l) 49 = 20 := rfl
theorem K50 {h : MH} {f : Nat → Nat → Int32} {l : Nat → Nat → Int64} : kd (sil h f l) 50 = 8 := rfl
theorem K51 {h : MH} {f : Nat → Nat → Int32} {l : Nat → Nat → Int64} : kd (sil h f l) 51 = 20 := rfl
theorem K52 {h : MH} {f : Nat → Nat → Int32} {l : Nat → Nat → Int64} : kd (sil h f l) 52 = 20 := rfl
theorem K53 {h : MH} {f : Nat → Nat → Int32} {l : Nat → Nat → Int64} : kd (sil h f l) 53 = 21 := rfl
theorem K54 {h : MH} {f : Nat → Nat → Int32} {l : Nat → Nat → Int64} : kd (sil h f l) 54 = 13 := rfl
theorem K55 {h : MH} {f : Nat → Nat → Int32} {l : Nat → Nat → Int64} : kd (sil h f l) 55 = 20 := rfl
theorem K56 {h : MH} {f : Nat → Nat → Int32} {l : Nat → Nat → Int64} : kd (sil h f l) 56 = 20 := rfl
theorem K57 {h : MH} {f : Nat → Nat → Int32} {l : Nat → Nat → Int64} : kd (sil h f l) 57 = 20 := rfl
theorem K58 {h : MH} {f : Nat → Nat → Int32} {l : Nat → Nat → Int64} : kd (sil h f l) 58 = 20 := rfl
theorem K59 {h : MH} {f : Nat → Nat → Int32} {l : Nat → Nat → Int64} : kd (sil h f l) 59 = 20 := rfl
theorem K60 {h : MH} {f : Nat → Nat → Int32} {l : Nat → Nat → Int64} : kd (sil h f l) 60 = 20 := rfl
theorem K61 {h : MH} {f : Nat → Nat → Int32} {l : Nat → Nat → Int64} : kd (sil h f l) 61 = 20 := rfl
theorem K62 {h : MH} {f : Nat → Nat → Int32} {l : Nat → Nat → Int64} : kd (sil h f l) 62 = 20 := rfl
theorem K63 {h : MH} {f : Nat → Nat → Int32} {l : Nat → Nat → Int64} : kd (sil h f l) 63 = 20 := rfl
theorem K64 {h : MH} {f : Nat → Nat → Int32} {l : Nat → Nat → Int64} : kd (sil h f l) 64 = 20 := rfl
theorem K65 {h : MH} {f : Nat → Nat → Int32} {l : Nat → Nat → Int64} : kd (sil h f l) 65 = 20 := rfl
theorem K66 {h : MH} {f : Nat → Nat → Int32} {l : Nat → Nat → Int64} : kd (sil h f l) 66 = 20 := rfl
theorem K67 {h : MH} {f : Nat → Nat → Int32} {l : Nat → Nat → Int64} : kd (sil h f l) 67 = 20 := rfl
theorem K68 {h : MH} {f : Nat → Nat → Int32} {l : Nat → Nat → Int64} : kd (sil h f l) 68 = 20 := rfl
theorem K69 {h : MH} {f : Nat → Nat → Int32} {l : Nat → Nat → Int64} : kd (sil h f l) 69 = 22 := rfl
theorem K70 {h : MH} {f : Nat → Nat → Int32} {l : Nat → Nat → Int64} : kd (sil h f l) 70 = 21 := rfl
theorem K71 {h : MH} {f : Nat → Nat → Int32} {l : Nat → Nat → Int64} : kd (sil h f l) 71 = 20 := rfl
theorem K72 {h : MH} {f : Nat → Nat → Int32} {l : Nat → Nat → Int64} : kd (sil h f l) 72 = 20 := rfl
theorem K73 {h : MH} {f : Nat → Nat → Int32} {l : Nat → Nat → Int64} : kd (sil h f l) 73 = 20 := rfl
theorem K74 {h : MH} {f : Nat → Nat → Int32} {l : Nat → Nat → Int64} : kd (sil h f l) 74 = 20 := rfl
theorem K75 {h : MH} {f : Nat → Nat → Int32} {l : Nat → Nat → Int64} : kd (sil h f l) 75 = 20 := rfl
theorem K76 {h : MH} {f : Nat → Nat → Int32} {l : Nat → Nat → Int64} : kd (sil h f l) 76 = 21 := rfl
theorem K77 {h : MH} {f : Nat → Nat → Int32} {l : Nat → Nat → Int64} : kd (sil h f l) 77 = 21 := rfl
theorem K78 {h : MH} {f : Nat → Nat → Int32} {l : Nat → Nat → Int64} : kd (sil h f l) 78 = 20 := rfl
theorem K79 {h : MH} {f : Nat → Nat → Int32} {l : Nat → Nat → Int64} : kd (sil h f l) 79 = 21 := rfl
theorem K80 {h : MH} {f : Nat → Nat → Int32} {l : Nat → Nat → Int64} : kd (sil h f l) 80 = 21 := rfl
theorem K81 {h : MH} {f : Nat → Nat → Int32} {l : Nat → Nat → Int64} : kd (sil h f l) 81 = 20 := rfl
theorem K82 {h : MH} {f : Nat → Nat → Int32} {l : Nat → Nat → Int64} : kd (sil h f l) 82 = 20 := rfl
theorem K83 {h : MH} {f : Nat → Nat → Int32} {l : Nat → Nat → Int64} : kd (sil h f l) 83 = 20 := rfl
theorem K84 {h : MH} {f : Nat → Nat → Int32} {l : Nat → Nat → Int64} : kd (sil h f l) 84 = 20 := rfl
theorem K85 {h : MH} {f : Nat → Nat → Int32} {l : Nat → Nat → Int64} : kd (sil h f l) 85 = 20 := rfl
theorem K86 {h : MH} {f : Nat → Nat → Int32} {l : Nat → Nat → Int64} : kd (sil h f l) 86 = 20 := rfl
theorem K87 {h : MH} {f : Nat → Nat → Int32} {l : Nat → Nat → Int64} : kd (sil h f l) 87 = 20 := rfl
theorem K88 {h : MH} {f : Nat → Nat → Int32} {l : Nat → Nat → Int64} : kd (sil h f l) 88 = 21 := rfl
theorem K89 {h : MH} {f : Nat → Nat → Int32} {l : Nat → Nat → Int64} : kd (sil h f l) 89 = 21 := rfl
theorem K90 {h : MH} {f : Nat → Nat → Int32} {l : Nat → Nat → Int64} : kd (sil h f l) 90 = 20 := rfl
theorem K91 {h : MH} {f : Nat → Nat → Int32} {l : Nat → Nat → Int64} : kd (sil h f l) 91 = 21 := rfl
theorem K92 {h : MH} {f : Nat → Nat → Int32} {l : Nat → Nat → Int64} : kd (sil h f l) 92 = 20 := rfl
theorem K93 {h : MH} {f : Nat → Nat → Int32} {l : Nat → Nat → Int64} : kd (sil h f l) 93 = 20 := rfl
theorem K94 {h : MH} {f : Nat → Nat → Int32} {l : Nat → Nat → Int64} : kd (sil h f l) 94 = 21 := rfl
theorem K95 {h : MH} {f : Nat → Nat → Int32} {l : Nat → Nat → Int64} : kd (sil h f l) 95 = 20 := rfl
theorem K96 {h : MH} {f : Nat → Nat → Int32} {l : Nat → Nat → Int64} : kd (sil h f l) 96 = 20 := rfl
theorem K97 {h : MH} {f : Nat → Nat → Int32} {l : Nat → Nat → Int64} : kd (sil h f l) 97 = 20 := rfl
theorem K98 {h : MH} {f : Nat → Nat → Int32} {l : Nat → Nat → Int64} : kd (sil h f l) 98 = 20 := rfl
theorem L2 {h : MH} {f : Nat → Nat → Int32} {l : Nat → Nat → Int64} : ln (sil h f l) 2 = 32 := rfl
theorem L3 {h : MH} {f : Nat → Nat → Int32} {l : Nat → Nat → Int64} : ln (sil h f l) 3 = 96 := rfl
theorem L4 {h : MH} {f : Nat → Nat → Int32} {l : Nat → Nat → Int64} : ln (sil h f l) 4 = 13 := rfl
theorem L7 {h : MH} {f : Nat → Nat → Int32} {l : Nat → Nat → Int64} : ln (sil h f l) 7 = 20 := rfl
theorem L8 {h : MH} {f : Nat → Nat → Int32} {l : Nat → Nat → Int64} : ln (sil h f l) 8 = 100 := rfl
theorem L10 {h : MH} {f : Nat → Nat → Int32} {l : Nat → Nat → Int64} : ln (sil h f l) 10 = 9 := rfl
theorem L11 {h : MH} {f : Nat → Nat → Int32} {l : Nat → Nat → Int64} : ln (sil h f l) 11 = 3 := rfl
theorem L12 {h : MH} {f : Nat → Nat → Int32} {l : Nat → Nat → Int64} : ln (sil h f l) 12 = 48 := rfl
theorem L13 {h : MH} {f : Nat → Nat → Int32} {l : Nat → Nat → Int64} : ln (sil h f l) 13 = 40 := rfl
theorem L14 {h : MH} {f : Nat → Nat → Int32} {l : Nat → Nat → Int64} : ln (sil h f l) 14 = 40 := rfl
theorem L17 {h : MH} {f : Nat → Nat → Int32} {l : Nat → Nat → Int64} : ln (sil h f l) 17 = 192 := rfl
theorem L18 {h : MH} {f : Nat → Nat → Int32} {l : Nat → Nat → Int64} : ln (sil h f l) 18 = 192 := rfl
theorem L19 {h : MH} {f : Nat → Nat → Int32} {l : Nat → Nat → Int64} : ln (sil h f l) 19 = 8 := rfl
theorem L21 {h : MH} {f : Nat → Nat → Int32} {l : Nat → Nat → Int64} : ln (sil h f l) 21 = 9 := rfl
theorem L22 {h : MH} {f : Nat → Nat → Int32} {l : Nat → Nat → Int64} : ln (sil h f l) 22 = 3 := rfl
theorem L24 {h : MH} {f : Nat → Nat → Int32} {l : Nat → Nat → Int64} : ln (sil h f l) 24 = 9 := rfl
theorem L25 {h : MH} {f : Nat → Nat → Int32} {l : Nat → Nat → Int64} : ln (sil h f l) 25 = 3 := rfl
theorem L27 {h : MH} {f : Nat → Nat → Int32} {l : Nat → Nat → Int64} : ln (sil h f l) 27 = 9 := rfl
theorem L28 {h : MH} {f : Nat → Nat → Int32} {l : Nat → Nat → Int64} : ln (sil h f l) 28 = 3 := rfl
theorem L29 {h : MH} {f : Nat → Nat → Int32} {l : Nat → Nat → Int64} : ln (sil h f l) 29 = 60 := rfl
theorem L31 {h : MH} {f : Nat → Nat → Int32} {l : Nat → Nat → Int64} : ln (sil h f l) 31 = 9 := rfl
theorem L32 {h : MH} {f : Nat → Nat → Int32} {l : Nat → Nat → Int64} : ln (sil h f l) 32 = 3 := rfl
theorem L34 {h : MH} {f : Nat → Nat → Int32} {l : Nat → Nat → Int64} : ln (sil h f l) 34 = 9 := rfl
theorem L35 {h : MH} {f : Nat → Nat → Int32} {l : Nat → Nat → Int64} : ln (sil h f l) 35 = 3 := rfl
theorem L37 {h : MH} {f : Nat → Nat → Int32} {l : Nat → Nat → Int64} : ln (sil h f l) 37 = 9 := rfl
theorem L38 {h : MH} {f : Nat → Nat → Int32} {l : Nat → Nat → Int64} : ln (sil h f l) 38 = 3 := rfl
theorem L40 {h : MH} {f : Nat → Nat → Int32} {l : Nat → Nat → Int64} : ln (sil h f l) 40 = 384 := rfl
theorem L41 {h : MH} {f : Nat → Nat → Int32} {l : Nat → Nat → Int64} : ln (sil h f l) 41 = 192 := rfl
theorem L42 {h : MH} {f : Nat → Nat → Int32} {l : Nat → Nat → Int64} : ln (sil h f l) 42 = 192 := rfl
theorem L43 {h : MH} {f : Nat → Nat → Int32} {l : Nat → Nat → Int64} : ln (sil h f l) 43 = 40 := rfl
theorem L44 {h : MH} {f : Nat → Nat → Int32} {l : Nat → Nat → Int64} : ln (sil h f l) 44 = 20 := rfl
theorem L46 {h : MH} {f : Nat → Nat → Int32} {l : Nat → Nat → Int64} : ln (sil h f l) 46 = 4 := rfl
theorem L47 {h : MH} {f : Nat → Nat → Int32} {l : Nat → Nat → Int64} : ln (sil h f l) 47 = 4 := rfl
theorem L48 {h : MH} {f : Nat → Nat → Int32} {l : Nat → Nat → Int64} : ln (sil h f l) 48 = 4 := rfl
theorem L49 {h : MH} {f : Nat → Nat → Int32} {l : Nat → Nat → Int64} : ln (sil h f l) 49 = 24 := rfl
theorem L51 {h : MH} {f : Nat → Nat → Int32} {l : Nat → Nat → Int64} : ln (sil h f l) 51 = 40 := rfl
theorem L52 {h : MH} {f : Nat → Nat → Int32} {l : Nat → Nat → Int64} : ln (sil h f l) 52 = 40 := rfl
theorem L53 {h : MH} {f : Nat → Nat → Int32} {l : Nat → Nat → Int64} : ln (sil h f l) 53 = 40 := rfl
theorem L55 {h : MH} {f : Nat → Nat → Int32} {l : Nat → Nat → Int64} : ln (sil h f l) 55 = 40 := rfl
theorem L56 {h : MH} {f : Nat → Nat → Int32} {l : Nat → Nat → Int64} : ln (sil h f l) 56 = 40 := rfl
theorem L57 {h : MH} {f : Nat → Nat → Int32} {l : Nat → Nat → Int64} : ln (sil h f l) 57 = 9 := rfl
theorem L58 {h : MH} {f : Nat → Nat → Int32} {l : Nat → Nat → Int64} : ln (sil h f l) 58 = 3 := rfl
theorem L59 {h : MH} {f : Nat → Nat → Int32} {l : Nat → Nat → Int64} : ln (sil h f l) 59 = 9 := rfl
theorem L60 {h : MH} {f : Nat → Nat → Int32} {l : Nat → Nat → Int64} : ln (sil h f l) 60 = 3 := rfl
theorem L61 {h : MH} {f : Nat → Nat → Int32} {l : Nat → Nat → Int64} : ln (sil h f l) 61 = 20 := rfl
theorem L62 {h : MH} {f : Nat → Nat → Int32} {l : Nat → Nat → Int64} : ln (sil h f l) 62 = 100 := rfl
theorem L63 {h : MH} {f : Nat → Nat → Int32} {l : Nat → Nat → Int64} : ln (sil h f l) 63 = 60 := rfl
theorem L64 {h : MH} {f : Nat → Nat → Int32} {l : Nat → Nat → Int64} : ln (sil h f l) 64 = 11520 := rfl
theorem L65 {h : MH} {f : Nat → Nat → Int32} {l : Nat → Nat → Int64} : ln (sil h f l) 65 = 60 := rfl
theorem L66 {h : MH} {f : Nat → Nat → Int32} {l : Nat → Nat → Int64} : ln (sil h f l) 66 = 200 := rfl
theorem L67 {h : MH} {f : Nat → Nat → Int32} {l : Nat → Nat → Int64} : ln (sil h f l) 67 = 60 := rfl
theorem L68 {h : MH} {f : Nat → Nat → Int32} {l : Nat → Nat → Int64} : ln (sil h f l) 68 = 60 := rfl
theorem L69 {h : MH} {f : Nat → Nat → Int32} {l : Nat → Nat → Int64} : ln (sil h f l) 69 = 60 := rfl
theorem L70 {h : MH} {f : Nat → Nat → Int32} {l : Nat → Nat → Int64} : ln (sil h f l) 70 = 23040 := rfl
theorem L71 {h : MH} {f : Nat → Nat → Int32} {l : Nat → Nat → Int64} : ln (sil h f l) 71 = 36864 := rfl
theorem L72 {h : MH} {f : Nat → Nat → Int32} {l : Nat → Nat → Int64} : ln (sil h f l) 72 = 200 := rfl
theorem L73 {h : MH} {f : Nat → Nat → Int32} {l : Nat → Nat → Int64} : ln (sil h f l) 73 = 16 := rfl
theorem L74 {h : MH} {f : Nat → Nat → Int32} {l : Nat → Nat → Int64} : ln (sil h f l) 74 = 200 := rfl
theorem L75 {h : MH} {f : Nat → Nat → Int32} {l : Nat → Nat → Int64} : ln (sil h f l) 75 = 13 := rfl
theorem L76 {h : MH} {f : Nat → Nat → Int32} {l : Nat → Nat → Int64} : ln (sil h f l) 76 = 240 := rfl
theorem L77 {h : MH} {f : Nat → Nat → Int32} {l : Nat → Nat → Int64} : ln (sil h f l) 77 = 240 := rfl
theorem L78 {h : MH} {f : Nat → Nat → Int32} {l : Nat → Nat → Int64} : ln (sil h f l) 78 = 40 := rfl
theorem L79 {h : MH} {f : Nat → Nat → Int32} {l : Nat → Nat → Int64} : ln (sil h f l) 79 = 6 := rfl
theorem L80 {h : MH} {f : Nat → Nat → Int32} {l : Nat → Nat → Int64} : ln (sil h f l) 80 = 3000 := rfl
theorem L81 {h : MH} {f : Nat → Nat → Int32} {l : Nat → Nat → Int64} : ln (sil h f l) 81 = 20 := rfl
theorem L82 {h : MH} {f : Nat → Nat → Int32} {l : Nat → Nat → Int64} : ln (sil h f l) 82 = 20 := rfl
theorem L83 {h : MH} {f : Nat → Nat → Int32} {l : Nat → Nat → Int64} : ln (sil h f l) 83 = 20 := rfl
theorem L84 {h : MH} {f : Nat → Nat → Int32} {l : Nat → Nat → Int64} : ln (sil h f l) 84 = 20 := rfl
theorem L85 {h : MH} {f : Nat → Nat → Int32} {l : Nat → Nat → Int64} : ln (sil h f l) 85 = 6000 := rfl
theorem L86 {h : MH} {f : Nat → Nat → Int32} {l : Nat → Nat → Int64} : ln (sil h f l) 86 = 6000 := rfl
theorem L87 {h : MH} {f : Nat → Nat → Int32} {l : Nat → Nat → Int64} : ln (sil h f l) 87 = 6000 := rfl
theorem L88 {h : MH} {f : Nat → Nat → Int32} {l : Nat → Nat → Int64} : ln (sil h f l) 88 = 12 := rfl
theorem L89 {h : MH} {f : Nat → Nat → Int32} {l : Nat → Nat → Int64} : ln (sil h f l) 89 = 2200 := rfl
theorem L90 {h : MH} {f : Nat → Nat → Int32} {l : Nat → Nat → Int64} : ln (sil h f l) 90 = 2200 := rfl
theorem L91 {h : MH} {f : Nat → Nat → Int32} {l : Nat → Nat → Int64} : ln (sil h f l) 91 = 8800 := rfl
theorem L92 {h : MH} {f : Nat → Nat → Int32} {l : Nat → Nat → Int64} : ln (sil h f l) 92 = 40 := rfl
theorem L93 {h : MH} {f : Nat → Nat → Int32} {l : Nat → Nat → Int64} : ln (sil h f l) 93 = 40 := rfl
theorem L94 {h : MH} {f : Nat → Nat → Int32} {l : Nat → Nat → Int64} : ln (sil h f l) 94 = 40 := rfl
theorem L95 {h : MH} {f : Nat → Nat → Int32} {l : Nat → Nat → Int64} : ln (sil h f l) 95 = 9 := rfl
theorem L96 {h : MH} {f : Nat → Nat → Int32} {l : Nat → Nat → Int64} : ln (sil h f l) 96 = 3 := rfl
theorem L97 {h : MH} {f : Nat → Nat → Int32} {l : Nat → Nat → Int64} : ln (sil h f l) 97 = 200 := rfl
theorem L98 {h : MH} {f : Nat → Nat → Int32} {l : Nat → Nat → Int64} : ln (sil h f l) 98 = 400 := rfl
theorem R5_0 {h : MH} {f : Nat → Nat → Int32} {l : Nat → Nat → Int64} : mr (sil h f l) 5 0 = 6 := rfl
theorem R5_1 {h : MH} {f : Nat → Nat → Int32} {l : Nat → Nat → Int64} : mr (sil h f l) 5 1 = 13 := rfl
theorem R5_2 {h : MH} {f : Nat → Nat → Int32} {l : Nat → Nat → Int64} : mr (sil h f l) 5 2 = 14 := rfl
theorem R5_4 {h : MH} {f : Nat → Nat → Int32} {l : Nat → Nat → Int64} : mr (sil h f l) 5 4 = 15 := rfl
theorem R5_5 {h : MH} {f : Nat → Nat → Int32} {l : Nat → Nat → Int64} : mr (sil h f l) 5 5 = 29 := rfl
theorem R5_7 {h : MH} {f : Nat → Nat → Int32} {l : Nat → Nat → Int64} : mr (sil h f l) 5 7 = 30 := rfl
theorem R5_8 {h : MH} {f : Nat → Nat → Int32} {l : Nat → Nat → Int64} : mr (sil h f l) 5 8 = 33 := rfl
theorem R5_9 {h : MH} {f : Nat → Nat → Int32} {l : Nat → Nat → Int64} : mr (sil h f l) 5 9 = 36 := rfl
theorem R5_10 {h : MH} {f : Nat → Nat → Int32} {l : Nat → Nat → Int64} : mr (sil h f l) 5 10 = 39 := rfl
theorem R5_11 {h : MH} {f : Nat → Nat → Int32} {l : Nat → Nat → Int64} : mr (sil h f l) 5 11 = 41 := rfl
theorem R5_12 {h : MH} {f : Nat → Nat → Int32} {l : Nat → Nat → Int64} : mr (sil h f l) 5 12 = 42 := rfl
theorem R5_13 {h : MH} {f : Nat → Nat → Int32} {l : Nat → Nat → Int64} : mr (sil h f l) 5 13 = 43 := rfl
theorem R5_15 {h : MH} {f : Nat → Nat → Int32} {l : Nat → Nat → Int64} : mr (sil h f l) 5 15 = 44 := rfl
theorem R5_17 {h : MH} {f : Nat → Nat → Int32} {l : Nat → Nat → Int64} : mr (sil h f l) 5 17 = 45 := rfl
theorem R5_18 {h : MH} {f : Nat → Nat → Int32} {l : Nat → Nat → Int64} : mr (sil h f l) 5 18 = 50 := rfl
theorem R6_0 {h : MH} {f : Nat → Nat → Int32} {l : Nat → Nat → Int64} : mr (sil h f l) 6 0 = 7 := rfl
theorem R6_1 {h : MH} {f : Nat → Nat → Int32} {l : Nat → Nat → Int64} : mr (sil h f l) 6 1 = 8 := rfl
theorem R6_6 {h : MH} {f : Nat → Nat → Int32} {l : Nat → Nat → Int64} : mr (sil h f l) 6 6 = 9 := rfl
theorem R6_7 {h : MH} {f : Nat → Nat → Int32} {l : Nat → Nat → Int64} : mr (sil h f l) 6 7 = 12 := rfl
theorem R9_0 {h : MH} {f : Nat → Nat → Int32} {l : Nat → Nat → Int64} : mr (sil h f l) 9 0 = 10 := rfl
theorem R9_1 {h : MH} {f : Nat → Nat → Int32} {l : Nat → Nat → Int64} : mr (sil h f l) 9 1 = 11 := rfl
theorem R15_0 {h : MH} {f : Nat → Nat → Int32} {l : Nat → Nat → Int64} : mr (sil h f l) 15 0 = 16 := rfl
theorem R15_1 {h : MH} {f : Nat → Nat → Int32} {l : Nat → Nat → Int64} : mr (sil h f l) 15 1 = 18 := rfl
theorem R15_2 {h : MH} {f : Nat → Nat → Int32} {l : Nat → Nat → Int64} : mr (sil h f l) 15 2 = 19 := rfl
theorem R15_4 {h : MH} {f : Nat → Nat → Int32} {l : Nat → Nat → Int64} : mr (sil h f l) 15 4 = 20 := rfl
theorem R15_5 {h : MH} {f : Nat → Nat → Int32} {l : Nat → Nat → Int64} : mr (sil h f l) 15 5 = 23 := rfl
theorem R15_6 {h : MH} {f : Nat → Nat → Int32} {l : Nat → Nat → Int64} : mr (sil h f l) 15 6 = 26 := rfl
theorem R16_0 {h : MH} {f : Nat → Nat → Int32} {l : Nat → Nat → Int64} : mr (sil h f l) 16 0 = 17 := rfl
theorem R20_0 {h : MH} {f : Nat → Nat → Int32} {l : Nat → Nat → Int64} : mr (sil h f l) 20 0 = 21 := rfl
theorem R20_1 {h : MH} {f : Nat → Nat → Int32} {l : Nat → Nat → Int64} : mr (sil h f l) 20 1 = 22 := rfl
theorem R23_0 {h : MH} {f : Nat → Nat → Int32} {l : Nat → Nat → Int64} : mr (sil h f l) 23 0 = 24 := rfl
theorem R23_1 {h : MH} {f : Nat → Nat → Int32} {l : Nat → Nat → Int64} : mr (sil h f l) 23 1 = 25 := rfl
theorem R26_0 {h : MH} {f : Nat → Nat → Int32} {l : Nat → Nat → Int64} : mr (sil h f l) 26 0 = 27 := rfl
theorem R26_1 {h : MH} {f : Nat → Nat → Int32} {l : Nat → Nat → Int64} : mr (sil h f l) 26 1 = 28 := rfl
theorem R30_0 {h : MH} {f : Nat → Nat → Int32} {l : Nat → Nat → Int64} : mr (sil h f l) 30 0 = 31 := rfl
theorem R30_1 {h : MH} {f : Nat → Nat → Int32} {l : Nat → Nat → Int64} : mr (sil h f l) 30 1 = 32 := rfl
theorem R33_0 {h : MH} {f : Nat → Nat → Int32} {l : Nat → Nat → Int64} : mr (sil h f l) 33 0 = 34 := rfl
theorem R33_1 {h : MH} {f : Nat → Nat → Int32} {l : Nat → Nat → Int64} : mr (sil h f l) 33 1 = 35 := rfl
theorem R36_0 {h : MH} {f : Nat → Nat → Int32} {l : Nat → Nat → Int64} : mr (sil h f l) 36 0 = 37 := rfl
theorem R36_1 {h : MH} {f : Nat → Nat → Int32} {l : Nat → Nat → Int64} : mr (sil h f l) 36 1 = 38 := rfl
theorem R39_0 {h : MH} {f : Nat → Nat → Int32} {l : Nat → Nat → Int64} : mr (sil h f l) 39 0 = 40 := rfl
theorem R45_0 {h : MH} {f : Nat → Nat → Int32} {l : Nat → Nat → Int64} : mr (sil h f l) 45 0 = 46 := rfl
theorem R45_1 {h : MH} {f : Nat → Nat → Int32} {l : Nat → Nat → Int64} : mr (sil h f l) 45 1 = 47 := rfl
theorem R45_2 {h : MH} {f : Nat → Nat → Int32} {l : Nat → Nat → Int64} : mr (sil h f l) 45 2 = 48 := rfl
theorem R45_3 {h : MH} {f : Nat → Nat → Int32} {l : Nat → Nat → Int64} : mr (sil h f l) 45 3 = 49 := rfl
theorem R50_0 {h : MH} {f : Nat → Nat → Int32} {l : Nat → Nat → Int64} : mr (sil h f l) 50 0 = 51 := rfl
theorem R50_1 {h : MH} {f : Nat → Nat → Int32} {l : Nat → Nat → Int64} : mr (sil h f l) 50 1 = 52 := rfl
theorem R50_2 {h : MH} {f : Nat → Nat → Int32} {l : Nat → Nat → Int64} : mr (sil h f l) 50 2 = 53 := rfl
theorem R54_0 {h : MH} {f : Nat → Nat → Int32} {l : Nat → Nat → Int64} : mr (sil h f l) 54 0 = 55 := rfl
theorem R54_2 {h : MH} {f : Nat → Nat → Int32} {l : Nat → Nat → Int64} : mr (sil h f l) 54 2 = 56 := rfl
theorem R54_3 {h : MH} {f : Nat → Nat → Int32} {l : Nat → Nat → Int64} : mr (sil h f l) 54 3 = 57 := rfl
theorem R54_4 {h : MH} {f : Nat → Nat → Int32} {l : Nat → Nat → Int64} : mr (sil h f l) 54 4 = 58 := rfl
theorem R54_5 {h : MH} {f : Nat → Nat → Int32} {l : Nat → Nat → Int64} : mr (sil h f l) 54 5 = 59 := rfl
theorem R54_6 {h : MH} {f : Nat → Nat → Int32} {l : Nat → Nat → Int64} : mr (sil h f l) 54 6 = 60 := rfl
theorem R54_7 {h : MH} {f : Nat → Nat → Int32} {l : Nat → Nat → Int64} : mr (sil h f l) 54 7 = 61 := rfl
theorem R54_8 {h : MH} {f : Nat → Nat → Int32} {l : Nat → Nat → Int64} : mr (sil h f l) 54 8 = 62 := rfl
theorem R54_13 {h : MH} {f : Nat → Nat → Int32} {l : Nat → Nat → Int64} : mr (sil h f l) 54 13 = 63 := rfl
theorem R54_15 {h : MH} {f : Nat → Nat → Int32} {l : Nat → Nat → Int64} : mr (sil h f l) 54 15 = 64 := rfl
theorem R54_16 {h : MH} {f : Nat → Nat → Int32} {l : Nat → Nat → Int64} : mr (sil h f l) 54 16 = 65 := rfl
theorem R54_18 {h : MH} {f : Nat → Nat → Int32} {l : Nat → Nat → Int64} : mr (sil h f l) 54 18 = 66 := rfl
theorem R54_20 {h : MH} {f : Nat → Nat → Int32} {l : Nat → Nat → Int64} : mr (sil h f l) 54 20 = 67 := rfl
theorem R54_21 {h : MH} {f : Nat → Nat → Int32} {l : Nat → Nat → Int64} : mr (sil h f l) 54 21 = 68 := rfl
theorem R54_22 {h : MH} {f : Nat → Nat → Int32} {l : Nat → Nat → Int64} : mr (sil h f l) 54 22 = 69 := rfl
theorem R54_23 {h : MH} {f : Nat → Nat → Int32} {l : Nat → Nat → Int64} : mr (sil h f l) 54 23 = 70 := rfl
theorem R54_24 {h : MH} {f : Nat → Nat → Int32} {l : Nat → Nat → Int64} : mr (sil h f l) 54 24 = 71 := rfl
theorem R54_25 {h : MH} {f : Nat → Nat → Int32} {l : Nat → Nat → Int64} : mr (sil h f l) 54 25 = 72 := rfl
theorem R54_26 {h : MH} {f : Nat → Nat → Int32} {l : Nat → Nat → Int64} : mr (sil h f l) 54 26 = 73 := rfl
theorem R54_27 {h : MH} {f : Nat → Nat → Int32} {l : Nat → Nat → Int64} : mr (sil h f l) 54 27 = 74 := rfl
theorem R54_28 {h : MH} {f : Nat → Nat → Int32} {l : Nat → Nat → Int64} : mr (sil h f l) 54 28 = 75 := rfl
theorem R54_29 {h : MH} {f : Nat → Nat → Int32} {l : Nat → Nat → Int64} : mr (sil h f l) 54 29 = 76 := rfl
theorem R54_30 {h : MH} {f : Nat → Nat → Int32} {l : Nat → Nat → Int64} : mr (sil h f l) 54 30 = 77 := rfl
theorem R54_31 {h : MH} {f : Nat → Nat → Int32} {l : Nat → Nat → Int64} : mr (sil h f l) 54 31 = 78 := rfl
theorem R54_33 {h : MH} {f : Nat → Nat → Int32} {l : Nat → Nat → Int64} : mr (sil h f l) 54 33 = 79 := rfl
theorem R54_34 {h : MH} {f : Nat → Nat → Int32} {l : Nat → Nat → Int64} : mr (sil h f l) 54 34 = 80 := rfl
theorem R54_38 {h : MH} {f : Nat → Nat → Int32} {l : Nat → Nat → Int64} : mr (sil h f l) 54 38 = 81 := rfl
theorem R54_39 {h : MH} {f : Nat → Nat → Int32} {l : Nat → Nat → Int64} : mr (sil h f l) 54 39 = 82 := rfl
theorem R54_40 {h : MH} {f : Nat → Nat → Int32} {l : Nat → Nat → Int64} : mr (sil h f l) 54 40 = 83 := rfl
theorem R54_41 {h : MH} {f : Nat → Nat → Int32} {l : Nat → Nat → Int64} : mr (sil h f l) 54 41 = 84 := rfl
theorem R54_42 {h : MH} {f : Nat → Nat → Int32} {l : Nat → Nat → Int64} : mr (sil h f l) 54 42 = 85 := rfl
theorem R54_43 {h : MH} {f : Nat → Nat → Int32} {l : Nat → Nat → Int64} : mr (sil h f l) 54 43 = 86 := rfl
theorem R54_44 {h : MH} {f : Nat → Nat → Int32} {l : Nat → Nat → Int64} : mr (sil h f l) 54 44 = 87 := rfl
theorem R54_46 {h : MH} {f : Nat → Nat → Int32} {l : Nat → Nat → Int64} : mr (sil h f l) 54 46 = 88 := rfl
theorem R54_47 {h : MH} {f : Nat → Nat → Int32} {l : Nat → Nat → Int64} : mr (sil h f l) 54 47 = 89 := rfl
theorem R54_48 {h : MH} {f : Nat → Nat → Int32} {l : Nat → Nat → Int64} : mr (sil h f l) 54 48 = 90 := rfl
theorem R54_49 {h : MH} {f : Nat → Nat → Int32} {l : Nat → Nat → Int64} : mr (sil h f l) 54 49 = 91 := rfl
theorem R54_53 {h : MH} {f : Nat → Nat → Int32} {l : Nat → Nat → Int64} : mr (sil h f l) 54 53 = 92 := rfl
theorem R54_54 {h : MH} {f : Nat → Nat → Int32} {l : Nat → Nat → Int64} : mr (sil h f l) 54 54 = 93 := rfl
theorem R54_55 {h : MH} {f : Nat → Nat → Int32} {l : Nat → Nat → Int64} : mr (sil h f l) 54 55 = 94 := rfl
theorem R54_59 {h : MH} {f : Nat → Nat → Int32} {l : Nat → Nat → Int64} : mr (sil h f l) 54 59 = 95 := rfl
theorem R54_60 {h : MH} {f : Nat → Nat → Int32} {l : Nat → Nat → Int64} : mr (sil h f l) 54 60 = 96 := rfl
theorem R54_61 {h : MH} {f : Nat → Nat → Int32} {l : Nat → Nat → Int64} : mr (sil h f l) 54 61 = 97 := rfl
theorem R54_66 {h : MH} {f : Nat → Nat → Int32} {l : Nat → Nat → Int64} : mr (sil h f l) 54 66 = 98 := rfl
