set_option maxRecDepth 100000 in
set_option maxHeartbeats 4000000 in
theorem v_Group_letterOfTwo (x0 : Nat) (h : MH) (Rt : Value → MH → Prop) (H :
kd h x0 = 4 ∧
SpI k_Group_hasCentring [.ref x0, .int (300 : Int32)] h (fun r3 g1 =>
(r3 = 0 →
kd g1 x0 = 4 ∧
SpI k_Group_hasCentring [.ref x0, .int (6924 : Int32)] g1 (fun r6 g4 =>
(r6 = 0 →
kd g4 x0 = 4 ∧
SpI k_Group_hasCentring [.ref x0, .int (7200 : Int32)] g4 (fun r9 g7 =>
(r9 = 0 →
kd g7 x0 = 4 ∧
SpI k_Group_hasCentring [.ref x0, .int (7212 : Int32)] g7 (fun r12 g10 =>
(r12 = 0 →
Rt (.int (8 : Int32)) g10) ∧
(¬ r12 = 0 →
Rt (.int (4 : Int32)) g10))) ∧
(¬ r9 = 0 →
Rt (.int (3 : Int32)) g7))) ∧
(¬ r6 = 0 →
Rt (.int (2 : Int32)) g4))) ∧
(¬ r3 = 0 →
Rt (.int (1 : Int32)) g1))) : Sp k_Group_letterOfTwo [.ref x0] h Rt := Sp_intro2 (by decide) (by decide +kernel) rfl (Nat.le_of_ble_eq_true rfl) (WM_at (hs := HH_Group_letterOfTwo) G_Group_letterOfTwo 27 0 rfl H)
set_option maxRecDepth 100000 in
set_option maxHeartbeats 4000000 in
theorem v_Group_centringLetter (x0 : Nat) (h : MH) (Rt : Value → MH → Prop) (H :
kd h x0 = 4 ∧
SpI k_Group_countCentrings [.ref x0] h (fun r3 g1 =>
(r3 = (1 : Int32) →
Rt (.int (0 : Int32)) g1) ∧
(¬ r3 = (1 : Int32) →
(r3 = (2 : Int32) →
kd g1 x0 = 4 ∧
SpI k_Group_letterOfTwo [.ref x0] g1 (fun r18 g16 =>
Rt (.int r18) g16)) ∧
(¬ r3 = (2 : Int32) →
(r3 = (3 : Int32) →
kd g1 x0 = 4 ∧
SpI k_Group_hasCentring [.ref x0, .int (5008 : Int32)] g1 (fun r12 g10 =>
(r12 = 0 →
kd g10 x0 = 4 ∧
SpI k_Group_hasCentring [.ref x0, .int (5000 : Int32)] g10 (fun r15 g13 =>
(r15 = 0 →
Rt (.int (8 : Int32)) g13) ∧
(¬ r15 = 0 →
Rt (.int (7 : Int32)) g13))) ∧
(¬ r12 = 0 →
Rt (.int (6 : Int32)) g10))) ∧
(¬ r3 = (3 : Int32) →
(r3 = (4 : Int32) →
kd g1 x0 = 4 ∧
SpI k_Group_hasCentring [.ref x0, .int (300 : Int32)] g1 (fun r6 g4 =>
(r6 = 0 →
Rt (.int (8 : Int32)) g4) ∧
(¬ r6 = 0 →
kd g4 x0 = 4 ∧
SpI k_Group_hasCentring [.ref x0, .int (6924 : Int32)] g4 (fun r9 g7 =>
(r9 = 0 →
Rt (.int (8 : Int32)) g7) ∧
(¬ r9 = 0 →
Rt (.int (5 : Int32)) g7))))) ∧
(¬ r3 = (4 : Int32) →
Rt (.int (8 : Int32)) g1)))))) : Sp k_Group_centringLetter [.ref x0] h Rt := Sp_intro2 (by decide) (by decide +kernel) rfl (Nat.le_of_ble_eq_true rfl) (WM_at (hs := HH_Group_centringLetter) G_Group_centringLetter 37 0 rfl H)
set_option maxRecDepth 100000 in
set_option maxHeartbeats 4000000 in
theorem v_Motion_sort (x0 : Nat) (h : MH) (Rt : Value → MH → Prop) (H :
kd h x0 = 7 ∧
SpI k_Motion_determinant [.ref x0] h (fun r3 g1 =>
kd g1 x0 = 7 ∧
kd g1 (mr g1 x0 0) = 20 ∧
InB (0 : Int32) (ln g1 (mr g1 x0 0)) ∧
InB (4 : Int32) (ln g1 (mr g1 x0 0)) ∧
InB (8 : Int32) (ln g1 (mr g1 x0 0)) ∧
((r3 * (((mi g1 (mr g1 x0 0) (ix (0 : Int32))) + (mi g1 (mr g1 x0 0) (ix (4 : Int32)))) + (mi g1 (mr g1 x0 0) (ix (8 : Int32))))) = (-1 : Int32) →
Rt (.int ((2 : Int32) * r3)) g1) ∧
(¬ (r3 * (((mi g1 (mr g1 x0 0) (ix (0 : Int32))) + (mi g1 (mr g1 x0 0) (ix (4 : Int32)))) + (mi g1 (mr g1 x0 0) (ix (8 : Int32))))) = (-1 : Int32) →
((r3 * (((mi g1 (mr g1 x0 0) (ix (0 : Int32))) + (mi g1 (mr g1 x0 0) (ix (4 : Int32)))) + (mi g1 (mr g1 x0 0) (ix (8 : Int32))))) = (0 : Int32) →
Rt (.int ((3 : Int32) * r3)) g1) ∧
(¬ (r3 * (((mi g1 (mr g1 x0 0) (ix (0 : Int32))) + (mi g1 (mr g1 x0 0) (ix (4 : Int32)))) + (mi g1 (mr g1 x0 0) (ix (8 : Int32))))) = (0 : Int32) →
((r3 * (((mi g1 (mr g1 x0 0) (ix (0 : Int32))) + (mi g1 (mr g1 x0 0) (ix (4 : Int32)))) + (mi g1 (mr g1 x0 0) (ix (8 : Int32))))) = (1 : Int32) →
Rt (.int ((4 : Int32) * r3)) g1) ∧
(¬ (r3 * (((mi g1 (mr g1 x0 0) (ix (0 : Int32))) + (mi g1 (mr g1 x0 0) (ix (4 : Int32)))) + (mi g1 (mr g1 x0 0) (ix (8 : Int32))))) = (1 : Int32) →
((r3 * (((mi g1 (mr g1 x0 0) (ix (0 : Int32))) + (mi g1 (mr g1 x0 0) (ix (4 : Int32)))) + (mi g1 (mr g1 x0 0) (ix (8 : Int32))))) = (2 : Int32) →
Rt (.int ((6 : Int32) * r3)) g1) ∧
(¬ (r3 * (((mi g1 (mr g1 x0 0) (ix (0 : Int32))) + (mi g1 (mr g1 x0 0) (ix (4 : Int32)))) + (mi g1 (mr g1 x0 0) (ix (8 : Int32))))) = (2 : Int32) →
((r3 * (((mi g1 (mr g1 x0 0) (ix (0 : Int32))) + (mi g1 (mr g1 x0 0) (ix (4 : Int32)))) + (mi g1 (mr g1 x0 0) (ix (8 : Int32))))) = (3 : Int32) →
Rt (.int r3) g1) ∧
(¬ (r3 * (((mi g1 (mr g1 x0 0) (ix (0 : Int32))) + (mi g1 (mr g1 x0 0) (ix (4 : Int32)))) + (mi g1 (mr g1 x0 0) (ix (8 : Int32))))) = (3 : Int32) →
Rt (.int (0 : Int32)) g1))))))) : Sp k_Motion_sort [.ref x0] h Rt := Sp_intro2 (by decide) (by decide +kernel) rfl (Nat.le_of_ble_eq_true rfl) (WM_at (hs := HH_Motion_sort) G_Motion_sort 41 0 rfl ⟨H.1, SpI.mono H.2 (fun r3 g1 qg1 => ⟨qg1.1, ⟨qg1.2.1, ⟨qg1.2.2.1, ⟨qg1.1, ⟨qg1.2.1, ⟨qg1.2.2.2.1, ⟨qg1.1, ⟨qg1.2.1, qg1.2.2.2.2⟩⟩⟩⟩⟩⟩⟩⟩)⟩)
set_option maxRecDepth 100000 in
set_option maxHeartbeats 4000000 in
theorem v_Ho_keyOfSort (x0 : Int32) (h : MH) (Rt : Value → MH → Prop) (H :
(x0 = (-6 : Int32) →
Rt (.int (1 : Int32)) h) ∧
(¬ x0 = (-6 : Int32) →
(x0 = (-5 : Int32) →
Rt (.int (0 : Int32)) h) ∧
(¬ x0 = (-5 : Int32) →
(x0 = (-4 : Int32) →
Rt (.int (10 : Int32)) h) ∧
(¬ x0 = (-4 : Int32) →
(x0 = (-3 : Int32) →
Rt (.int (100 : Int32)) h) ∧
(¬ x0 = (-3 : Int32) →
(x0 = (-2 : Int32) →
Rt (.int (1000 : Int32)) h) ∧
(¬ x0 = (-2 : Int32) →
(x0 = (-1 : Int32) →
Rt (.int (10000 : Int32)) h) ∧
(¬ x0 = (-1 : Int32) →
(x0 = (0 : Int32) →
Rt (.int (0 : Int32)) h) ∧
(¬ x0 = (0 : Int32) →
(x0 = (1 : Int32) →
Rt (.int (0 : Int32)) h) ∧
(¬ x0 = (1 : Int32) →
(x0 = (2 : Int32) →
Rt (.int (100000000 : Int32)) h) ∧
(¬ x0 = (2 : Int32) →
(x0 = (3 : Int32) →
Rt (.int (10000000 : Int32)) h) ∧
(¬ x0 = (3 : Int32) →
(x0 = (4 : Int32) →
Rt (.int (1000000 : Int32)) h) ∧
(¬ x0 = (4 : Int32) →
(x0 = (5 : Int32) →
Rt (.int (0 : Int32)) h) ∧
(¬ x0 = (5 : Int32) →
(x0 = (6 : Int32) →
Rt (.int (100000 : Int32)) h) ∧
(¬ x0 = (6 : Int32) →
Rt (.int (0 : Int32)) h)))))))))))))) : Sp k_Ho_keyOfSort [.int x0] h Rt := Sp_intro2 (by decide) (by decide +kernel) rfl (Nat.le_of_ble_eq_true rfl) (WM_at (hs := HH_Ho_keyOfSort) G_Ho_keyOfSort 23 0 rfl H)
set_option maxRecDepth 100000 in
set_option maxHeartbeats 4000000 in
theorem v_Ho_classOfKey (x0 : Int32) (h : MH) (Rt : Value → MH → Prop) (H :
WM k_Ho_classOfKey p_Ho_classOfKey_1 [.int x0, .int (0 : Int32)] [] h 0 0 Rt) : Sp k_Ho_classOfKey [.int x0] h Rt := Sp_intro2 (by decide) (by decide +kernel) rfl (Nat.le_of_ble_eq_true rfl) (WM_at (hs := HH_Ho_classOfKey) G_Ho_classOfKey 20 0 rfl H)
set_option maxRecDepth 100000 in
set_option maxHeartbeats 4000000 in
theorem v_Ho_classOfKey_1 (x0 : Int32) (x1 : Int32) (h : MH) (Rt : Value → MH → Prop) (H :
kd h 2 = 19 ∧
(x1.toInt < (Int32.ofNat (ln h 2)).toInt →
InB x1 (ln h 2) ∧
((mi h 2 (ix x1)) = x0 →
Rt (.int (x1 + (1 : Int32))) h) ∧
(¬ (mi h 2 (ix x1)) = x0 →
WM k_Ho_classOfKey p_Ho_classOfKey_1 [.int x0, .int (x1 + (1 : Int32))] [] h 0 0 Rt)) ∧
(¬ x1.toInt < (Int32.ofNat (ln h 2)).toInt →
Rt (.int (-1 : Int32)) h)) : WM k_Ho_classOfKey p_Ho_classOfKey_1 [.int x0, .int x1] [] h 0 0 Rt := WM_at (hs := HH_Ho_classOfKey) G_Ho_classOfKey 20 2 rfl ⟨H.1, ⟨fun c3 => ⟨H.1, (H.2.1 c3)⟩, H.2.2⟩⟩
set_option maxRecDepth 100000 in
set_option maxHeartbeats 4000000 in
theorem v_Ho_classOf (x0 : Nat) (x1 : Nat) (h : MH) (Rt : Value → MH → Prop) (H :
WM k_Ho_classOf p_Ho_classOf_1 [.ref x0, .ref x1, .int (0 : Int32), .int (0 : Int32)] [] h 0 0 Rt) : Sp k_Ho_classOf [.ref x0, .ref x1] h Rt := Sp_intro2 (by decide) (by decide +kernel) rfl (Nat.le_of_ble_eq_true rfl) (WM_at (hs := HH_Ho_classOf) G_Ho_classOf 34 0 rfl H)
set_option maxRecDepth 100000 in
set_option maxHeartbeats 4000000 in
theorem v_Ho_classOf_1 (x0 : Nat) (x1 : Nat) (x2 : Int32) (x3 : Int32) (h : MH) (Rt : Value → MH → Prop) (H :
kd h x1 = 4 ∧
kd h (mr h x1 0) = 9 ∧
(x3.toInt < (mi h (mr h x1 0) 1).toInt →
SpI k_Group_bringsMatrix [.ref x1, .int x3] h (fun r6 g5 =>
(r6 = 0 →
WM k_Ho_classOf p_Ho_classOf_1 [.ref x0, .ref x1, .int x2, .int (x3 + (1 : Int32))] [] g5 0 0 Rt) ∧
(¬ r6 = 0 →
kd g5 x0 = 12 ∧
kd g5 x1 = 4 ∧
kd g5 (mr g5 x1 0) = 9 ∧
kd g5 (mr g5 (mr g5 x1 0) 0) = 20 ∧
InB x3 (ln g5 (mr g5 (mr g5 x1 0) 0)) ∧
kd g5 (mr g5 x0 9) = 7 ∧
SpV k_Motion_open [.ref (mr g5 x0 9), .int (mi g5 (mr g5 (mr g5 x1 0) 0) (ix x3))] g5 (fun g12 =>
kd g12 x0 = 12 ∧
kd g12 (mr g12 x0 9) = 7 ∧
SpI k_Motion_sort [.ref (mr g12 x0 9)] g12 (fun r17 g15 =>
SpI k_Ho_keyOfSort [.int r17] g15 (fun r19 g18 =>
WM k_Ho_classOf p_Ho_classOf_1 [.ref x0, .ref x1, .int (x2 + r19), .int (x3 + (1 : Int32))] [] g18 0 0 Rt)))))) ∧
(¬ x3.toInt < (mi h (mr h x1 0) 1).toInt →
SpI k_Ho_classOfKey [.int x2] h (fun r4 g3 =>
Rt (.int r4) g3))) : WM k_Ho_classOf p_Ho_classOf_1 [.ref x0, .ref x1, .int x2, .int x3] [] h 0 0 Rt := WM_at (hs := HH_Ho_classOf) G_Ho_classOf 34 4 rfl ⟨H.1, ⟨H.2.1, ⟨fun c20 => ⟨H.1, (H.2.2.1 c20)⟩, H.2.2.2⟩⟩⟩
set_option maxRecDepth 100000 in
set_option maxHeartbeats 4000000 in
theorem v_Ho_joined (x0 : Nat) (x1 : Int32) (x2 : Int32) (h : MH) (Rt : Value → MH → Prop) (H :
kd h x0 = 12 ∧
kd h (mr h x0 7) = 7 ∧
SpV k_Motion_open [.ref (mr h x0 7), .int x1] h (fun g2 =>
kd g2 x0 = 12 ∧
kd g2 (mr g2 x0 8) = 7 ∧
SpV k_Motion_open [.ref (mr g2 x0 8), .int x2] g2 (fun g5 =>
kd g5 x0 = 12 ∧
kd g5 (mr g5 x0 9) = 7 ∧
SpV k_Motion_join [.ref (mr g5 x0 9), .ref (mr g5 x0 7), .ref (mr g5 x0 8)] g5 (fun g8 =>
kd g8 x0 = 12 ∧
kd g8 (mr g8 x0 9) = 7 ∧
SpI k_Motion_code [.ref (mr g8 x0 9)] g8 (fun r13 g11 =>
Rt (.int r13) g11))))) : Sp k_Ho_joined [.ref x0, .int x1, .int x2] h Rt := Sp_intro2 (by decide) (by decide +kernel) rfl (Nat.le_of_ble_eq_true rfl) (WM_at (hs := HH_Ho_joined) G_Ho_joined 20 0 rfl ⟨H.1, ⟨H.2.1, SpV.mono H.2.2 (fun g2 qg2 => ⟨qg2.1, ⟨qg2.2.1, SpV.mono qg2.2.2 (fun g5 qg5 => ⟨qg5.1, ⟨qg5.1, ⟨qg5.1, qg5.2⟩⟩⟩)⟩⟩)⟩⟩)
set_option maxRecDepth 100000 in
set_option maxHeartbeats 4000000 in
theorem v_Ho_inverseOf (x0 : Nat) (x1 : Int32) (h : MH) (Rt : Value → MH → Prop) (H :
WM k_Ho_inverseOf p_Ho_inverseOf_1 [.ref x0, .int x1, .int (227874816 : Int32), .int x1, .int (0 : Int32)] [] h 0 0 Rt) : Sp k_Ho_inverseOf [.ref x0, .int x1] h Rt := Sp_intro2 (by decide) (by decide +kernel) rfl (Nat.le_of_ble_eq_true rfl) (WM_at (hs := HH_Ho_inverseOf) G_Ho_inverseOf 24 0 rfl H)
set_option maxRecDepth 100000 in
set_option maxHeartbeats 4000000 in
theorem v_Ho_inverseOf_1 (x0 : Nat) (x1 : Int32) (x2 : Int32) (x3 : Int32) (x4 : Int32) (h : MH) (Rt : Value → MH → Prop) (H :
(x4.toInt < (192 : Int32).toInt →
(x3 = (227874816 : Int32) →
Rt (.int x2) h) ∧
(¬ x3 = (227874816 : Int32) →
kd h x0 = 12 ∧
SpI k_Ho_joined [.ref x0, .int x3, .int x1] h (fun r3 g1 =>
WM k_Ho_inverseOf p_Ho_inverseOf_1 [.ref x0, .int x1, .int x3, .int r3, .int (x4 + (1 : Int32))] [] g1 0 0 Rt))) ∧
(¬ x4.toInt < (192 : Int32).toInt →
Rt (.int x2) h)) : WM k_Ho_inverseOf p_Ho_inverseOf_1 [.ref x0, .int x1, .int x2, .int x3, .int x4] [] h 0 0 Rt := WM_at (hs := HH_Ho_inverseOf) G_Ho_inverseOf 24 6 rfl H
set_option maxRecDepth 100000 in
set_option maxHeartbeats 4000000 in
theorem v_Ho_inversesOf (x0 : Nat) (x1 : Nat) (h : MH) (Rt : Value → MH → Prop) (H :
kd h x1 = 20 ∧
0 ≤ (Int32.ofNat (ln h x1)).toInt ∧
gd (0 + ix (Int32.ofNat (ln h x1))) 8 (
∀ g3 : MH, g3 = nw h 20 (ix (Int32.ofNat (ln h x1))) →
WM k_Ho_inversesOf p_Ho_inversesOf_1 [.ref x0, .ref x1, .ref (hn h), .int (0 : Int32)] [] g3 1 (0 + ix (Int32.ofNat (ln h x1))) Rt)) : Sp k_Ho_inversesOf [.ref x0, .ref x1] h Rt := Sp_intro2 (by decide) (by decide +kernel) rfl (Nat.le_of_ble_eq_true rfl) (WM_at (hs := HH_Ho_inversesOf) G_Ho_inversesOf 23 0 rfl ⟨H.1, ⟨H.2.1, gd_mono (a := (0 + ix (Int32.ofNat (ln h x1)))) (b := 8) (fun q => (q _ rfl)) H.2.2⟩⟩)
set_option maxRecDepth 100000 in
set_option maxHeartbeats 4000000 in
theorem v_Ho_inversesOf_1 (x0 : Nat) (x1 : Nat) (x2 : Nat) (x3 : Int32) (cc ss : Nat) (h : MH) (Rt : Value → MH → Prop) (H :
kd h x1 = 20 ∧
(x3.toInt < (Int32.ofNat (ln h x1)).toInt →
InB x3 (ln h x1) ∧
kd h x0 = 12 ∧
gd (cc + 0) 1 (
gd (ss + 0) 8 (
SpI k_Ho_inverseOf [.ref x0, .int (mi h x1 (ix x3))] h (fun r5 g3 =>
kd g3 x2 = 20 ∧
InB x3 (ln g3 x2) ∧
∀ g8 : MH, g8 = wi g3 x2 (ix x3) r5 →
WM k_Ho_inversesOf p_Ho_inversesOf_1 [.ref x0, .ref x1, .ref x2, .int (x3 + (1 : Int32))] [] g8 (cc + 0) (ss + 0) Rt)))) ∧
(¬ x3.toInt < (Int32.ofNat (ln h x1)).toInt →
gd cc 1 (
gd ss 8 (
Rt (.ref x2) h)))) : WM k_Ho_inversesOf p_Ho_inversesOf_1 [.ref x0, .ref x1, .ref x2, .int x3] [] h cc ss Rt := WM_at (hs := HH_Ho_inversesOf) G_Ho_inversesOf 23 6 rfl ⟨H.1, ⟨fun c9 => ⟨H.1, ⟨(H.2.1 c9).1, ⟨((H.2.1 c9).2).1, gd_mono (a := (cc + 0)) (b := 1) (fun q => gd_mono (a := (ss + 0)) (b := 8) (fun q => SpI.mono q (fun r5 g3 qg3 => ⟨qg3.1, ⟨qg3.2.1, (qg3.2.2 _ rfl)⟩⟩)) q) (((H.2.1 c9).2).2)⟩⟩⟩, H.2.2⟩⟩
set_option maxRecDepth 100000 in
set_option maxHeartbeats 4000000 in
theorem v_Ho_markAlike (x0 : Nat) (x1 : Nat) (x2 : Nat) (x3 : Int32) (h : MH) (Rt : Value → MH → Prop) (H :
kd h x0 = 12 ∧
kd h (mr h x0 11) = 20 ∧
InB x3 (ln h (mr h x0 11)) ∧
∀ g4 : MH, g4 = wi h (mr h x0 11) (ix x3) (1 : Int32) →
kd h (mr h x0 12) = 20 ∧
InB (0 : Int32) (ln h (mr h x0 12)) ∧
∀ g7 : MH, g7 = wi g4 (mr h x0 12) (ix (0 : Int32)) x3 →
WM k_Ho_markAlike p_Ho_markAlike_1 [.ref x0, .ref x1, .ref x2, Jv, .int (1 : Int32), .int (0 : Int32), Jv, Jv, Jv] [] g7 0 0 Rt) : Sp k_Ho_markAlike [.ref x0, .ref x1, .ref x2, .int x3] h Rt := Sp_intro2 (by decide) (by decide +kernel) rfl (Nat.le_of_ble_eq_true rfl) (WM_at (hs := HH_Ho_markAlike) G_Ho_markAlike 84 0 rfl ⟨H.1, ⟨H.2.1, ⟨H.2.2.1, ⟨H.1, ⟨(H.2.2.2 _ rfl).1, ⟨((H.2.2.2 _ rfl).2).1, (((H.2.2.2 _ rfl).2).2 _ rfl)⟩⟩⟩⟩⟩⟩)
set_option maxRecDepth 100000 in
set_option maxHeartbeats 4000000 in
theorem v_Ho_markAlike_1 (x0 : Nat) (x1 : Nat) (x2 : Nat) (x4 : Int32) (x5 : Int32) (h : MH) (Rt : Value → MH → Prop) (H :
(x5.toInt < x4.toInt →
(x5.toInt < (192 : Int32).toInt →
WM k_Ho_markAlike p_Ho_markAlike_2 [.ref x0, .ref x1, .ref x2, Jv, .int x4, .int x5, .int (0 : Int32), Jv, Jv] [] h 0 0 Rt) ∧
(¬ x5.toInt < (192 : Int32).toInt →
WM k_Ho_markAlike p_Ho_markAlike_3 [Jv, Jv, Jv, Jv, Jv, Jv, Jv, Jv, Jv] [] h 0 0 Rt)) ∧
(¬ x5.toInt < x4.toInt →
WM k_Ho_markAlike p_Ho_markAlike_3 [Jv, Jv, Jv, Jv, Jv, Jv, Jv, Jv, Jv] [] h 0 0 Rt)) : WM k_Ho_markAlike p_Ho_markAlike_1 [.ref x0, .ref x1, .ref x2, Jv, .int x4, .int x5, Jv, Jv, Jv] [] h 0 0 Rt := WM_at (hs := HH_Ho_markAlike) G_Ho_markAlike 84 14 rfl H
set_option maxRecDepth 100000 in
set_option maxHeartbeats 4000000 in
theorem v_Ho_markAlike_2 (x0 : Nat) (x1 : Nat) (x2 : Nat) (x4 : Int32) (x5 : Int32) (x6 : Int32) (h : MH) (Rt : Value → MH → Prop) (H :
kd h x1 = 4 ∧
kd h (mr h x1 1) = 20 ∧
(x6.toInt < (Int32.ofNat (ln h (mr h x1 1))).toInt →
kd h x2 = 20 ∧
(x6.toInt < (Int32.ofNat (ln h x2)).toInt →
InB x6 (ln h (mr h x1 1)) ∧
kd h (mr h x1 0) = 9 ∧
kd h x0 = 12 ∧
kd h (mr h x0 12) = 20 ∧
InB x5 (ln h (mr h x0 12)) ∧
kd h (mr h (mr h x1 0) 0) = 20 ∧
InB (mi h (mr h x0 12) (ix x5)) (ln h (mr h (mr h x1 0) 0)) ∧
SpI k_Ho_joined [.ref x0, .int (mi h (mr h x1 1) (ix x6)), .int (mi h (mr h (mr h x1 0) 0) (ix (mi h (mr h x0 12) (ix x5))))] h (fun r12 g11 =>
kd g11 x2 = 20 ∧
InB x6 (ln g11 x2) ∧
kd g11 x0 = 12 ∧
SpI k_Ho_joined [.ref x0, .int r12, .int (mi g11 x2 (ix x6))] g11 (fun r17 g15 =>
kd g15 x1 = 4 ∧
kd g15 (mr g15 x1 0) = 9 ∧
SpI k_Row_find [.ref (mr g15 x1 0), .int r17] g15 (fun r21 g19 =>
(r21 = (-1 : Int32) →
WM k_Ho_markAlike p_Ho_markAlike_2 [.ref x0, .ref x1, .ref x2, Jv, .int x4, .int x5, .int (x6 + (1 : Int32)), Jv, Jv] [] g19 0 0 Rt) ∧
(¬ r21 = (-1 : Int32) →
kd g19 x0 = 12 ∧
kd g19 (mr g19 x0 11) = 20 ∧
InB r21 (ln g19 (mr g19 x0 11)) ∧
((mi g19 (mr g19 x0 11) (ix r21)) = 0 →
(x4.toInt < (192 : Int32).toInt →
∀ g25 : MH, g25 = wi g19 (mr g19 x0 11) (ix r21) (1 : Int32) →
kd g19 (mr g19 x0 12) = 20 ∧
InB x4 (ln g19 (mr g19 x0 12)) ∧
∀ g28 : MH, g28 = wi g25 (mr g19 x0 12) (ix x4) r21 →
WM k_Ho_markAlike p_Ho_markAlike_2 [.ref x0, .ref x1, .ref x2, Jv, .int (x4 + (1 : Int32)), .int x5, .int (x6 + (1 : Int32)), Jv, Jv] [] g28 0 0 Rt) ∧
(¬ x4.toInt < (192 : Int32).toInt →
WM k_Ho_markAlike p_Ho_markAlike_2 [.ref x0, .ref x1, .ref x2, Jv, .int x4, .int x5, .int (x6 + (1 : Int32)), Jv, Jv] [] g19 0 0 Rt)) ∧
(¬ (mi g19 (mr g19 x0 11) (ix r21)) = 0 →
WM k_Ho_markAlike p_Ho_markAlike_2 [.ref x0, .ref x1, .ref x2, Jv, .int x4, .int x5, .int (x6 + (1 : Int32)), Jv, Jv] [] g19 0 0 Rt)))))) ∧
(¬ x6.toInt < (Int32.ofNat (ln h x2)).toInt →
WM k_Ho_markAlike p_Ho_markAlike_1 [.ref x0, .ref x1, .ref x2, Jv, .int x4, .int (x5 + (1 : Int32)), Jv, Jv, Jv] [] h 0 0 Rt)) ∧
(¬ x6.toInt < (Int32.ofNat (ln h (mr h x1 1))).toInt →
WM k_Ho_markAlike p_Ho_markAlike_1 [.ref x0, .ref x1, .ref x2, Jv, .int x4, .int (x5 + (1 : Int32)), Jv, Jv, Jv] [] h 0 0 Rt)) : WM k_Ho_markAlike p_Ho_markAlike_2 [.ref x0, .ref x1, .ref x2, Jv, .int x4, .int x5, .int x6, Jv, Jv] [] h 0 0 Rt := WM_at (hs := HH_Ho_markAlike) G_Ho_markAlike 84 22 rfl ⟨H.1, ⟨H.2.1, ⟨fun c29 => ⟨(H.2.2.1 c29).1, ⟨fun c30 => ⟨H.1, ⟨H.2.1, ⟨(((H.2.2.1 c29).2).1 c30).1, ⟨H.1, ⟨((((H.2.2.1 c29).2).1 c30).2).1, ⟨(((((H.2.2.1 c29).2).1 c30).2).2).1, ⟨((((((H.2.2.1 c29).2).1 c30).2).2).2).1, ⟨(((((((H.2.2.1 c29).2).1 c30).2).2).2).2).1, ⟨((((((((H.2.2.1 c29).2).1 c30).2).2).2).2).2).1, ⟨(((((((((H.2.2.1 c29).2).1 c30).2).2).2).2).2).2).1, ⟨(((((H.2.2.1 c29).2).1 c30).2).2).1, SpI.mono ((((((((((H.2.2.1 c29).2).1 c30).2).2).2).2).2).2).2) (fun r12 g11 qg11 => ⟨qg11.1, ⟨qg11.2.1, ⟨qg11.2.2.1, SpI.mono qg11.2.2.2 (fun r17 g15 qg15 => ⟨qg15.1, ⟨qg15.2.1, SpI.mono qg15.2.2 (fun r21 g19 qg19 => ⟨qg19.1, fun c31 => ⟨(qg19.2 c31).1, ⟨((qg19.2 c31).2).1, ⟨(((qg19.2 c31).2).2).1, ⟨fun c32 => ⟨fun c33 => ⟨(qg19.2 c31).1, ⟨((qg19.2 c31).2).1, ⟨(((qg19.2 c31).2).2).1, ⟨(qg19.2 c31).1, ⟨(((((((qg19.2 c31).2).2).2).1 c32).1 c33) _ rfl).1, ⟨((((((((qg19.2 c31).2).2).2).1 c32).1 c33) _ rfl).2).1, (((((((((qg19.2 c31).2).2).2).1 c32).1 c33) _ rfl).2).2 _ rfl)⟩⟩⟩⟩⟩⟩, (((((qg19.2 c31).2).2).2).1 c32).2⟩, ((((qg19.2 c31).2).2).2).2⟩⟩⟩⟩⟩)⟩⟩)⟩⟩⟩)⟩⟩⟩⟩⟩⟩⟩⟩⟩⟩⟩, ((H.2.2.1 c29).2).2⟩⟩, H.2.2.2⟩⟩⟩
set_option maxRecDepth 100000 in
set_option maxHeartbeats 4000000 in
theorem v_Ho_markAlike_3  (h : MH) (Rt : Value → MH → Prop) (H :
Rt .null h) : WM k_Ho_markAlike p_Ho_markAlike_3 [Jv, Jv, Jv, Jv, Jv, Jv, Jv, Jv, Jv] [] h 0 0 Rt := WM_at (hs := HH_Ho_markAlike) G_Ho_markAlike 84 82 rfl H
set_option maxRecDepth 100000 in
set_option maxHeartbeats 4000000 in
theorem v_Ho_countAlike (x0 : Nat) (x1 : Nat) (h : MH) (Rt : Value → MH → Prop) (H :
kd h x1 = 4 ∧
((mi h x1 2) = (-1 : Int32) →
kd h x0 = 12 ∧
SpV k_Arrays_fillaII [.ref (mr h x0 11), .int (0 : Int32)] h (fun g3 =>
kd g3 x1 = 4 ∧
kd g3 x0 = 12 ∧
SpR k_Ho_inversesOf [.ref x0, .ref (mr g3 x1 1)] g3 (fun r7 g5 =>
WM k_Ho_countAlike p_Ho_countAlike_1 [.ref x0, .ref x1, .ref r7, .int (0 : Int32), .int (0 : Int32)] [] g5 1 8 Rt))) ∧
(¬ (mi h x1 2) = (-1 : Int32) →
Rt (.int (mi h x1 2)) h)) : Sp k_Ho_countAlike [.ref x0, .ref x1] h Rt := Sp_intro2 (by decide) (by decide +kernel) rfl (Nat.le_of_ble_eq_true rfl) (WM_at (hs := HH_Ho_countAlike) G_Ho_countAlike 42 0 rfl ⟨H.1, ⟨H.2.1, fun c8 => ⟨H.1, (H.2.2 c8)⟩⟩⟩)
set_option maxRecDepth 100000 in
set_option maxHeartbeats 4000000 in
theorem v_Ho_countAlike_1 (x0 : Nat) (x1 : Nat) (x2 : Nat) (x3 : Int32) (x4 : Int32) (cc ss : Nat) (h : MH) (Rt : Value → MH → Prop) (H :
kd h x1 = 4 ∧
kd h (mr h x1 0) = 9 ∧
(x4.toInt < (mi h (mr h x1 0) 1).toInt →
kd h x0 = 12 ∧
kd h (mr h x0 11) = 20 ∧
InB x4 (ln h (mr h x0 11)) ∧
((mi h (mr h x0 11) (ix x4)) = 0 →
gd (cc + 0) 1 (
gd (ss + 0) 8 (
SpV k_Ho_markAlike [.ref x0, .ref x1, .ref x2, .int x4] h (fun g7 =>
WM k_Ho_countAlike p_Ho_countAlike_1 [.ref x0, .ref x1, .ref x2, .int (x3 + (1 : Int32)), .int (x4 + (1 : Int32))] [] g7 (cc + 0) (ss + 0) Rt)))) ∧
(¬ (mi h (mr h x0 11) (ix x4)) = 0 →
WM k_Ho_countAlike p_Ho_countAlike_1 [.ref x0, .ref x1, .ref x2, .int x3, .int (x4 + (1 : Int32))] [] h cc ss Rt)) ∧
(¬ x4.toInt < (mi h (mr h x1 0) 1).toInt →
∀ g3 : MH, g3 = wi h x1 2 x3 →
gd cc 1 (
gd ss 8 (
Rt (.int (mi g3 x1 2)) g3)))) : WM k_Ho_countAlike p_Ho_countAlike_1 [.ref x0, .ref x1, .ref x2, .int x3, .int x4] [] h cc ss Rt := WM_at (hs := HH_Ho_countAlike) G_Ho_countAlike 42 17 rfl ⟨H.1, ⟨H.2.1, ⟨fun c8 => ⟨(H.2.2.1 c8).1, ⟨((H.2.2.1 c8).2).1, ⟨(((H.2.2.1 c8).2).2).1, ⟨fun c9 => ⟨(H.2.2.1 c8).1, (((((H.2.2.1 c8).2).2).2).1 c9)⟩, ((((H.2.2.1 c8).2).2).2).2⟩⟩⟩⟩, fun c8 => ⟨H.1, ⟨H.1, ((H.2.2.2 c8) _ rfl)⟩⟩⟩⟩⟩
set_option maxRecDepth 100000 in
set_option maxHeartbeats 4000000 in
theorem v_Ho_beginWithSquares (x0 : Nat) (x1 : Nat) (x2 : Nat) (h : MH) (Rt : Value → MH → Prop) (H :
kd h x0 = 12 ∧
kd h (mr h x0 4) = 2 ∧
SpV k_Closure_begin [.ref (mr h x0 4)] h (fun g2 =>
WM k_Ho_beginWithSquares p_Ho_beginWithSquares_1 [.ref x0, .ref x1, .ref x2, .int (0 : Int32), Jv, Jv] [] g2 0 0 Rt)) : Sp k_Ho_beginWithSquares [.ref x0, .ref x1, .ref x2] h Rt := Sp_intro2 (by decide) (by decide +kernel) rfl (Nat.le_of_ble_eq_true rfl) (WM_at (hs := HH_Ho_beginWithSquares) G_Ho_beginWithSquares 66 0 rfl H)
set_option maxRecDepth 100000 in
set_option maxHeartbeats 4000000 in
theorem v_Ho_beginWithSquares_1 (x0 : Nat) (x1 : Nat) (x2 : Nat) (x3 : Int32) (h : MH) (Rt : Value → MH → Prop) (H :
kd h x1 = 4 ∧
kd h (mr h x1 0) = 9 ∧
(x3.toInt < (mi h (mr h x1 0) 1).toInt →
kd h x0 = 12 ∧
kd h (mr h (mr h x1 0) 0) = 20 ∧
InB x3 (ln h (mr h (mr h x1 0) 0)) ∧
SpI k_Ho_joined [.ref x0, .int (mi h (mr h (mr h x1 0) 0) (ix x3)), .int (mi h (mr h (mr h x1 0) 0) (ix x3))] h (fun r7 g6 =>
kd g6 (mr h x0 4) = 2 ∧
SpI k_Closure_take [.ref (mr h x0 4), .int r7] g6 (fun r10 g8 =>
WM k_Ho_beginWithSquares p_Ho_beginWithSquares_1 [.ref x0, .ref x1, .ref x2, .int (x3 + (1 : Int32)), Jv, Jv] [] g8 0 0 Rt))) ∧
(¬ x3.toInt < (mi h (mr h x1 0) 1).toInt →
WM k_Ho_beginWithSquares p_Ho_beginWithSquares_2 [.ref x0, .ref x1, .ref x2, .int (0 : Int32), .int (0 : Int32), Jv] [] h 0 0 Rt)) : WM k_Ho_beginWithSquares p_Ho_beginWithSquares_1 [.ref x0, .ref x1, .ref x2, .int x3, Jv, Jv] [] h 0 0 Rt := WM_at (hs := HH_Ho_beginWithSquares) G_Ho_beginWithSquares 66 5 rfl ⟨H.1, ⟨H.2.1, ⟨fun c11 => ⟨(H.2.2.1 c11).1, ⟨H.1, ⟨H.2.1, ⟨((H.2.2.1 c11).2).1, ⟨(((H.2.2.1 c11).2).2).1, ⟨H.1, ⟨H.2.1, ⟨((H.2.2.1 c11).2).1, ⟨(((H.2.2.1 c11).2).2).1, ⟨(H.2.2.1 c11).1, (((H.2.2.1 c11).2).2).2⟩⟩⟩⟩⟩⟩⟩⟩⟩⟩, H.2.2.2⟩⟩⟩
set_option maxRecDepth 100000 in
set_option maxHeartbeats 4000000 in
theorem v_Ho_beginWithSquares_2 (x0 : Nat) (x1 : Nat) (x2 : Nat) (x3 : Int32) (x4 : Int32) (h : MH) (Rt : Value → MH → Prop) (H :
kd h x0 = 12 ∧
kd h (mr h x0 4) = 2 ∧
kd h (mr h (mr h x0 4) 0) = 9 ∧
(x4.toInt < (mi h (mr h (mr h x0 4) 0) 1).toInt →
kd h x1 = 4 ∧
kd h (mr h (mr h (mr h x0 4) 0) 0) = 20 ∧
InB x4 (ln h (mr h (mr h (mr h x0 4) 0) 0)) ∧
kd h (mr h x1 0) = 9 ∧
SpI k_Row_find [.ref (mr h x1 0), .int (mi h (mr h (mr h (mr h x0 4) 0) 0) (ix x4))] h (fun r9 g7 =>
(r9 = (-1 : Int32) →
WM k_Ho_beginWithSquares p_Ho_beginWithSquares_2 [.ref x0, .ref x1, .ref x2, .int x3, .int (x4 + (1 : Int32)), Jv] [] g7 0 0 Rt) ∧
(¬ r9 = (-1 : Int32) →
kd g7 x2 = 20 ∧
InB r9 (ln g7 x2) ∧
∀ g12 : MH, g12 = wi g7 x2 (ix r9) (0 : Int32) →
kd g7 x0 = 12 ∧
kd g7 (mr g7 x0 12) = 20 ∧
InB x3 (ln g7 (mr g7 x0 12)) ∧
∀ g16 : MH, g16 = wi g12 (mr g7 x0 12) (ix x3) r9 →
WM k_Ho_beginWithSquares p_Ho_beginWithSquares_2 [.ref x0, .ref x1, .ref x2, .int (x3 + (1 : Int32)), .int (x4 + (1 : Int32)), Jv] [] g16 0 0 Rt))) ∧
(¬ x4.toInt < (mi h (mr h (mr h x0 4) 0) 1).toInt →
Rt (.int x3) h)) : WM k_Ho_beginWithSquares p_Ho_beginWithSquares_2 [.ref x0, .ref x1, .ref x2, .int x3, .int x4, Jv] [] h 0 0 Rt := WM_at (hs := HH_Ho_beginWithSquares) G_Ho_beginWithSquares 66 32 rfl ⟨H.1, ⟨H.2.1, ⟨H.2.2.1, ⟨fun c17 => ⟨(H.2.2.2.1 c17).1, ⟨H.1, ⟨H.2.1, ⟨H.2.2.1, ⟨((H.2.2.2.1 c17).2).1, ⟨(((H.2.2.2.1 c17).2).2).1, ⟨((((H.2.2.2.1 c17).2).2).2).1, SpI.mono (((((H.2.2.2.1 c17).2).2).2).2) (fun r9 g7 qg7 => ⟨qg7.1, fun c18 => ⟨(qg7.2 c18).1, ⟨((qg7.2 c18).2).1, ⟨(((qg7.2 c18).2).2 _ rfl).1, ⟨((((qg7.2 c18).2).2 _ rfl).2).1, ⟨(((((qg7.2 c18).2).2 _ rfl).2).2).1, ((((((qg7.2 c18).2).2 _ rfl).2).2).2 _ rfl)⟩⟩⟩⟩⟩⟩)⟩⟩⟩⟩⟩⟩⟩, H.2.2.2.2⟩⟩⟩⟩
set_option maxRecDepth 100000 in
set_option maxHeartbeats 4000000 in
theorem v_Ho_spread (x0 : Nat) (x1 : Nat) (x2 : Nat) (x3 : Int32) (x4 : Int32) (h : MH) (Rt : Value → MH → Prop) (H :
WM k_Ho_spread p_Ho_spread_1 [.ref x0, .ref x1, .ref x2, .int x3, .int x4, .int x4, .int (0 : Int32), Jv, Jv] [] h 0 0 Rt) : Sp k_Ho_spread [.ref x0, .ref x1, .ref x2, .int x3, .int x4] h Rt := Sp_intro2 (by decide) (by decide +kernel) rfl (Nat.le_of_ble_eq_true rfl) (WM_at (hs := HH_Ho_spread) G_Ho_spread 66 0 rfl H)
set_option maxRecDepth 100000 in
set_option maxHeartbeats 4000000 in
theorem v_Ho_spread_1 (x0 : Nat) (x1 : Nat) (x2 : Nat) (x3 : Int32) (x4 : Int32) (x5 : Int32) (x6 : Int32) (h : MH) (Rt : Value → MH → Prop) (H :
(x6.toInt < x4.toInt →
kd h x0 = 12 ∧
kd h (mr h x0 12) = 20 ∧
InB x6 (ln h (mr h x0 12)) ∧
kd h x2 = 20 ∧
InB (mi h (mr h x0 12) (ix x6)) (ln h x2) ∧
∀ g6 : MH, g6 = wi h x2 (ix (mi h (mr h x0 12) (ix x6))) ((2 : Int32) * (mi h x2 (ix (mi h (mr h x0 12) (ix x6))))) →
kd h x1 = 4 ∧
kd h (mr h x1 0) = 9 ∧
kd h (mr h (mr h x1 0) 0) = 20 ∧
InB x3 (ln h (mr h (mr h x1 0) 0)) ∧
InB (mi h (mr h x0 12) (ix x6)) (ln h (mr h (mr h x1 0) 0)) ∧
SpI k_Ho_joined [.ref x0, .int (mi g6 (mr h (mr h x1 0) 0) (ix x3)), .int (mi g6 (mr h (mr h x1 0) 0) (ix (mi h (mr h x0 12) (ix x6))))] g6 (fun r13 g12 =>
kd g12 (mr h x1 0) = 9 ∧
SpI k_Row_find [.ref (mr h x1 0), .int r13] g12 (fun r16 g14 =>
(r16 = (-1 : Int32) →
WM k_Ho_spread p_Ho_spread_1 [.ref x0, .ref x1, .ref x2, .int x3, .int x4, .int x5, .int (x6 + (1 : Int32)), Jv, Jv] [] g14 0 0 Rt) ∧
(¬ r16 = (-1 : Int32) →
kd g14 x2 = 20 ∧
InB r16 (ln g14 x2) ∧
((mi g14 x2 (ix r16)) = (-1 : Int32) →
(x5.toInt < (192 : Int32).toInt →
InB (mi h (mr h x0 12) (ix x6)) (ln g14 x2) ∧
∀ g20 : MH, g20 = wi g14 x2 (ix r16) ((mi g14 x2 (ix (mi h (mr h x0 12) (ix x6)))) + (1 : Int32)) →
kd g14 x0 = 12 ∧
kd g14 (mr g14 x0 12) = 20 ∧
InB x5 (ln g14 (mr g14 x0 12)) ∧
∀ g24 : MH, g24 = wi g20 (mr g14 x0 12) (ix x5) r16 →
WM k_Ho_spread p_Ho_spread_1 [.ref x0, .ref x1, .ref x2, .int x3, .int x4, .int (x5 + (1 : Int32)), .int (x6 + (1 : Int32)), Jv, Jv] [] g24 0 0 Rt) ∧
(¬ x5.toInt < (192 : Int32).toInt →
WM k_Ho_spread p_Ho_spread_1 [.ref x0, .ref x1, .ref x2, .int x3, .int x4, .int x5, .int (x6 + (1 : Int32)), Jv, Jv] [] g14 0 0 Rt)) ∧
(¬ (mi g14 x2 (ix r16)) = (-1 : Int32) →
WM k_Ho_spread p_Ho_spread_1 [.ref x0, .ref x1, .ref x2, .int x3, .int x4, .int x5, .int (x6 + (1 : Int32)), Jv, Jv] [] g14 0 0 Rt))))) ∧
(¬ x6.toInt < x4.toInt →
Rt (.int x5) h)) : WM k_Ho_spread p_Ho_spread_1 [.ref x0, .ref x1, .ref x2, .int x3, .int x4, .int x5, .int x6, Jv, Jv] [] h 0 0 Rt := WM_at (hs := HH_Ho_spread) G_Ho_spread 66 4 rfl ⟨fun c25 => ⟨(H.1 c25).1, ⟨((H.1 c25).2).1, ⟨(((H.1 c25).2).2).1, ⟨((((H.1 c25).2).2).2).1, ⟨(((((H.1 c25).2).2).2).2).1, ⟨((((H.1 c25).2).2).2).1, ⟨(((((H.1 c25).2).2).2).2).1, ⟨((((((H.1 c25).2).2).2).2).2 _ rfl).1, ⟨((((((H.1 c25).2).2).2).2).2 _ rfl).1, ⟨(((((((H.1 c25).2).2).2).2).2 _ rfl).2).1, ⟨((((((((H.1 c25).2).2).2).2).2 _ rfl).2).2).1, ⟨(((((((((H.1 c25).2).2).2).2).2 _ rfl).2).2).2).1, ⟨((((((H.1 c25).2).2).2).2).2 _ rfl).1, ⟨(((((((H.1 c25).2).2).2).2).2 _ rfl).2).1, ⟨((((((((H.1 c25).2).2).2).2).2 _ rfl).2).2).1, ⟨((((((((((H.1 c25).2).2).2).2).2 _ rfl).2).2).2).2).1, ⟨(H.1 c25).1, SpI.mono (((((((((((H.1 c25).2).2).2).2).2 _ rfl).2).2).2).2).2) (fun r13 g12 qg12 => ⟨qg12.1, SpI.mono qg12.2 (fun r16 g14 qg14 => ⟨qg14.1, fun c26 => ⟨(qg14.2 c26).1, ⟨((qg14.2 c26).2).1, ⟨fun c27 => ⟨fun c28 => ⟨(qg14.2 c26).1, ⟨(((((qg14.2 c26).2).2).1 c27).1 c28).1, ⟨(qg14.2 c26).1, ⟨((qg14.2 c26).2).1, ⟨((((((qg14.2 c26).2).2).1 c27).1 c28).2 _ rfl).1, ⟨(((((((qg14.2 c26).2).2).1 c27).1 c28).2 _ rfl).2).1, ⟨((((((((qg14.2 c26).2).2).1 c27).1 c28).2 _ rfl).2).2).1, (((((((((qg14.2 c26).2).2).1 c27).1 c28).2 _ rfl).2).2).2 _ rfl)⟩⟩⟩⟩⟩⟩⟩, ((((qg14.2 c26).2).2).1 c27).2⟩, (((qg14.2 c26).2).2).2⟩⟩⟩⟩)⟩)⟩⟩⟩⟩⟩⟩⟩⟩⟩⟩⟩⟩⟩⟩⟩⟩⟩, H.2⟩
set_option maxRecDepth 100000 in
set_option maxHeartbeats 4000000 in
theorem v_Ho_sidesOf (x0 : Nat) (x1 : Nat) (h : MH) (Rt : Value → MH → Prop) (H :
kd h x1 = 4 ∧
((mr h x1 3) = 0 →
kd h (mr h x1 0) = 9 ∧
0 ≤ (mi h (mr h x1 0) 1).toInt ∧
gd (0 + ix (mi h (mr h x1 0) 1)) 192 (
∀ g4 : MH, g4 = nw h 20 (ix (mi h (mr h x1 0) 1)) →
gd ((0 + ix (mi h (mr h x1 0) 1)) + 0) 192 (
SpV k_Arrays_fillaII [.ref (hn h), .int (-1 : Int32)] g4 (fun g5 =>
kd g5 x0 = 12 ∧
gd (((0 + ix (mi h (mr h x1 0) 1)) + 0) + 0) 192 (
SpI k_Ho_beginWithSquares [.ref x0, .ref x1, .ref (hn h)] g5 (fun r8 g6 =>
WM k_Ho_sidesOf p_Ho_sidesOf_1 [.ref x0, .ref x1, .ref (hn h), .int r8, .int (0 : Int32), .int (0 : Int32)] [] g6 1 (((0 + ix (mi h (mr h x1 0) 1)) + 0) + 0) Rt)))))) ∧
(¬ (mr h x1 3) = 0 →
Rt (.ref (mr h x1 3)) h)) : Sp k_Ho_sidesOf [.ref x0, .ref x1] h Rt := Sp_intro2 (by decide) (by decide +kernel) rfl (Nat.le_of_ble_eq_true rfl) (WM_at (hs := HH_Ho_sidesOf) G_Ho_sidesOf 52 0 rfl ⟨H.1, ⟨fun c9 => ⟨H.1, ⟨(H.2.1 c9).1, ⟨((H.2.1 c9).2).1, gd_mono (a := (0 + ix (mi h (mr h x1 0) 1))) (b := 192) (fun q => (q _ rfl)) (((H.2.1 c9).2).2)⟩⟩⟩, fun c9 => ⟨H.1, (H.2.2 c9)⟩⟩⟩)
set_option maxRecDepth 100000 in
set_option maxHeartbeats 4000000 in
theorem v_Ho_sidesOf_1 (x0 : Nat) (x1 : Nat) (x2 : Nat) (x3 : Int32) (x4 : Int32) (x5 : Int32) (cc ss : Nat) (h : MH) (Rt : Value → MH → Prop) (H :
kd h x1 = 4 ∧
kd h (mr h x1 0) = 9 ∧
(x5.toInt < (mi h (mr h x1 0) 1).toInt →
kd h x2 = 20 ∧
InB x5 (ln h x2) ∧
((mi h x2 (ix x5)) = (-1 : Int32) →
kd h x0 = 12 ∧
gd (cc + 0) 1 (
gd (ss + 0) 192 (
SpI k_Ho_spread [.ref x0, .ref x1, .ref x2, .int x5, .int x3] h (fun r9 g7 =>
WM k_Ho_sidesOf p_Ho_sidesOf_1 [.ref x0, .ref x1, .ref x2, .int r9, .int (x4 + (1 : Int32)), .int (x5 + (1 : Int32))] [] g7 (cc + 0) (ss + 0) Rt)))) ∧
(¬ (mi h x2 (ix x5)) = (-1 : Int32) →
WM k_Ho_sidesOf p_Ho_sidesOf_1 [.ref x0, .ref x1, .ref x2, .int x3, .int x4, .int (x5 + (1 : Int32))] [] h cc ss Rt)) ∧
(¬ x5.toInt < (mi h (mr h x1 0) 1).toInt →
∀ g3 : MH, g3 = wr h x1 3 x2 →
∀ g4 : MH, g4 = wi g3 x1 4 x4 →
gd cc 1 (
gd ss 192 (
Rt (.ref x2) g4)))) : WM k_Ho_sidesOf p_Ho_sidesOf_1 [.ref x0, .ref x1, .ref x2, .int x3, .int x4, .int x5] [] h cc ss Rt := WM_at (hs := HH_Ho_sidesOf) G_Ho_sidesOf 52 23 rfl ⟨H.1, ⟨H.2.1, ⟨H.2.2.1, fun c10 => ⟨H.1, ⟨H.1, (((H.2.2.2 c10) _ rfl) _ rfl)⟩⟩⟩⟩⟩
set_option maxRecDepth 100000 in
set_option maxHeartbeats 4000000 in
theorem v_Ho_countHalves (x0 : Nat) (x1 : Nat) (h : MH) (Rt : Value → MH → Prop) (H :
kd h x0 = 12 ∧
SpR k_Ho_sidesOf [.ref x0, .ref x1] h (fun r3 g1 =>
kd g1 x1 = 4 ∧
Rt (.int (((1 : Int32) <<< ((mi g1 x1 4) &&& (31 : Int32))) - (1 : Int32))) g1)) : Sp k_Ho_countHalves [.ref x0, .ref x1] h Rt := Sp_intro2 (by decide) (by decide +kernel) rfl (Nat.le_of_ble_eq_true rfl) (WM_at (hs := HH_Ho_countHalves) G_Ho_countHalves 12 0 rfl H)
set_option maxRecDepth 100000 in
set_option maxHeartbeats 4000000 in
theorem v_Ho_about (x0 : Nat) (x1 : Int32) (x2 : Int32) (h : MH) (Rt : Value → MH → Prop) (H :
kd h x0 = 12 ∧
SpR k_Ho_groupAt [.ref x0, .int x1] h (fun r3 g1 =>
(r3 = 0 →
Rt (.int (-1 : Int32)) g1) ∧
(¬ r3 = 0 →
(x2 = (0 : Int32) →
kd g1 r3 = 4 ∧
kd g1 (mr g1 r3 0) = 9 ∧
Rt (.int (mi g1 (mr g1 r3 0) 1)) g1) ∧
(¬ x2 = (0 : Int32) →
(x2 = (1 : Int32) →
kd g1 r3 = 4 ∧
SpI k_Group_countMatrices [.ref r3] g1 (fun r21 g19 =>
Rt (.int r21) g19)) ∧
(¬ x2 = (1 : Int32) →
(x2 = (2 : Int32) →
kd g1 r3 = 4 ∧
SpI k_Group_countCentrings [.ref r3] g1 (fun r18 g16 =>
Rt (.int r18) g16)) ∧
(¬ x2 = (2 : Int32) →
(x2 = (3 : Int32) →
kd g1 r3 = 4 ∧
SpI k_Group_centringLetter [.ref r3] g1 (fun r15 g13 =>
Rt (.int r15) g13)) ∧
(¬ x2 = (3 : Int32) →
(x2 = (4 : Int32) →
kd g1 x0 = 12 ∧
SpI k_Ho_classOf [.ref x0, .ref r3] g1 (fun r12 g10 =>
Rt (.int r12) g10)) ∧
(¬ x2 = (4 : Int32) →
(x2 = (5 : Int32) →
kd g1 x0 = 12 ∧
SpI k_Ho_countAlike [.ref x0, .ref r3] g1 (fun r9 g7 =>
Rt (.int r9) g7)) ∧
(¬ x2 = (5 : Int32) →
(x2 = (6 : Int32) →
kd g1 x0 = 12 ∧
SpI k_Ho_countHalves [.ref x0, .ref r3] g1 (fun r6 g4 =>
Rt (.int r6) g4)) ∧
(¬ x2 = (6 : Int32) →
Rt (.int (-1 : Int32)) g1)))))))))) : Sp k_Ho_about [.ref x0, .int x1, .int x2] h Rt := Sp_intro2 (by decide) (by decide +kernel) rfl (Nat.le_of_ble_eq_true rfl) (WM_at (hs := HH_Ho_about) G_Ho_about 38 0 rfl H)
set_option maxRecDepth 100000 in
set_option maxHeartbeats 4000000 in
theorem v_Ref_matrices (x0 : Nat) (x1 : Int32) (h : MH) (Rt : Value → MH → Prop) (H :
WM k_Ref_matrices p_Ref_matrices_1 [.ref x0, .int x1, .int (1 : Int32), .int (1 : Int32)] [] h 0 0 Rt) : Sp k_Ref_matrices [.ref x0, .int x1] h Rt := Sp_intro2 (by decide) (by decide +kernel) rfl (Nat.le_of_ble_eq_true rfl) (WM_at (hs := HH_Ref_matrices) G_Ref_matrices 44 0 rfl H)
set_option maxRecDepth 100000 in
set_option maxHeartbeats 4000000 in
theorem v_Ref_matrices_1 (x0 : Nat) (x1 : Int32) (x2 : Int32) (x3 : Int32) (h : MH) (Rt : Value → MH → Prop) (H :
kd h x0 = 13 ∧
kd h (mr h x0 16) = 20 ∧
InB x1 (ln h (mr h x0 16)) ∧
(x3.toInt < (mi h (mr h x0 16) (ix x1)).toInt →
kd h (mr h x0 15) = 20 ∧
InB (((192 : Int32) * x1) + x3) (ln h (mr h x0 15)) ∧
InB ((((192 : Int32) * x1) + x3) - (1 : Int32)) (ln h (mr h x0 15)) ∧
(((mi h (mr h x0 15) (ix (((192 : Int32) * x1) + x3))) / (13824 : Int32)) = ((mi h (mr h x0 15) (ix ((((192 : Int32) * x1) + x3) - (1 : Int32)))) / (13824 : Int32)) →
WM k_Ref_matrices p_Ref_matrices_1 [.ref x0, .int x1, .int (x2 + (0 : Int32)), .int (x3 + (1 : Int32))] [] h 0 0 Rt) ∧
(¬ ((mi h (mr h x0 15) (ix (((192 : Int32) * x1) + x3))) / (13824 : Int32)) = ((mi h (mr h x0 15) (ix ((((192 : Int32) * x1) + x3) - (1 : Int32)))) / (13824 : Int32)) →
WM k_Ref_matrices p_Ref_matrices_1 [.ref x0, .int x1, .int (x2 + (1 : Int32)), .int (x3 + (1 : Int32))] [] h 0 0 Rt)) ∧
(¬ x3.toInt < (mi h (mr h x0 16) (ix x1)).toInt →
Rt (.int x2) h)) : WM k_Ref_matrices p_Ref_matrices_1 [.ref x0, .int x1, .int x2, .int x3] [] h 0 0 Rt := WM_at (hs := HH_Ref_matrices) G_Ref_matrices 44 4 rfl ⟨H.1, ⟨H.2.1, ⟨H.2.2.1, ⟨fun c7 => ⟨H.1, ⟨(H.2.2.2.1 c7).1, ⟨((H.2.2.2.1 c7).2).1, ⟨(by decide), ⟨H.1, ⟨(H.2.2.2.1 c7).1, ⟨(((H.2.2.2.1 c7).2).2).1, ⟨(by decide), (((H.2.2.2.1 c7).2).2).2⟩⟩⟩⟩⟩⟩⟩⟩, H.2.2.2.2⟩⟩⟩⟩
set_option maxRecDepth 100000 in
set_option maxHeartbeats 4000000 in
theorem v_Ref_centrings (x0 : Nat) (x1 : Int32) (h : MH) (Rt : Value → MH → Prop) (H :
SpI k_Ref_identity [] h (fun r2 g1 =>
WM k_Ref_centrings p_Ref_centrings_1 [.ref x0, .int x1, .int (0 : Int32), .int (r2 / (13824 : Int32)), .int (0 : Int32)] [] g1 0 0 Rt)) : Sp k_Ref_centrings [.ref x0, .int x1] h Rt := Sp_intro2 (by decide) (by decide +kernel) rfl (Nat.le_of_ble_eq_true rfl) (WM_at (hs := HH_Ref_centrings) G_Ref_centrings 37 0 rfl (SpI.mono H (fun r2 g1 qg1 => ⟨(by decide), qg1⟩)))
set_option maxRecDepth 100000 in
set_option maxHeartbeats 4000000 in
theorem v_Ref_centrings_1 (x0 : Nat) (x1 : Int32) (x2 : Int32) (x3 : Int32) (x4 : Int32) (h : MH) (Rt : Value → MH → Prop) (H :
kd h x0 = 13 ∧
kd h (mr h x0 16) = 20 ∧
InB x1 (ln h (mr h x0 16)) ∧
(x4.toInt < (mi h (mr h x0 16) (ix x1)).toInt →
kd h (mr h x0 15) = 20 ∧
InB (((192 : Int32) * x1) + x4) (ln h (mr h x0 15)) ∧
(((mi h (mr h x0 15) (ix (((192 : Int32) * x1) + x4))) / (13824 : Int32)) = x3 →
WM k_Ref_centrings p_Ref_centrings_1 [.ref x0, .int x1, .int (x2 + (1 : Int32)), .int x3, .int (x4 + (1 : Int32))] [] h 0 0 Rt) ∧
(¬ ((mi h (mr h x0 15) (ix (((192 : Int32) * x1) + x4))) / (13824 : Int32)) = x3 →
WM k_Ref_centrings p_Ref_centrings_1 [.ref x0, .int x1, .int (x2 + (0 : Int32)), .int x3, .int (x4 + (1 : Int32))] [] h 0 0 Rt)) ∧
(¬ x4.toInt < (mi h (mr h x0 16) (ix x1)).toInt →
Rt (.int x2) h)) : WM k_Ref_centrings p_Ref_centrings_1 [.ref x0, .int x1, .int x2, .int x3, .int x4] [] h 0 0 Rt := WM_at (hs := HH_Ref_centrings) G_Ref_centrings 37 8 rfl ⟨H.1, ⟨H.2.1, ⟨H.2.2.1, ⟨fun c6 => ⟨H.1, ⟨(H.2.2.2.1 c6).1, ⟨((H.2.2.2.1 c6).2).1, ⟨(by decide), ((H.2.2.2.1 c6).2).2⟩⟩⟩⟩, H.2.2.2.2⟩⟩⟩⟩
set_option maxRecDepth 100000 in
set_option maxHeartbeats 4000000 in
theorem v_Ref_find (x0 : Nat) (x1 : Int32) (x2 : Int32) (h : MH) (Rt : Value → MH → Prop) (H :
kd h x0 = 13 ∧
kd h (mr h x0 16) = 20 ∧
InB x1 (ln h (mr h x0 16)) ∧
WM k_Ref_find p_Ref_find_1 [.ref x0, .int x1, .int x2, .int (0 : Int32), .int ((mi h (mr h x0 16) (ix x1)) - (1 : Int32)), Jv] [] h 0 0 Rt) : Sp k_Ref_find [.ref x0, .int x1, .int x2] h Rt := Sp_intro2 (by decide) (by decide +kernel) rfl (Nat.le_of_ble_eq_true rfl) (WM_at (hs := HH_Ref_find) G_Ref_find 51 0 rfl H)
set_option maxRecDepth 100000 in
set_option maxHeartbeats 4000000 in
theorem v_Ref_find_1 (x0 : Nat) (x1 : Int32) (x2 : Int32) (x3 : Int32) (x4 : Int32) (h : MH) (Rt : Value → MH → Prop) (H :
(x3.toInt < x4.toInt →
kd h x0 = 13 ∧
kd h (mr h x0 15) = 20 ∧
InB (((192 : Int32) * x1) + ((x3 + x4) / (2 : Int32))) (ln h (mr h x0 15)) ∧
((mi h (mr h x0 15) (ix (((192 : Int32) * x1) + ((x3 + x4) / (2 : Int32))))).toInt < x2.toInt →
WM k_Ref_find p_Ref_find_1 [.ref x0, .int x1, .int x2, .int (((x3 + x4) / (2 : Int32)) + (1 : Int32)), .int x4, Jv] [] h 0 0 Rt) ∧
(¬ (mi h (mr h x0 15) (ix (((192 : Int32) * x1) + ((x3 + x4) / (2 : Int32))))).toInt < x2.toInt →
WM k_Ref_find p_Ref_find_1 [.ref x0, .int x1, .int x2, .int x3, .int ((x3 + x4) / (2 : Int32)), Jv] [] h 0 0 Rt)) ∧
(¬ x3.toInt < x4.toInt →
kd h x0 = 13 ∧
kd h (mr h x0 15) = 20 ∧
InB (((192 : Int32) * x1) + x3) (ln h (mr h x0 15)) ∧
((mi h (mr h x0 15) (ix (((192 : Int32) * x1) + x3))) = x2 →
Rt (.int x3) h) ∧
(¬ (mi h (mr h x0 15) (ix (((192 : Int32) * x1) + x3))) = x2 →
Rt (.int (-1 : Int32)) h))) : WM k_Ref_find p_Ref_find_1 [.ref x0, .int x1, .int x2, .int x3, .int x4, Jv] [] h 0 0 Rt := WM_at (hs := HH_Ref_find) G_Ref_find 51 9 rfl ⟨fun c7 => ⟨(by decide), (H.1 c7)⟩, H.2⟩
set_option maxRecDepth 100000 in
set_option maxHeartbeats 4000000 in
theorem v_Ref_hasShift (x0 : Nat) (x1 : Int32) (x2 : Int32) (h : MH) (Rt : Value → MH → Prop) (H :
SpI k_Ref_identity [] h (fun r2 g1 =>
kd g1 x0 = 13 ∧
SpI k_Ref_find [.ref x0, .int x1, .int (r2 + x2)] g1 (fun r5 g3 =>
(r5 = (-1 : Int32) →
Rt (.int (0 : Int32)) g3) ∧
(¬ r5 = (-1 : Int32) →
Rt (.int (1 : Int32)) g3)))) : Sp k_Ref_hasShift [.ref x0, .int x1, .int x2] h Rt := Sp_intro2 (by decide) (by decide +kernel) rfl (Nat.le_of_ble_eq_true rfl) (WM_at (hs := HH_Ref_hasShift) G_Ref_hasShift 13 0 rfl (SpI.mono H (fun r2 g1 qg1 => ⟨qg1.1, SpI.mono qg1.2 (fun r5 g3 qg3 => ⟨fun c6 => ⟨(Or.inl rfl), (qg3.1 c6)⟩, fun c6 => ⟨(Or.inr rfl), (qg3.2 c6)⟩⟩)⟩)))
set_option maxRecDepth 100000 in
set_option maxHeartbeats 4000000 in
theorem v_Ref_letterOf (x0 : Nat) (x1 : Int32) (x2 : Int32) (h : MH) (Rt : Value → MH → Prop) (H :
kd h x0 = 13 ∧
SpI k_Ref_hasShift [.ref x0, .int x1, .int (300 : Int32)] h (fun r3 g1 =>
kd g1 x0 = 13 ∧
SpI k_Ref_hasShift [.ref x0, .int x1, .int (6924 : Int32)] g1 (fun r6 g4 =>
kd g4 x0 = 13 ∧
SpI k_Ref_hasShift [.ref x0, .int x1, .int (7200 : Int32)] g4 (fun r9 g7 =>
(x2 = (1 : Int32) →
Rt (.int (0 : Int32)) g7) ∧
(¬ x2 = (1 : Int32) →
(x2 = (2 : Int32) →
(r3 = 0 →
(r6 = 0 →
(r9 = 0 →
kd g7 x0 = 13 ∧
SpI k_Ref_hasShift [.ref x0, .int x1, .int (7212 : Int32)] g7 (fun r18 g16 =>
(r18 = 0 →
Rt (.int (8 : Int32)) g16) ∧
(¬ r18 = 0 →
Rt (.int (4 : Int32)) g16))) ∧
(¬ r9 = 0 →
Rt (.int (3 : Int32)) g7)) ∧
(¬ r6 = 0 →
Rt (.int (2 : Int32)) g7)) ∧
(¬ r3 = 0 →
Rt (.int (1 : Int32)) g7)) ∧
(¬ x2 = (2 : Int32) →
(x2 = (4 : Int32) →
(r3 = 0 →
Rt (.int (8 : Int32)) g7) ∧
(¬ r3 = 0 →
(r6 = 0 →
Rt (.int (8 : Int32)) g7) ∧
(¬ r6 = 0 →
(r9 = 0 →
Rt (.int (8 : Int32)) g7) ∧
(¬ r9 = 0 →
Rt (.int (5 : Int32)) g7)))) ∧
(¬ x2 = (4 : Int32) →
(x2 = (3 : Int32) →
kd g7 x0 = 13 ∧
SpI k_Ref_hasShift [.ref x0, .int x1, .int (5008 : Int32)] g7 (fun r12 g10 =>
(r12 = 0 →
WM k_Ref_letterOf p_Ref_letterOf_2 [.ref x0, .int x1, Jv, Jv, Jv, Jv] [] g10 0 0 Rt) ∧
(¬ r12 = 0 →
kd g10 x0 = 13 ∧
SpI k_Ref_hasShift [.ref x0, .int x1, .int (9416 : Int32)] g10 (fun r15 g13 =>
(r15 = 0 →
WM k_Ref_letterOf p_Ref_letterOf_2 [.ref x0, .int x1, Jv, Jv, Jv, Jv] [] g13 0 0 Rt) ∧
(¬ r15 = 0 →
Rt (.int (6 : Int32)) g13))))) ∧
(¬ x2 = (3 : Int32) →
WM k_Ref_letterOf p_Ref_letterOf_1 [Jv, Jv, Jv, Jv, Jv, Jv] [] g7 0 0 Rt)))))))) : Sp k_Ref_letterOf [.ref x0, .int x1, .int x2] h Rt := Sp_intro2 (by decide) (by decide +kernel) rfl (Nat.le_of_ble_eq_true rfl) (WM_at (hs := HH_Ref_letterOf) G_Ref_letterOf 89 0 rfl H)
set_option maxRecDepth 100000 in
set_option maxHeartbeats 4000000 in
theorem v_Ref_letterOf_1  (h : MH) (Rt : Value → MH → Prop) (H :
Rt (.int (8 : Int32)) h) : WM k_Ref_letterOf p_Ref_letterOf_1 [Jv, Jv, Jv, Jv, Jv, Jv] [] h 0 0 Rt := WM_at (hs := HH_Ref_letterOf) G_Ref_letterOf 89 60 rfl H
set_option maxRecDepth 100000 in
set_option maxHeartbeats 4000000 in
theorem v_Ref_letterOf_2 (x0 : Nat) (x1 : Int32) (h : MH) (Rt : Value → MH → Prop) (H :
kd h x0 = 13 ∧
SpI k_Ref_hasShift [.ref x0, .int x1, .int (5000 : Int32)] h (fun r3 g1 =>
(r3 = 0 →
Rt (.int (8 : Int32)) g1) ∧
(¬ r3 = 0 →
kd g1 x0 = 13 ∧
SpI k_Ref_hasShift [.ref x0, .int x1, .int (9424 : Int32)] g1 (fun r6 g4 =>
(r6 = 0 →
Rt (.int (8 : Int32)) g4) ∧
(¬ r6 = 0 →
Rt (.int (7 : Int32)) g4))))) : WM k_Ref_letterOf p_Ref_letterOf_2 [.ref x0, .int x1, Jv, Jv, Jv, Jv] [] h 0 0 Rt := WM_at (hs := HH_Ref_letterOf) G_Ref_letterOf 89 74 rfl H
set_option maxRecDepth 100000 in
set_option maxHeartbeats 4000000 in
theorem v_Ref_sortOf (x0 : Nat) (h : MH) (Rt : Value → MH → Prop) (H :
kd h x0 = 20 ∧
InB (0 : Int32) (ln h x0) ∧
InB (4 : Int32) (ln h x0) ∧
InB (8 : Int32) (ln h x0) ∧
SpI k_Ref_determinant [.ref x0] h (fun r6 g5 =>
((r6 * (((mi h x0 (ix (0 : Int32))) + (mi h x0 (ix (4 : Int32)))) + (mi h x0 (ix (8 : Int32))))) = (3 : Int32) →
Rt (.int (r6 * (1 : Int32))) g5) ∧
(¬ (r6 * (((mi h x0 (ix (0 : Int32))) + (mi h x0 (ix (4 : Int32)))) + (mi h x0 (ix (8 : Int32))))) = (3 : Int32) →
((r6 * (((mi h x0 (ix (0 : Int32))) + (mi h x0 (ix (4 : Int32)))) + (mi h x0 (ix (8 : Int32))))) = (-1 : Int32) →
Rt (.int (r6 * (2 : Int32))) g5) ∧
(¬ (r6 * (((mi h x0 (ix (0 : Int32))) + (mi h x0 (ix (4 : Int32)))) + (mi h x0 (ix (8 : Int32))))) = (-1 : Int32) →
((r6 * (((mi h x0 (ix (0 : Int32))) + (mi h x0 (ix (4 : Int32)))) + (mi h x0 (ix (8 : Int32))))) = 0 →
Rt (.int (r6 * (3 : Int32))) g5) ∧
(¬ (r6 * (((mi h x0 (ix (0 : Int32))) + (mi h x0 (ix (4 : Int32)))) + (mi h x0 (ix (8 : Int32))))) = 0 →
((r6 * (((mi h x0 (ix (0 : Int32))) + (mi h x0 (ix (4 : Int32)))) + (mi h x0 (ix (8 : Int32))))) = (1 : Int32) →
Rt (.int (r6 * (4 : Int32))) g5) ∧
(¬ (r6 * (((mi h x0 (ix (0 : Int32))) + (mi h x0 (ix (4 : Int32)))) + (mi h x0 (ix (8 : Int32))))) = (1 : Int32) →
((r6 * (((mi h x0 (ix (0 : Int32))) + (mi h x0 (ix (4 : Int32)))) + (mi h x0 (ix (8 : Int32))))) = (2 : Int32) →
Rt (.int (r6 * (6 : Int32))) g5) ∧
(¬ (r6 * (((mi h x0 (ix (0 : Int32))) + (mi h x0 (ix (4 : Int32)))) + (mi h x0 (ix (8 : Int32))))) = (2 : Int32) →
Rt (.int (r6 * (0 : Int32))) g5))))))) : Sp k_Ref_sortOf [.ref x0] h Rt := Sp_intro2 (by decide) (by decide +kernel) rfl (Nat.le_of_ble_eq_true rfl) (WM_at (hs := HH_Ref_sortOf) G_Ref_sortOf 50 0 rfl ⟨H.1, ⟨H.2.1, ⟨H.1, ⟨H.2.2.1, ⟨H.1, H.2.2.2⟩⟩⟩⟩⟩)
set_option maxRecDepth 100000 in
set_option maxHeartbeats 4000000 in
theorem v_Ref_classBy (x0 : Int32) (x1 : Int32) (h : MH) (Rt : Value → MH → Prop) (H :
(x0 = (0 : Int32) →
(x1 = 0 →
Rt (.int (1 : Int32)) h) ∧
(¬ x1 = 0 →
(x1 = (10000 : Int32) →
Rt (.int (2 : Int32)) h) ∧
(¬ x1 = (10000 : Int32) →
(x1 = (1000 : Int32) →
Rt (.int (4 : Int32)) h) ∧
(¬ x1 = (1000 : Int32) →
Rt (.int (0 : Int32)) h)))) ∧
(¬ x0 = (0 : Int32) →
(x0 = (200 : Int32) →
(x1 = 0 →
Rt (.int (16 : Int32)) h) ∧
(¬ x1 = 0 →
(x1 = (10200 : Int32) →
Rt (.int (17 : Int32)) h) ∧
(¬ x1 = (10200 : Int32) →
(x1 = (3000 : Int32) →
Rt (.int (19 : Int32)) h) ∧
(¬ x1 = (3000 : Int32) →
(x1 = (1002 : Int32) →
Rt (.int (22 : Int32)) h) ∧
(¬ x1 = (1002 : Int32) →
Rt (.int (0 : Int32)) h))))) ∧
(¬ x0 = (200 : Int32) →
(x0 = (1000 : Int32) →
(x1 = 0 →
Rt (.int (3 : Int32)) h) ∧
(¬ x1 = 0 →
(x1 = (11000 : Int32) →
Rt (.int (5 : Int32)) h) ∧
(¬ x1 = (11000 : Int32) →
(x1 = (2000 : Int32) →
Rt (.int (7 : Int32)) h) ∧
(¬ x1 = (2000 : Int32) →
(x1 = (20 : Int32) →
Rt (.int (10 : Int32)) h) ∧
(¬ x1 = (20 : Int32) →
Rt (.int (0 : Int32)) h))))) ∧
(¬ x0 = (1000 : Int32) →
(x0 = (1020 : Int32) →
(x1 = 0 →
Rt (.int (9 : Int32)) h) ∧
(¬ x1 = 0 →
(x1 = (11020 : Int32) →
WM k_Ref_classBy p_Ref_classBy_1 [Jv, Jv] [] h 0 0 Rt) ∧
(¬ x1 = (11020 : Int32) →
(x1 = (4000 : Int32) →
Rt (.int (13 : Int32)) h) ∧
(¬ x1 = (4000 : Int32) →
Rt (.int (0 : Int32)) h)))) ∧
(¬ x0 = (1020 : Int32) →
(x0 = (1202 : Int32) →
(x1 = 0 →
Rt (.int (21 : Int32)) h) ∧
(¬ x1 = 0 →
WM k_Ref_classBy p_Ref_classBy_2 [Jv, .int x1] [] h 0 0 Rt)) ∧
(¬ x0 = (1202 : Int32) →
(x0 = (3000 : Int32) →
(x1 = 0 →
Rt (.int (6 : Int32)) h) ∧
(¬ x1 = 0 →
(x1 = (13000 : Int32) →
Rt (.int (8 : Int32)) h) ∧
(¬ x1 = (13000 : Int32) →
(x1 = (2020 : Int32) →
Rt (.int (14 : Int32)) h) ∧
(¬ x1 = (2020 : Int32) →
Rt (.int (0 : Int32)) h)))) ∧
(¬ x0 = (3000 : Int32) →
(x0 = (3200 : Int32) →
(x1 = 0 →
Rt (.int (18 : Int32)) h) ∧
(¬ x1 = 0 →
(x1 = (13200 : Int32) →
Rt (.int (20 : Int32)) h) ∧
(¬ x1 = (13200 : Int32) →
(x1 = (4002 : Int32) →
Rt (.int (26 : Int32)) h) ∧
(¬ x1 = (4002 : Int32) →
Rt (.int (0 : Int32)) h)))) ∧
(¬ x0 = (3200 : Int32) →
(x0 = (3800 : Int32) →
(x1 = 0 →
Rt (.int (28 : Int32)) h) ∧
(¬ x1 = 0 →
(x1 = (13800 : Int32) →
Rt (.int (29 : Int32)) h) ∧
(¬ x1 = (13800 : Int32) →
(x1 = (6060 : Int32) →
Rt (.int (31 : Int32)) h) ∧
(¬ x1 = (6060 : Int32) →
Rt (.int (0 : Int32)) h)))) ∧
(¬ x0 = (3800 : Int32) →
(x0 = (5020 : Int32) →
(x1 = 0 →
Rt (.int (12 : Int32)) h) ∧
(¬ x1 = 0 →
(x1 = (15020 : Int32) →
Rt (.int (15 : Int32)) h) ∧
(¬ x1 = (15020 : Int32) →
Rt (.int (0 : Int32)) h))) ∧
(¬ x0 = (5020 : Int32) →
(x0 = (7202 : Int32) →
(x1 = 0 →
Rt (.int (24 : Int32)) h) ∧
(¬ x1 = 0 →
(x1 = (17202 : Int32) →
Rt (.int (27 : Int32)) h) ∧
(¬ x1 = (17202 : Int32) →
Rt (.int (0 : Int32)) h))) ∧
(¬ x0 = (7202 : Int32) →
(x0 = (9860 : Int32) →
(x1 = 0 →
Rt (.int (30 : Int32)) h) ∧
(¬ x1 = 0 →
(x1 = (19860 : Int32) →
Rt (.int (32 : Int32)) h) ∧
(¬ x1 = (19860 : Int32) →
Rt (.int (0 : Int32)) h))) ∧
(¬ x0 = (9860 : Int32) →
Rt (.int (0 : Int32)) h)))))))))))) : Sp k_Ref_classBy [.int x0, .int x1] h Rt := Sp_intro2 (by decide) (by decide +kernel) rfl (Nat.le_of_ble_eq_true rfl) (WM_at (hs := HH_Ref_classBy) G_Ref_classBy 176 0 rfl H)
set_option maxRecDepth 100000 in
set_option maxHeartbeats 4000000 in
theorem v_Ref_classBy_1  (h : MH) (Rt : Value → MH → Prop) (H :
Rt (.int (11 : Int32)) h) : WM k_Ref_classBy p_Ref_classBy_1 [Jv, Jv] [] h 0 0 Rt := WM_at (hs := HH_Ref_classBy) G_Ref_classBy 176 62 rfl H
set_option maxRecDepth 100000 in
set_option maxHeartbeats 4000000 in
theorem v_Ref_classBy_2 (x1 : Int32) (h : MH) (Rt : Value → MH → Prop) (H :
(x1 = (11202 : Int32) →
Rt (.int (23 : Int32)) h) ∧
(¬ x1 = (11202 : Int32) →
(x1 = (6000 : Int32) →
Rt (.int (25 : Int32)) h) ∧
(¬ x1 = (6000 : Int32) →
Rt (.int (0 : Int32)) h))) : WM k_Ref_classBy p_Ref_classBy_2 [Jv, .int x1] [] h 0 0 Rt := WM_at (hs := HH_Ref_classBy) G_Ref_classBy 176 123 rfl H
set_option maxRecDepth 100000 in
set_option maxHeartbeats 4000000 in
theorem v_Ref_classOf (x0 : Nat) (x1 : Nat) (x2 : Int32) (x3 : Int32) (h : MH) (Rt : Value → MH → Prop) (H :
WM k_Ref_classOf p_Ref_classOf_1 [.ref x0, .ref x1, .int x2, .int x3, .int (0 : Int32), Jv, Jv] [] h 0 0 Rt) : Sp k_Ref_classOf [.ref x0, .ref x1, .int x2, .int x3] h Rt := Sp_intro2 (by decide) (by decide +kernel) rfl (Nat.le_of_ble_eq_true rfl) (WM_at (hs := HH_Ref_classOf) G_Ref_classOf 125 0 rfl H)
set_option maxRecDepth 100000 in
set_option maxHeartbeats 4000000 in
theorem v_Ref_classOf_1 (x0 : Nat) (x1 : Nat) (x2 : Int32) (x3 : Int32) (x4 : Int32) (h : MH) (Rt : Value → MH → Prop) (H :
(x4.toInt < (13 : Int32).toInt →
kd h x0 = 13 ∧
kd h (mr h x0 28) = 20 ∧
InB x4 (ln h (mr h x0 28)) ∧
∀ g4 : MH, g4 = wi h (mr h x0 28) (ix x4) (0 : Int32) →
WM k_Ref_classOf p_Ref_classOf_1 [.ref x0, .ref x1, .int x2, .int x3, .int (x4 + (1 : Int32)), Jv, Jv] [] g4 0 0 Rt) ∧
(¬ x4.toInt < (13 : Int32).toInt →
WM k_Ref_classOf p_Ref_classOf_2 [.ref x0, .ref x1, .int x2, .int x3, .int (-1 : Int32), .int (0 : Int32), Jv] [] h 0 0 Rt)) : WM k_Ref_classOf p_Ref_classOf_1 [.ref x0, .ref x1, .int x2, .int x3, .int x4, Jv, Jv] [] h 0 0 Rt := WM_at (hs := HH_Ref_classOf) G_Ref_classOf 125 2 rfl ⟨fun c5 => ⟨(H.1 c5).1, ⟨((H.1 c5).2).1, ⟨(((H.1 c5).2).2).1, ((((H.1 c5).2).2).2 _ rfl)⟩⟩⟩, H.2⟩
set_option maxRecDepth 100000 in
set_option maxHeartbeats 4000000 in
theorem v_Ref_classOf_2 (x0 : Nat) (x1 : Nat) (x2 : Int32) (x3 : Int32) (x4 : Int32) (x5 : Int32) (h : MH) (Rt : Value → MH → Prop) (H :
(x5.toInt < x3.toInt →
kd h x1 = 20 ∧
InB (x2 + x5) (ln h x1) ∧
(((mi h x1 (ix (x2 + x5))) / (13824 : Int32)) = x4 →
WM k_Ref_classOf p_Ref_classOf_2 [.ref x0, .ref x1, .int x2, .int x3, .int x4, .int (x5 + (1 : Int32)), Jv] [] h 0 0 Rt) ∧
(¬ ((mi h x1 (ix (x2 + x5))) / (13824 : Int32)) = x4 →
kd h x0 = 13 ∧
SpV k_Ref_open [.int (mi h x1 (ix (x2 + x5))), .ref (mr h x0 3), .ref (mr h x0 4)] h (fun g10 =>
kd g10 x0 = 13 ∧
SpI k_Ref_sortOf [.ref (mr g10 x0 3)] g10 (fun r13 g12 =>
kd g12 (mr g10 x0 28) = 20 ∧
InB ((6 : Int32) + r13) (ln g12 (mr g10 x0 28)) ∧
∀ g16 : MH, g16 = wi g12 (mr g10 x0 28) (ix ((6 : Int32) + r13)) ((mi g12 (mr g10 x0 28) (ix ((6 : Int32) + r13))) + (1 : Int32)) →
WM k_Ref_classOf p_Ref_classOf_2 [.ref x0, .ref x1, .int x2, .int x3, .int ((mi h x1 (ix (x2 + x5))) / (13824 : Int32)), .int (x5 + (1 : Int32)), Jv] [] g16 0 0 Rt)))) ∧
(¬ x5.toInt < x3.toInt →
kd h x0 = 13 ∧
kd h (mr h x0 28) = 20 ∧
InB (8 : Int32) (ln h (mr h x0 28)) ∧
InB (9 : Int32) (ln h (mr h x0 28)) ∧
InB (10 : Int32) (ln h (mr h x0 28)) ∧
InB (12 : Int32) (ln h (mr h x0 28)) ∧
WM k_Ref_classOf p_Ref_classOf_3 [.ref x0, Jv, Jv, Jv, Jv, .int (((((1000 : Int32) * (mi h (mr h x0 28) (ix (8 : Int32)))) + ((100 : Int32) * (mi h (mr h x0 28) (ix (9 : Int32))))) + ((10 : Int32) * (mi h (mr h x0 28) (ix (10 : Int32))))) + (mi h (mr h x0 28) (ix (12 : Int32)))), Jv] [] h 0 0 Rt)) : WM k_Ref_classOf p_Ref_classOf_2 [.ref x0, .ref x1, .int x2, .int x3, .int x4, .int x5, Jv] [] h 0 0 Rt := WM_at (hs := HH_Ref_classOf) G_Ref_classOf 125 16 rfl ⟨fun c17 => ⟨(H.1 c17).1, ⟨((H.1 c17).2).1, ⟨(by decide), ⟨(((H.1 c17).2).2).1, fun c18 => ⟨(H.1 c17).1, ⟨((H.1 c17).2).1, ⟨(by decide), ⟨(H.1 c17).1, ⟨((H.1 c17).2).1, ⟨((((H.1 c17).2).2).2 c18).1, ⟨((((H.1 c17).2).2).2 c18).1, SpV.mono (((((H.1 c17).2).2).2 c18).2) (fun g10 qg10 => ⟨qg10.1, ⟨qg10.1, SpI.mono qg10.2 (fun r13 g12 qg12 => ⟨qg12.1, ⟨qg12.2.1, ⟨qg12.1, ⟨qg12.2.1, (qg12.2.2 _ rfl)⟩⟩⟩⟩)⟩⟩)⟩⟩⟩⟩⟩⟩⟩⟩⟩⟩⟩, fun c17 => ⟨(H.2 c17).1, ⟨((H.2 c17).2).1, ⟨(((H.2 c17).2).2).1, ⟨(H.2 c17).1, ⟨((H.2 c17).2).1, ⟨((((H.2 c17).2).2).2).1, ⟨(H.2 c17).1, ⟨((H.2 c17).2).1, ⟨(((((H.2 c17).2).2).2).2).1, ⟨(H.2 c17).1, ⟨((H.2 c17).2).1, (((((H.2 c17).2).2).2).2).2⟩⟩⟩⟩⟩⟩⟩⟩⟩⟩⟩⟩
set_option maxRecDepth 100000 in
set_option maxHeartbeats 4000000 in
theorem v_Ref_classOf_3 (x0 : Nat) (x5 : Int32) (h : MH) (Rt : Value → MH → Prop) (H :
kd h x0 = 13 ∧
kd h (mr h x0 28) = 20 ∧
InB (5 : Int32) (ln h (mr h x0 28)) ∧
InB (4 : Int32) (ln h (mr h x0 28)) ∧
InB (3 : Int32) (ln h (mr h x0 28)) ∧
InB (2 : Int32) (ln h (mr h x0 28)) ∧
InB (0 : Int32) (ln h (mr h x0 28)) ∧
SpI k_Ref_classBy [.int x5, .int ((((((10000 : Int32) * (mi h (mr h x0 28) (ix (5 : Int32)))) + ((1000 : Int32) * (mi h (mr h x0 28) (ix (4 : Int32))))) + ((100 : Int32) * (mi h (mr h x0 28) (ix (3 : Int32))))) + ((10 : Int32) * (mi h (mr h x0 28) (ix (2 : Int32))))) + (mi h (mr h x0 28) (ix (0 : Int32))))] h (fun r9 g8 =>
Rt (.int r9) g8)) : WM k_Ref_classOf p_Ref_classOf_3 [.ref x0, Jv, Jv, Jv, Jv, .int x5, Jv] [] h 0 0 Rt := WM_at (hs := HH_Ref_classOf) G_Ref_classOf 125 87 rfl ⟨H.1, ⟨H.2.1, ⟨H.2.2.1, ⟨H.1, ⟨H.2.1, ⟨H.2.2.2.1, ⟨H.1, ⟨H.2.1, ⟨H.2.2.2.2.1, ⟨H.1, ⟨H.2.1, ⟨H.2.2.2.2.2.1, ⟨H.1, ⟨H.2.1, H.2.2.2.2.2.2⟩⟩⟩⟩⟩⟩⟩⟩⟩⟩⟩⟩⟩⟩
set_option maxRecDepth 100000 in
set_option maxHeartbeats 4000000 in
theorem v_Ref_countAlike (x0 : Nat) (x1 : Int32) (h : MH) (Rt : Value → MH → Prop) (H :
WM k_Ref_countAlike p_Ref_countAlike_1 [.ref x0, .int x1, .int (0 : Int32), Jv, Jv, Jv, Jv] [] h 0 0 Rt) : Sp k_Ref_countAlike [.ref x0, .int x1] h Rt := Sp_intro2 (by decide) (by decide +kernel) rfl (Nat.le_of_ble_eq_true rfl) (WM_at (hs := HH_Ref_countAlike) G_Ref_countAlike 69 0 rfl H)
set_option maxRecDepth 100000 in
set_option maxHeartbeats 4000000 in
theorem v_Ref_countAlike_1 (x0 : Nat) (x1 : Int32) (x2 : Int32) (h : MH) (Rt : Value → MH → Prop) (H :
(x2.toInt < x1.toInt →
kd h x0 = 13 ∧
kd h (mr h x0 25) = 20 ∧
InB x2 (ln h (mr h x0 25)) ∧
∀ g4 : MH, g4 = wi h (mr h x0 25) (ix x2) (0 : Int32) →
WM k_Ref_countAlike p_Ref_countAlike_1 [.ref x0, .int x1, .int (x2 + (1 : Int32)), Jv, Jv, Jv, Jv] [] g4 0 0 Rt) ∧
(¬ x2.toInt < x1.toInt →
WM k_Ref_countAlike p_Ref_countAlike_2 [.ref x0, .int x1, .int (0 : Int32), .int (0 : Int32), Jv, Jv, Jv] [] h 0 0 Rt)) : WM k_Ref_countAlike p_Ref_countAlike_1 [.ref x0, .int x1, .int x2, Jv, Jv, Jv, Jv] [] h 0 0 Rt := WM_at (hs := HH_Ref_countAlike) G_Ref_countAlike 69 2 rfl ⟨fun c5 => ⟨(H.1 c5).1, ⟨((H.1 c5).2).1, ⟨(((H.1 c5).2).2).1, ((((H.1 c5).2).2).2 _ rfl)⟩⟩⟩, H.2⟩
set_option maxRecDepth 100000 in
set_option maxHeartbeats 4000000 in
theorem v_Ref_countAlike_2 (x0 : Nat) (x1 : Int32) (x2 : Int32) (x3 : Int32) (h : MH) (Rt : Value → MH → Prop) (H :
(x3.toInt < x1.toInt →
kd h x0 = 13 ∧
kd h (mr h x0 25) = 20 ∧
InB x3 (ln h (mr h x0 25)) ∧
((mi h (mr h x0 25) (ix x3)) = 0 →
WM k_Ref_countAlike p_Ref_countAlike_3 [.ref x0, .int x1, .int (x2 + (1 : Int32)), .int x3, .int (0 : Int32), Jv, Jv] [] h 0 0 Rt) ∧
(¬ (mi h (mr h x0 25) (ix x3)) = 0 →
WM k_Ref_countAlike p_Ref_countAlike_2 [.ref x0, .int x1, .int x2, .int (x3 + (1 : Int32)), Jv, Jv, Jv] [] h 0 0 Rt)) ∧
(¬ x3.toInt < x1.toInt →
Rt (.int x2) h)) : WM k_Ref_countAlike p_Ref_countAlike_2 [.ref x0, .int x1, .int x2, .int x3, Jv, Jv, Jv] [] h 0 0 Rt := WM_at (hs := HH_Ref_countAlike) G_Ref_countAlike 69 16 rfl H
set_option maxRecDepth 100000 in
set_option maxHeartbeats 4000000 in
theorem v_Ref_countAlike_3 (x0 : Nat) (x1 : Int32) (x2 : Int32) (x3 : Int32) (x4 : Int32) (h : MH) (Rt : Value → MH → Prop) (H :
(x4.toInt < x1.toInt →
kd h x0 = 13 ∧
kd h (mr h x0 24) = 20 ∧
InB (((192 : Int32) * x4) + x3) (ln h (mr h x0 24)) ∧
WM k_Ref_countAlike p_Ref_countAlike_4 [.ref x0, .int x1, .int x2, .int x3, .int x4, .int (mi h (mr h x0 24) (ix (((192 : Int32) * x4) + x3))), .int (0 : Int32)] [] h 0 0 Rt) ∧
(¬ x4.toInt < x1.toInt →
WM k_Ref_countAlike p_Ref_countAlike_2 [.ref x0, .int x1, .int x2, .int (x3 + (1 : Int32)), Jv, Jv, Jv] [] h 0 0 Rt)) : WM k_Ref_countAlike p_Ref_countAlike_3 [.ref x0, .int x1, .int x2, .int x3, .int x4, Jv, Jv] [] h 0 0 Rt := WM_at (hs := HH_Ref_countAlike) G_Ref_countAlike 69 28 rfl H
set_option maxRecDepth 100000 in
set_option maxHeartbeats 4000000 in
theorem v_Ref_countAlike_4 (x0 : Nat) (x1 : Int32) (x2 : Int32) (x3 : Int32) (x4 : Int32) (x5 : Int32) (x6 : Int32) (h : MH) (Rt : Value → MH → Prop) (H :
(x6.toInt < x1.toInt →
kd h x0 = 13 ∧
kd h (mr h x0 24) = 20 ∧
InB (((192 : Int32) * x6) + x4) (ln h (mr h x0 24)) ∧
((mi h (mr h x0 24) (ix (((192 : Int32) * x6) + x4))) = x5 →
kd h (mr h x0 25) = 20 ∧
InB x6 (ln h (mr h x0 25)) ∧
∀ g6 : MH, g6 = wi h (mr h x0 25) (ix x6) (1 : Int32) →
WM k_Ref_countAlike p_Ref_countAlike_4 [.ref x0, .int x1, .int x2, .int x3, .int x4, .int x5, .int (x6 + (1 : Int32))] [] g6 0 0 Rt) ∧
(¬ (mi h (mr h x0 24) (ix (((192 : Int32) * x6) + x4))) = x5 →
WM k_Ref_countAlike p_Ref_countAlike_4 [.ref x0, .int x1, .int x2, .int x3, .int x4, .int x5, .int (x6 + (1 : Int32))] [] h 0 0 Rt)) ∧
(¬ x6.toInt < x1.toInt →
WM k_Ref_countAlike p_Ref_countAlike_3 [.ref x0, .int x1, .int x2, .int x3, .int (x4 + (1 : Int32)), Jv, Jv] [] h 0 0 Rt)) : WM k_Ref_countAlike p_Ref_countAlike_4 [.ref x0, .int x1, .int x2, .int x3, .int x4, .int x5, .int x6] [] h 0 0 Rt := WM_at (hs := HH_Ref_countAlike) G_Ref_countAlike 69 42 rfl ⟨fun c7 => ⟨(H.1 c7).1, ⟨((H.1 c7).2).1, ⟨(((H.1 c7).2).2).1, ⟨fun c8 => ⟨(H.1 c7).1, ⟨(((((H.1 c7).2).2).2).1 c8).1, ⟨((((((H.1 c7).2).2).2).1 c8).2).1, (((((((H.1 c7).2).2).2).1 c8).2).2 _ rfl)⟩⟩⟩, ((((H.1 c7).2).2).2).2⟩⟩⟩⟩, H.2⟩
set_option maxRecDepth 100000 in
set_option maxHeartbeats 4000000 in
theorem v_Ref_made (x0 : Nat) (x1 : Int32) (x2 : Int32) (h : MH) (Rt : Value → MH → Prop) (H :
kd h x0 = 13 ∧
kd h (mr h x0 27) = 20 ∧
InB (0 : Int32) (ln h (mr h x0 27)) ∧
∀ g4 : MH, g4 = wi h (mr h x0 27) (ix (0 : Int32)) x1 →
kd h (mr h x0 25) = 20 ∧
InB x1 (ln h (mr h x0 25)) ∧
∀ g7 : MH, g7 = wi g4 (mr h x0 25) (ix x1) (1 : Int32) →
WM k_Ref_made p_Ref_made_1 [.ref x0, Jv, .int x2, .int (1 : Int32), .int (0 : Int32), Jv, Jv] [] g7 0 0 Rt) : Sp k_Ref_made [.ref x0, .int x1, .int x2] h Rt := Sp_intro2 (by decide) (by decide +kernel) rfl (Nat.le_of_ble_eq_true rfl) (WM_at (hs := HH_Ref_made) G_Ref_made 61 0 rfl ⟨H.1, ⟨H.2.1, ⟨H.2.2.1, ⟨H.1, ⟨(H.2.2.2 _ rfl).1, ⟨((H.2.2.2 _ rfl).2).1, (((H.2.2.2 _ rfl).2).2 _ rfl)⟩⟩⟩⟩⟩⟩)
set_option maxRecDepth 100000 in
set_option maxHeartbeats 4000000 in
theorem v_Ref_made_1 (x0 : Nat) (x2 : Int32) (x3 : Int32) (x4 : Int32) (h : MH) (Rt : Value → MH → Prop) (H :
(x4.toInt < x3.toInt →
WM k_Ref_made p_Ref_made_2 [.ref x0, Jv, .int x2, .int x3, .int x4, .int (0 : Int32), Jv] [] h 0 0 Rt) ∧
(¬ x4.toInt < x3.toInt →
Rt (.int x3) h)) : WM k_Ref_made p_Ref_made_1 [.ref x0, Jv, .int x2, .int x3, .int x4, Jv, Jv] [] h 0 0 Rt := WM_at (hs := HH_Ref_made) G_Ref_made 61 14 rfl H
set_option maxRecDepth 100000 in
set_option maxHeartbeats 4000000 in
theorem v_Ref_made_2 (x0 : Nat) (x2 : Int32) (x3 : Int32) (x4 : Int32) (x5 : Int32) (h : MH) (Rt : Value → MH → Prop) (H :
(x5.toInt < x2.toInt →
kd h x0 = 13 ∧
kd h (mr h x0 27) = 20 ∧
InB x4 (ln h (mr h x0 27)) ∧
kd h (mr h x0 26) = 20 ∧
InB x5 (ln h (mr h x0 26)) ∧
kd h (mr h x0 24) = 20 ∧
InB (((192 : Int32) * (mi h (mr h x0 27) (ix x4))) + (mi h (mr h x0 26) (ix x5))) (ln h (mr h x0 24)) ∧
kd h (mr h x0 25) = 20 ∧
InB (mi h (mr h x0 24) (ix (((192 : Int32) * (mi h (mr h x0 27) (ix x4))) + (mi h (mr h x0 26) (ix x5))))) (ln h (mr h x0 25)) ∧
((mi h (mr h x0 25) (ix (mi h (mr h x0 24) (ix (((192 : Int32) * (mi h (mr h x0 27) (ix x4))) + (mi h (mr h x0 26) (ix x5))))))) = 0 →
∀ g10 : MH, g10 = wi h (mr h x0 25) (ix (mi h (mr h x0 24) (ix (((192 : Int32) * (mi h (mr h x0 27) (ix x4))) + (mi h (mr h x0 26) (ix x5)))))) (1 : Int32) →
InB x3 (ln h (mr h x0 27)) ∧
∀ g12 : MH, g12 = wi g10 (mr h x0 27) (ix x3) (mi h (mr h x0 24) (ix (((192 : Int32) * (mi h (mr h x0 27) (ix x4))) + (mi h (mr h x0 26) (ix x5))))) →
WM k_Ref_made p_Ref_made_2 [.ref x0, Jv, .int x2, .int (x3 + (1 : Int32)), .int x4, .int (x5 + (1 : Int32)), Jv] [] g12 0 0 Rt) ∧
(¬ (mi h (mr h x0 25) (ix (mi h (mr h x0 24) (ix (((192 : Int32) * (mi h (mr h x0 27) (ix x4))) + (mi h (mr h x0 26) (ix x5))))))) = 0 →
WM k_Ref_made p_Ref_made_2 [.ref x0, Jv, .int x2, .int x3, .int x4, .int (x5 + (1 : Int32)), Jv] [] h 0 0 Rt)) ∧
(¬ x5.toInt < x2.toInt →
WM k_Ref_made p_Ref_made_1 [.ref x0, Jv, .int x2, .int x3, .int (x4 + (1 : Int32)), Jv, Jv] [] h 0 0 Rt)) : WM k_Ref_made p_Ref_made_2 [.ref x0, Jv, .int x2, .int x3, .int x4, .int x5, Jv] [] h 0 0 Rt := WM_at (hs := HH_Ref_made) G_Ref_made 61 19 rfl ⟨fun c13 => ⟨(H.1 c13).1, ⟨(H.1 c13).1, ⟨((H.1 c13).2).1, ⟨(((H.1 c13).2).2).1, ⟨(H.1 c13).1, ⟨((((H.1 c13).2).2).2).1, ⟨(((((H.1 c13).2).2).2).2).1, ⟨((((((H.1 c13).2).2).2).2).2).1, ⟨(((((((H.1 c13).2).2).2).2).2).2).1, ⟨(H.1 c13).1, ⟨((((((((H.1 c13).2).2).2).2).2).2).2).1, ⟨(((((((((H.1 c13).2).2).2).2).2).2).2).2).1, ⟨fun c14 => ⟨(H.1 c13).1, ⟨((((((((H.1 c13).2).2).2).2).2).2).2).1, ⟨(((((((((H.1 c13).2).2).2).2).2).2).2).2).1, ⟨(H.1 c13).1, ⟨((H.1 c13).2).1, ⟨((((((((((((H.1 c13).2).2).2).2).2).2).2).2).2).1 c14) _ rfl).1, (((((((((((((H.1 c13).2).2).2).2).2).2).2).2).2).1 c14) _ rfl).2 _ rfl)⟩⟩⟩⟩⟩⟩, ((((((((((H.1 c13).2).2).2).2).2).2).2).2).2).2⟩⟩⟩⟩⟩⟩⟩⟩⟩⟩⟩⟩⟩, H.2⟩
set_option maxRecDepth 100000 in
set_option maxHeartbeats 4000000 in
theorem v_Ref_isHalf (x0 : Nat) (x1 : Int32) (x2 : Int32) (x3 : Int32) (x4 : Int32) (h : MH) (Rt : Value → MH → Prop) (H :
WM k_Ref_isHalf p_Ref_isHalf_1 [.ref x0, .int x1, .int x2, .int x3, .int x4, .int (0 : Int32), Jv, Jv, Jv, Jv] [] h 0 0 Rt) : Sp k_Ref_isHalf [.ref x0, .int x1, .int x2, .int x3, .int x4] h Rt := Sp_intro2 (by decide) (by decide +kernel) rfl (Nat.le_of_ble_eq_true rfl) (WM_at (hs := HH_Ref_isHalf) G_Ref_isHalf 105 0 rfl H)
set_option maxRecDepth 100000 in
set_option maxHeartbeats 4000000 in
theorem v_Ref_isHalf_1 (x0 : Nat) (x1 : Int32) (x2 : Int32) (x3 : Int32) (x4 : Int32) (x5 : Int32) (h : MH) (Rt : Value → MH → Prop) (H :
(x5.toInt < x2.toInt →
kd h x0 = 13 ∧
kd h (mr h x0 25) = 20 ∧
InB x5 (ln h (mr h x0 25)) ∧
∀ g11 : MH, g11 = wi h (mr h x0 25) (ix x5) (0 : Int32) →
WM k_Ref_isHalf p_Ref_isHalf_1 [.ref x0, .int x1, .int x2, .int x3, .int x4, .int (x5 + (1 : Int32)), Jv, Jv, Jv, Jv] [] g11 0 0 Rt) ∧
(¬ x5.toInt < x2.toInt →
kd h x0 = 13 ∧
kd h (mr h x0 25) = 20 ∧
InB x1 (ln h (mr h x0 25)) ∧
∀ g4 : MH, g4 = wi h (mr h x0 25) (ix x1) (1 : Int32) →
kd h (mr h x0 27) = 20 ∧
InB (0 : Int32) (ln h (mr h x0 27)) ∧
∀ g7 : MH, g7 = wi g4 (mr h x0 27) (ix (0 : Int32)) x1 →
WM k_Ref_isHalf p_Ref_isHalf_2 [.ref x0, Jv, Jv, .int x3, .int x4, .int (1 : Int32), .int (0 : Int32), Jv, Jv, Jv] [] g7 0 0 Rt)) : WM k_Ref_isHalf p_Ref_isHalf_1 [.ref x0, .int x1, .int x2, .int x3, .int x4, .int x5, Jv, Jv, Jv, Jv] [] h 0 0 Rt := WM_at (hs := HH_Ref_isHalf) G_Ref_isHalf 105 2 rfl ⟨fun c12 => ⟨(H.1 c12).1, ⟨((H.1 c12).2).1, ⟨(((H.1 c12).2).2).1, ((((H.1 c12).2).2).2 _ rfl)⟩⟩⟩, fun c12 => ⟨(H.2 c12).1, ⟨((H.2 c12).2).1, ⟨(((H.2 c12).2).2).1, ⟨(H.2 c12).1, ⟨((((H.2 c12).2).2).2 _ rfl).1, ⟨(((((H.2 c12).2).2).2 _ rfl).2).1, ((((((H.2 c12).2).2).2 _ rfl).2).2 _ rfl)⟩⟩⟩⟩⟩⟩⟩
set_option maxRecDepth 100000 in
set_option maxHeartbeats 4000000 in
theorem v_Ref_isHalf_2 (x0 : Nat) (x3 : Int32) (x4 : Int32) (x5 : Int32) (x6 : Int32) (h : MH) (Rt : Value → MH → Prop) (H :
(x6.toInt < x5.toInt →
WM k_Ref_isHalf p_Ref_isHalf_3 [.ref x0, Jv, Jv, .int x3, .int x4, .int x5, .int x6, .int (0 : Int32), Jv, Jv] [] h 0 0 Rt) ∧
(¬ x6.toInt < x5.toInt →
Rt (.int (1 : Int32)) h)) : WM k_Ref_isHalf p_Ref_isHalf_2 [.ref x0, Jv, Jv, .int x3, .int x4, .int x5, .int x6, Jv, Jv, Jv] [] h 0 0 Rt := WM_at (hs := HH_Ref_isHalf) G_Ref_isHalf 105 26 rfl ⟨H.1, fun c1 => ⟨(Or.inr rfl), (H.2 c1)⟩⟩
set_option maxRecDepth 100000 in
set_option maxHeartbeats 4000000 in
theorem v_Ref_isHalf_3 (x0 : Nat) (x3 : Int32) (x4 : Int32) (x5 : Int32) (x6 : Int32) (x7 : Int32) (h : MH) (Rt : Value → MH → Prop) (H :
(x7.toInt < x3.toInt →
kd h x0 = 13 ∧
kd h (mr h x0 27) = 20 ∧
InB x6 (ln h (mr h x0 27)) ∧
kd h (mr h x0 26) = 20 ∧
InB x7 (ln h (mr h x0 26)) ∧
kd h (mr h x0 24) = 20 ∧
InB (((192 : Int32) * (mi h (mr h x0 27) (ix x6))) + (mi h (mr h x0 26) (ix x7))) (ln h (mr h x0 24)) ∧
(((x4 >>> (x7 &&& (31 : Int32))) &&& (1 : Int32)) = 0 →
kd h (mr h x0 25) = 20 ∧
InB (mi h (mr h x0 27) (ix x6)) (ln h (mr h x0 25)) ∧
WM k_Ref_isHalf p_Ref_isHalf_4 [.ref x0, Jv, Jv, .int x3, .int x4, .int x5, .int x6, .int x7, .int (mi h (mr h x0 24) (ix (((192 : Int32) * (mi h (mr h x0 27) (ix x6))) + (mi h (mr h x0 26) (ix x7))))), Jv] [.int (mi h (mr h x0 25) (ix (mi h (mr h x0 27) (ix x6))))] h 0 0 Rt) ∧
(¬ ((x4 >>> (x7 &&& (31 : Int32))) &&& (1 : Int32)) = 0 →
kd h (mr h x0 25) = 20 ∧
InB (mi h (mr h x0 27) (ix x6)) (ln h (mr h x0 25)) ∧
WM k_Ref_isHalf p_Ref_isHalf_4 [.ref x0, Jv, Jv, .int x3, .int x4, .int x5, .int x6, .int x7, .int (mi h (mr h x0 24) (ix (((192 : Int32) * (mi h (mr h x0 27) (ix x6))) + (mi h (mr h x0 26) (ix x7))))), Jv] [.int ((3 : Int32) - (mi h (mr h x0 25) (ix (mi h (mr h x0 27) (ix x6)))))] h 0 0 Rt)) ∧
(¬ x7.toInt < x3.toInt →
WM k_Ref_isHalf p_Ref_isHalf_2 [.ref x0, Jv, Jv, .int x3, .int x4, .int x5, .int (x6 + (1 : Int32)), Jv, Jv, Jv] [] h 0 0 Rt)) : WM k_Ref_isHalf p_Ref_isHalf_3 [.ref x0, Jv, Jv, .int x3, .int x4, .int x5, .int x6, .int x7, Jv, Jv] [] h 0 0 Rt := WM_at (hs := HH_Ref_isHalf) G_Ref_isHalf 105 31 rfl ⟨fun c12 => ⟨(H.1 c12).1, ⟨(H.1 c12).1, ⟨((H.1 c12).2).1, ⟨(((H.1 c12).2).2).1, ⟨(H.1 c12).1, ⟨((((H.1 c12).2).2).2).1, ⟨(((((H.1 c12).2).2).2).2).1, ⟨((((((H.1 c12).2).2).2).2).2).1, ⟨(((((((H.1 c12).2).2).2).2).2).2).1, ⟨fun c13 => ⟨(H.1 c12).1, ⟨(H.1 c12).1, ⟨((H.1 c12).2).1, ⟨(((H.1 c12).2).2).1, (((((((((H.1 c12).2).2).2).2).2).2).2).1 c13)⟩⟩⟩⟩, fun c13 => ⟨(H.1 c12).1, ⟨(H.1 c12).1, ⟨((H.1 c12).2).1, ⟨(((H.1 c12).2).2).1, (((((((((H.1 c12).2).2).2).2).2).2).2).2 c13)⟩⟩⟩⟩⟩⟩⟩⟩⟩⟩⟩⟩⟩⟩, H.2⟩
set_option maxRecDepth 100000 in
set_option maxHeartbeats 4000000 in
theorem v_Ref_isHalf_4 (x0 : Nat) (x3 : Int32) (x4 : Int32) (x5 : Int32) (x6 : Int32) (x7 : Int32) (x8 : Int32) (s0 : Int32) (h : MH) (Rt : Value → MH → Prop) (H :
kd h x0 = 13 ∧
kd h (mr h x0 25) = 20 ∧
InB x8 (ln h (mr h x0 25)) ∧
((mi h (mr h x0 25) (ix x8)) = 0 →
∀ g4 : MH, g4 = wi h (mr h x0 25) (ix x8) s0 →
kd h (mr h x0 27) = 20 ∧
InB x5 (ln h (mr h x0 27)) ∧
∀ g7 : MH, g7 = wi g4 (mr h x0 27) (ix x5) x8 →
WM k_Ref_isHalf p_Ref_isHalf_3 [.ref x0, Jv, Jv, .int x3, .int x4, .int (x5 + (1 : Int32)), .int x6, .int (x7 + (1 : Int32)), Jv, Jv] [] g7 0 0 Rt) ∧
(¬ (mi h (mr h x0 25) (ix x8)) = 0 →
((mi h (mr h x0 25) (ix x8)) = s0 →
WM k_Ref_isHalf p_Ref_isHalf_3 [.ref x0, Jv, Jv, .int x3, .int x4, .int x5, .int x6, .int (x7 + (1 : Int32)), Jv, Jv] [] h 0 0 Rt) ∧
(¬ (mi h (mr h x0 25) (ix x8)) = s0 →
Rt (.int (0 : Int32)) h))) : WM k_Ref_isHalf p_Ref_isHalf_4 [.ref x0, Jv, Jv, .int x3, .int x4, .int x5, .int x6, .int x7, .int x8, Jv] [.int s0] h 0 0 Rt := WM_at (hs := HH_Ref_isHalf) G_Ref_isHalf 105 72 rfl ⟨H.1, ⟨H.2.1, ⟨H.2.2.1, ⟨fun c8 => ⟨H.1, ⟨H.2.1, ⟨H.2.2.1, ⟨H.1, ⟨((H.2.2.2.1 c8) _ rfl).1, ⟨(((H.2.2.2.1 c8) _ rfl).2).1, ((((H.2.2.2.1 c8) _ rfl).2).2 _ rfl)⟩⟩⟩⟩⟩⟩, fun c8 => ⟨H.1, ⟨H.2.1, ⟨H.2.2.1, ⟨(H.2.2.2.2 c8).1, fun c9 => ⟨(Or.inl rfl), ((H.2.2.2.2 c8).2 c9)⟩⟩⟩⟩⟩⟩⟩⟩⟩
set_option maxRecDepth 100000 in
set_option maxHeartbeats 4000000 in
theorem v_Ref_isGreater (x0 : Int64) (x2 : Int64) (h : MH) (Rt : Value → MH → Prop) (H :
((lg_cmp x0 (0 : Int64)).toInt < 0 →
((lg_cmp x2 (0 : Int64)).toInt < 0 →
WM k_Ref_isGreater p_Ref_isGreater_1 [.long x0, Jv, .long x2, Jv] [.int (1 : Int32), .int (1 : Int32)] h 0 0 Rt) ∧
(¬ (lg_cmp x2 (0 : Int64)).toInt < 0 →
WM k_Ref_isGreater p_Ref_isGreater_1 [.long x0, Jv, .long x2, Jv] [.int (0 : Int32), .int (1 : Int32)] h 0 0 Rt)) ∧
(¬ (lg_cmp x0 (0 : Int64)).toInt < 0 →
((lg_cmp x2 (0 : Int64)).toInt < 0 →
WM k_Ref_isGreater p_Ref_isGreater_1 [.long x0, Jv, .long x2, Jv] [.int (1 : Int32), .int (0 : Int32)] h 0 0 Rt) ∧
(¬ (lg_cmp x2 (0 : Int64)).toInt < 0 →
WM k_Ref_isGreater p_Ref_isGreater_1 [.long x0, Jv, .long x2, Jv] [.int (0 : Int32), .int (0 : Int32)] h 0 0 Rt))) : Sp k_Ref_isGreater [.long x0, .long x2] h Rt := Sp_intro2 (by decide) (by decide +kernel) rfl (Nat.le_of_ble_eq_true rfl) (WM_at (hs := HH_Ref_isGreater) G_Ref_isGreater 32 0 rfl H)
set_option maxRecDepth 100000 in
set_option maxHeartbeats 4000000 in
theorem v_Ref_isGreater_1 (x0 : Int64) (x2 : Int64) (s0 : Int32) (s1 : Int32) (h : MH) (Rt : Value → MH → Prop) (H :
(s0 = s1 →
(0 < (lg_cmp x0 x2).toInt →
Rt (.int (1 : Int32)) h) ∧
(¬ 0 < (lg_cmp x0 x2).toInt →
Rt (.int (0 : Int32)) h)) ∧
(¬ s0 = s1 →
((lg_cmp x0 (0 : Int64)).toInt < 0 →
Rt (.int (1 : Int32)) h) ∧
(¬ (lg_cmp x0 (0 : Int64)).toInt < 0 →
Rt (.int (0 : Int32)) h))) : WM k_Ref_isGreater p_Ref_isGreater_1 [.long x0, Jv, .long x2, Jv] [.int s1, .int s0] h 0 0 Rt := WM_at (hs := HH_Ref_isGreater) G_Ref_isGreater 32 14 rfl ⟨fun c1 => ⟨fun c2 => ⟨(Or.inr rfl), ((H.1 c1).1 c2)⟩, fun c2 => ⟨(Or.inl rfl), ((H.1 c1).2 c2)⟩⟩, fun c1 => ⟨fun c3 => ⟨(Or.inr rfl), ((H.2 c1).1 c3)⟩, fun c3 => ⟨(Or.inl rfl), ((H.2 c1).2 c3)⟩⟩⟩
set_option maxRecDepth 100000 in
set_option maxHeartbeats 4000000 in
theorem v_Ref_comesAhead (x0 : Nat) (x1 : Int64) (x3 : Int64) (x5 : Int64) (x7 : Int32) (h : MH) (Rt : Value → MH → Prop) (H :
kd h x0 = 13 ∧
kd h (mr h x0 23) = 21 ∧
InB x7 (ln h (mr h x0 23)) ∧
((lg_cmp x1 (ml h (mr h x0 23) (ix x7))) = 0 →
InB (x7 + (1 : Int32)) (ln h (mr h x0 23)) ∧
((lg_cmp x3 (ml h (mr h x0 23) (ix (x7 + (1 : Int32))))) = 0 →
InB (x7 + (2 : Int32)) (ln h (mr h x0 23)) ∧
SpI k_Ref_isGreater [.long x5, .long (ml h (mr h x0 23) (ix (x7 + (2 : Int32))))] h (fun r7 g6 =>
(r7 = 0 ∨ r7 = 1) ∧
Rt (.int r7) g6)) ∧
(¬ (lg_cmp x3 (ml h (mr h x0 23) (ix (x7 + (1 : Int32))))) = 0 →
SpI k_Ref_isGreater [.long x3, .long (ml h (mr h x0 23) (ix (x7 + (1 : Int32))))] h (fun r10 g9 =>
(r10 = 0 ∨ r10 = 1) ∧
Rt (.int r10) g9))) ∧
(¬ (lg_cmp x1 (ml h (mr h x0 23) (ix x7))) = 0 →
SpI k_Ref_isGreater [.long x1, .long (ml h (mr h x0 23) (ix x7))] h (fun r13 g12 =>
(r13 = 0 ∨ r13 = 1) ∧
Rt (.int r13) g12))) : Sp k_Ref_comesAhead [.ref x0, .long x1, .long x3, .long x5, .int x7] h Rt := Sp_intro2 (by decide) (by decide +kernel) rfl (Nat.le_of_ble_eq_true rfl) (WM_at (hs := HH_Ref_comesAhead) G_Ref_comesAhead 42 0 rfl ⟨H.1, ⟨H.2.1, ⟨H.2.2.1, ⟨fun c15 => ⟨H.1, ⟨H.2.1, ⟨(H.2.2.2.1 c15).1, ⟨fun c16 => ⟨H.1, ⟨H.2.1, (((H.2.2.2.1 c15).2).1 c16)⟩⟩, fun c16 => ⟨H.1, ⟨H.2.1, ⟨(H.2.2.2.1 c15).1, (((H.2.2.2.1 c15).2).2 c16)⟩⟩⟩⟩⟩⟩⟩, fun c15 => ⟨H.1, ⟨H.2.1, ⟨H.2.2.1, (H.2.2.2.2 c15)⟩⟩⟩⟩⟩⟩⟩)
set_option maxRecDepth 100000 in
set_option maxHeartbeats 4000000 in
theorem v_Ref_keepHalf (x0 : Nat) (x1 : Int32) (x2 : Int32) (h : MH) (Rt : Value → MH → Prop) (H :
WM k_Ref_keepHalf p_Ref_keepHalf_1 [.ref x0, .int x1, .int x2, .long (0 : Int64), Jv, .long (0 : Int64), Jv, .long (0 : Int64), Jv, .int (0 : Int32), Jv, Jv] [] h 0 0 Rt) : Sp k_Ref_keepHalf [.ref x0, .int x1, .int x2] h Rt := Sp_intro2 (by decide) (by decide +kernel) rfl (Nat.le_of_ble_eq_true rfl) (WM_at (hs := HH_Ref_keepHalf) G_Ref_keepHalf 148 0 rfl H)
set_option maxRecDepth 100000 in
set_option maxHeartbeats 4000000 in
theorem v_Ref_keepHalf_1 (x0 : Nat) (x1 : Int32) (x2 : Int32) (x3 : Int64) (x5 : Int64) (x7 : Int64) (x9 : Int32) (h : MH) (Rt : Value → MH → Prop) (H :
(x9.toInt < x2.toInt →
kd h x0 = 13 ∧
kd h (mr h x0 25) = 20 ∧
InB x9 (ln h (mr h x0 25)) ∧
((mi h (mr h x0 25) (ix x9)) = (1 : Int32) →
(x9.toInt < (64 : Int32).toInt →
WM k_Ref_keepHalf p_Ref_keepHalf_1 [.ref x0, .int x1, .int x2, .long (x3 ||| ((1 : Int64) <<< (((63 : Int32) - x9).toInt64 &&& (63 : Int64)))), Jv, .long x5, Jv, .long x7, Jv, .int (x9 + (1 : Int32)), Jv, Jv] [] h 0 0 Rt) ∧
(¬ x9.toInt < (64 : Int32).toInt →
(x9.toInt < (128 : Int32).toInt →
WM k_Ref_keepHalf p_Ref_keepHalf_1 [.ref x0, .int x1, .int x2, .long x3, Jv, .long (x5 ||| ((1 : Int64) <<< (((127 : Int32) - x9).toInt64 &&& (63 : Int64)))), Jv, .long x7, Jv, .int (x9 + (1 : Int32)), Jv, Jv] [] h 0 0 Rt) ∧
(¬ x9.toInt < (128 : Int32).toInt →
WM k_Ref_keepHalf p_Ref_keepHalf_1 [.ref x0, .int x1, .int x2, .long x3, Jv, .long x5, Jv, .long (x7 ||| ((1 : Int64) <<< (((191 : Int32) - x9).toInt64 &&& (63 : Int64)))), Jv, .int (x9 + (1 : Int32)), Jv, Jv] [] h 0 0 Rt))) ∧
(¬ (mi h (mr h x0 25) (ix x9)) = (1 : Int32) →
WM k_Ref_keepHalf p_Ref_keepHalf_1 [.ref x0, .int x1, .int x2, .long x3, Jv, .long x5, Jv, .long x7, Jv, .int (x9 + (1 : Int32)), Jv, Jv] [] h 0 0 Rt)) ∧
(¬ x9.toInt < x2.toInt →
kd h x0 = 13 ∧
kd h (mr h x0 21) = 20 ∧
InB x1 (ln h (mr h x0 21)) ∧
WM k_Ref_keepHalf p_Ref_keepHalf_2 [.ref x0, .int x1, Jv, .long x3, Jv, .long x5, Jv, .long x7, Jv, .int (mi h (mr h x0 21) (ix x1)), .int ((384 : Int32) * x1), Jv] [] h 0 0 Rt)) : WM k_Ref_keepHalf p_Ref_keepHalf_1 [.ref x0, .int x1, .int x2, .long x3, Jv, .long x5, Jv, .long x7, Jv, .int x9, Jv, Jv] [] h 0 0 Rt := WM_at (hs := HH_Ref_keepHalf) G_Ref_keepHalf 148 8 rfl H
set_option maxRecDepth 100000 in
set_option maxHeartbeats 4000000 in
theorem v_Ref_keepHalf_2 (x0 : Nat) (x1 : Int32) (x3 : Int64) (x5 : Int64) (x7 : Int64) (x9 : Int32) (x10 : Int32) (h : MH) (Rt : Value → MH → Prop) (H :
(0 < x9.toInt →
kd h x0 = 13 ∧
SpI k_Ref_comesAhead [.ref x0, .long x3, .long x5, .long x7, .int (x10 + ((3 : Int32) * (x9 - (1 : Int32))))] h (fun r3 g1 =>
(r3 = 0 →
WM k_Ref_keepHalf p_Ref_keepHalf_4 [.ref x0, .int x1, Jv, .long x3, Jv, .long x5, Jv, .long x7, Jv, .int x9, .int x10, Jv] [] g1 0 0 Rt) ∧
(¬ r3 = 0 →
WM k_Ref_keepHalf p_Ref_keepHalf_3 [.ref x0, .int x1, Jv, .long x3, Jv, .long x5, Jv, .long x7, Jv, .int x9, .int x10, .int (0 : Int32)] [] g1 0 0 Rt))) ∧
(¬ 0 < x9.toInt →
WM k_Ref_keepHalf p_Ref_keepHalf_4 [.ref x0, .int x1, Jv, .long x3, Jv, .long x5, Jv, .long x7, Jv, .int x9, .int x10, Jv] [] h 0 0 Rt)) : WM k_Ref_keepHalf p_Ref_keepHalf_2 [.ref x0, .int x1, Jv, .long x3, Jv, .long x5, Jv, .long x7, Jv, .int x9, .int x10, Jv] [] h 0 0 Rt := WM_at (hs := HH_Ref_keepHalf) G_Ref_keepHalf 148 61 rfl H
set_option maxRecDepth 100000 in
set_option maxHeartbeats 4000000 in
theorem v_Ref_keepHalf_3 (x0 : Nat) (x1 : Int32) (x3 : Int64) (x5 : Int64) (x7 : Int64) (x9 : Int32) (x10 : Int32) (x11 : Int32) (h : MH) (Rt : Value → MH → Prop) (H :
(x11.toInt < (3 : Int32).toInt →
kd h x0 = 13 ∧
kd h (mr h x0 23) = 21 ∧
InB ((x10 + ((3 : Int32) * (x9 - (1 : Int32)))) + x11) (ln h (mr h x0 23)) ∧
InB ((x10 + ((3 : Int32) * x9)) + x11) (ln h (mr h x0 23)) ∧
∀ g5 : MH, g5 = wl h (mr h x0 23) (ix ((x10 + ((3 : Int32) * x9)) + x11)) (ml h (mr h x0 23) (ix ((x10 + ((3 : Int32) * (x9 - (1 : Int32)))) + x11))) →
WM k_Ref_keepHalf p_Ref_keepHalf_3 [.ref x0, .int x1, Jv, .long x3, Jv, .long x5, Jv, .long x7, Jv, .int x9, .int x10, .int (x11 + (1 : Int32))] [] g5 0 0 Rt) ∧
(¬ x11.toInt < (3 : Int32).toInt →
WM k_Ref_keepHalf p_Ref_keepHalf_2 [.ref x0, .int x1, Jv, .long x3, Jv, .long x5, Jv, .long x7, Jv, .int (x9 + (-1 : Int32)), .int x10, Jv] [] h 0 0 Rt)) : WM k_Ref_keepHalf p_Ref_keepHalf_3 [.ref x0, .int x1, Jv, .long x3, Jv, .long x5, Jv, .long x7, Jv, .int x9, .int x10, .int x11] [] h 0 0 Rt := WM_at (hs := HH_Ref_keepHalf) G_Ref_keepHalf 148 78 rfl ⟨fun c6 => ⟨(H.1 c6).1, ⟨(H.1 c6).1, ⟨((H.1 c6).2).1, ⟨(((H.1 c6).2).2).1, ⟨((H.1 c6).2).1, ⟨((((H.1 c6).2).2).2).1, (((((H.1 c6).2).2).2).2 _ rfl)⟩⟩⟩⟩⟩⟩, H.2⟩
set_option maxRecDepth 100000 in
set_option maxHeartbeats 4000000 in
theorem v_Ref_keepHalf_4 (x0 : Nat) (x1 : Int32) (x3 : Int64) (x5 : Int64) (x7 : Int64) (x9 : Int32) (x10 : Int32) (h : MH) (Rt : Value → MH → Prop) (H :
kd h x0 = 13 ∧
kd h (mr h x0 23) = 21 ∧
InB (x10 + ((3 : Int32) * x9)) (ln h (mr h x0 23)) ∧
∀ g4 : MH, g4 = wl h (mr h x0 23) (ix (x10 + ((3 : Int32) * x9))) x3 →
InB ((x10 + ((3 : Int32) * x9)) + (1 : Int32)) (ln h (mr h x0 23)) ∧
∀ g6 : MH, g6 = wl g4 (mr h x0 23) (ix ((x10 + ((3 : Int32) * x9)) + (1 : Int32))) x5 →
InB ((x10 + ((3 : Int32) * x9)) + (2 : Int32)) (ln h (mr h x0 23)) ∧
∀ g8 : MH, g8 = wl g6 (mr h x0 23) (ix ((x10 + ((3 : Int32) * x9)) + (2 : Int32))) x7 →
kd h (mr h x0 21) = 20 ∧
InB x1 (ln h (mr h x0 21)) ∧
∀ g11 : MH, g11 = wi g8 (mr h x0 21) (ix x1) ((mi h (mr h x0 21) (ix x1)) + (1 : Int32)) →
WM k_Ref_keepHalf p_Ref_keepHalf_5 [Jv, Jv, Jv, Jv, Jv, Jv, Jv, Jv, Jv, Jv, Jv, Jv] [] g11 0 0 Rt) : WM k_Ref_keepHalf p_Ref_keepHalf_4 [.ref x0, .int x1, Jv, .long x3, Jv, .long x5, Jv, .long x7, Jv, .int x9, .int x10, Jv] [] h 0 0 Rt := WM_at (hs := HH_Ref_keepHalf) G_Ref_keepHalf 148 107 rfl ⟨H.1, ⟨H.2.1, ⟨H.2.2.1, ⟨H.1, ⟨H.2.1, ⟨(H.2.2.2 _ rfl).1, ⟨H.1, ⟨H.2.1, ⟨((H.2.2.2 _ rfl).2 _ rfl).1, ⟨H.1, ⟨(((H.2.2.2 _ rfl).2 _ rfl).2 _ rfl).1, ⟨((((H.2.2.2 _ rfl).2 _ rfl).2 _ rfl).2).1, ⟨(((H.2.2.2 _ rfl).2 _ rfl).2 _ rfl).1, ⟨((((H.2.2.2 _ rfl).2 _ rfl).2 _ rfl).2).1, (((((H.2.2.2 _ rfl).2 _ rfl).2 _ rfl).2).2 _ rfl)⟩⟩⟩⟩⟩⟩⟩⟩⟩⟩⟩⟩⟩⟩
set_option maxRecDepth 100000 in
set_option maxHeartbeats 4000000 in
theorem v_Ref_keepHalf_5  (h : MH) (Rt : Value → MH → Prop) (H :
Rt .null h) : WM k_Ref_keepHalf p_Ref_keepHalf_5 [Jv, Jv, Jv, Jv, Jv, Jv, Jv, Jv, Jv, Jv, Jv, Jv] [] h 0 0 Rt := WM_at (hs := HH_Ref_keepHalf) G_Ref_keepHalf 148 146 rfl H
set_option maxRecDepth 100000 in
set_option maxHeartbeats 4000000 in
theorem v_Ref_gatherHalves (x0 : Nat) (x1 : Int32) (x2 : Int32) (h : MH) (Rt : Value → MH → Prop) (H :
SpI k_Ref_identity [] h (fun r2 g1 =>
kd g1 x0 = 13 ∧
SpI k_Ref_find [.ref x0, .int x1, .int r2] g1 (fun r5 g3 =>
WM k_Ref_gatherHalves p_Ref_gatherHalves_1 [.ref x0, .int x1, .int x2, .int r5, .int (0 : Int32), .int (1 : Int32), .int (0 : Int32), Jv] [] g3 0 0 Rt))) : Sp k_Ref_gatherHalves [.ref x0, .int x1, .int x2] h Rt := Sp_intro2 (by decide) (by decide +kernel) rfl (Nat.le_of_ble_eq_true rfl) (WM_at (hs := HH_Ref_gatherHalves) G_Ref_gatherHalves 77 0 rfl H)
set_option maxRecDepth 100000 in
set_option maxHeartbeats 4000000 in
theorem v_Ref_gatherHalves_1 (x0 : Nat) (x1 : Int32) (x2 : Int32) (x3 : Int32) (x4 : Int32) (x5 : Int32) (x6 : Int32) (h : MH) (Rt : Value → MH → Prop) (H :
(x6.toInt < x2.toInt →
(x5.toInt < x2.toInt →
WM k_Ref_gatherHalves p_Ref_gatherHalves_2 [.ref x0, .int x1, .int x2, .int x3, .int x4, .int x5, .int x6, .int (0 : Int32)] [] h 0 0 Rt) ∧
(¬ x5.toInt < x2.toInt →
kd h x0 = 13 ∧
kd h (mr h x0 21) = 20 ∧
InB x1 (ln h (mr h x0 21)) ∧
∀ g8 : MH, g8 = wi h (mr h x0 21) (ix x1) (0 : Int32) →
WM k_Ref_gatherHalves p_Ref_gatherHalves_3 [.ref x0, .int x1, .int x2, .int x3, .int x4, Jv, .int (1 : Int32), Jv] [] g8 0 0 Rt)) ∧
(¬ x6.toInt < x2.toInt →
kd h x0 = 13 ∧
kd h (mr h x0 21) = 20 ∧
InB x1 (ln h (mr h x0 21)) ∧
∀ g4 : MH, g4 = wi h (mr h x0 21) (ix x1) (0 : Int32) →
WM k_Ref_gatherHalves p_Ref_gatherHalves_3 [.ref x0, .int x1, .int x2, .int x3, .int x4, Jv, .int (1 : Int32), Jv] [] g4 0 0 Rt)) : WM k_Ref_gatherHalves p_Ref_gatherHalves_1 [.ref x0, .int x1, .int x2, .int x3, .int x4, .int x5, .int x6, Jv] [] h 0 0 Rt := WM_at (hs := HH_Ref_gatherHalves) G_Ref_gatherHalves 77 11 rfl ⟨fun c9 => ⟨(H.1 c9).1, fun c10 => ⟨((H.1 c9).2 c10).1, ⟨(((H.1 c9).2 c10).2).1, ⟨((((H.1 c9).2 c10).2).2).1, (((((H.1 c9).2 c10).2).2).2 _ rfl)⟩⟩⟩⟩, fun c9 => ⟨(H.2 c9).1, ⟨((H.2 c9).2).1, ⟨(((H.2 c9).2).2).1, ((((H.2 c9).2).2).2 _ rfl)⟩⟩⟩⟩
set_option maxRecDepth 100000 in
set_option maxHeartbeats 4000000 in
theorem v_Ref_gatherHalves_2 (x0 : Nat) (x1 : Int32) (x2 : Int32) (x3 : Int32) (x4 : Int32) (x5 : Int32) (x6 : Int32) (x7 : Int32) (h : MH) (Rt : Value → MH → Prop) (H :
(x7.toInt < x2.toInt →
kd h x0 = 13 ∧
kd h (mr h x0 25) = 20 ∧
InB x7 (ln h (mr h x0 25)) ∧
∀ g10 : MH, g10 = wi h (mr h x0 25) (ix x7) (0 : Int32) →
WM k_Ref_gatherHalves p_Ref_gatherHalves_2 [.ref x0, .int x1, .int x2, .int x3, .int x4, .int x5, .int x6, .int (x7 + (1 : Int32))] [] g10 0 0 Rt) ∧
(¬ x7.toInt < x2.toInt →
kd h x0 = 13 ∧
kd h (mr h x0 26) = 20 ∧
InB x4 (ln h (mr h x0 26)) ∧
∀ g4 : MH, g4 = wi h (mr h x0 26) (ix x4) x6 →
SpI k_Ref_made [.ref x0, .int x3, .int (x4 + (1 : Int32))] g4 (fun r6 g5 =>
(r6 = x5 →
WM k_Ref_gatherHalves p_Ref_gatherHalves_1 [.ref x0, .int x1, .int x2, .int x3, .int x4, .int x5, .int (x6 + (1 : Int32)), Jv] [] g5 0 0 Rt) ∧
(¬ r6 = x5 →
WM k_Ref_gatherHalves p_Ref_gatherHalves_1 [.ref x0, .int x1, .int x2, .int x3, .int (x4 + (1 : Int32)), .int r6, .int (x6 + (1 : Int32)), Jv] [] g5 0 0 Rt)))) : WM k_Ref_gatherHalves p_Ref_gatherHalves_2 [.ref x0, .int x1, .int x2, .int x3, .int x4, .int x5, .int x6, .int x7] [] h 0 0 Rt := WM_at (hs := HH_Ref_gatherHalves) G_Ref_gatherHalves 77 19 rfl ⟨fun c11 => ⟨(H.1 c11).1, ⟨((H.1 c11).2).1, ⟨(((H.1 c11).2).2).1, ((((H.1 c11).2).2).2 _ rfl)⟩⟩⟩, fun c11 => ⟨(H.2 c11).1, ⟨((H.2 c11).2).1, ⟨(((H.2 c11).2).2).1, ⟨(H.2 c11).1, ((((H.2 c11).2).2).2 _ rfl)⟩⟩⟩⟩⟩
set_option maxRecDepth 100000 in
set_option maxHeartbeats 4000000 in
theorem v_Ref_gatherHalves_3 (x0 : Nat) (x1 : Int32) (x2 : Int32) (x3 : Int32) (x4 : Int32) (x6 : Int32) (h : MH) (Rt : Value → MH → Prop) (H :
(x6.toInt < ((1 : Int32) <<< (x4 &&& (31 : Int32))).toInt →
kd h x0 = 13 ∧
SpI k_Ref_isHalf [.ref x0, .int x3, .int x2, .int x4, .int x6] h (fun r3 g1 =>
(r3 = 0 →
WM k_Ref_gatherHalves p_Ref_gatherHalves_3 [.ref x0, .int x1, .int x2, .int x3, .int x4, Jv, .int (x6 + (1 : Int32)), Jv] [] g1 0 0 Rt) ∧
(¬ r3 = 0 →
kd g1 x0 = 13 ∧
SpV k_Ref_keepHalf [.ref x0, .int x1, .int x2] g1 (fun g4 =>
WM k_Ref_gatherHalves p_Ref_gatherHalves_3 [.ref x0, .int x1, .int x2, .int x3, .int x4, Jv, .int (x6 + (1 : Int32)), Jv] [] g4 0 0 Rt)))) ∧
(¬ x6.toInt < ((1 : Int32) <<< (x4 &&& (31 : Int32))).toInt →
Rt .null h)) : WM k_Ref_gatherHalves p_Ref_gatherHalves_3 [.ref x0, .int x1, .int x2, .int x3, .int x4, Jv, .int x6, Jv] [] h 0 0 Rt := WM_at (hs := HH_Ref_gatherHalves) G_Ref_gatherHalves 77 57 rfl H
set_option maxRecDepth 100000 in
set_option maxHeartbeats 4000000 in
theorem v_Ref_know (x0 : Nat) (x1 : Int32) (h : MH) (Rt : Value → MH → Prop) (H :
kd h x0 = 13 ∧
kd h (mr h x0 22) = 22 ∧
InB x1 (ln h (mr h x0 22)) ∧
((mi h (mr h x0 22) (ix x1)) = 0 →
∀ g4 : MH, g4 = wi h (mr h x0 22) (ix x1) (1 : Int32) →
kd h (mr h x0 16) = 20 ∧
InB x1 (ln h (mr h x0 16)) ∧
WM k_Ref_know p_Ref_know_1 [.ref x0, .int x1, .int (mi g4 (mr h x0 16) (ix x1)), .int (0 : Int32), Jv] [] g4 0 0 Rt) ∧
(¬ (mi h (mr h x0 22) (ix x1)) = 0 →
Rt .null h)) : Sp k_Ref_know [.ref x0, .int x1] h Rt := Sp_intro2 (by decide) (by decide +kernel) rfl (Nat.le_of_ble_eq_true rfl) (WM_at (hs := HH_Ref_know) G_Ref_know 72 0 rfl ⟨H.1, ⟨H.2.1, ⟨H.2.2.1, ⟨fun c7 => ⟨H.1, ⟨H.2.1, ⟨H.2.2.1, ⟨(Or.inr rfl), ⟨H.1, ((H.2.2.2.1 c7) _ rfl)⟩⟩⟩⟩⟩, H.2.2.2.2⟩⟩⟩⟩)
set_option maxRecDepth 100000 in
set_option maxHeartbeats 4000000 in
theorem v_Ref_know_1 (x0 : Nat) (x1 : Int32) (x2 : Int32) (x3 : Int32) (h : MH) (Rt : Value → MH → Prop) (H :
(x3.toInt < x2.toInt →
WM k_Ref_know p_Ref_know_2 [.ref x0, .int x1, .int x2, .int x3, .int (0 : Int32)] [] h 0 0 Rt) ∧
(¬ x3.toInt < x2.toInt →
kd h x0 = 13 ∧
SpI k_Ref_countAlike [.ref x0, .int x2] h (fun r3 g2 =>
kd g2 (mr h x0 20) = 20 ∧
InB x1 (ln g2 (mr h x0 20)) ∧
∀ g6 : MH, g6 = wi g2 (mr h x0 20) (ix x1) r3 →
kd g2 x0 = 13 ∧
SpV k_Ref_gatherHalves [.ref x0, .int x1, .int x2] g6 (fun g7 =>
Rt .null g7)))) : WM k_Ref_know p_Ref_know_1 [.ref x0, .int x1, .int x2, .int x3, Jv] [] h 0 0 Rt := WM_at (hs := HH_Ref_know) G_Ref_know 72 18 rfl ⟨H.1, fun c9 => ⟨(H.2 c9).1, ⟨(H.2 c9).1, SpI.mono ((H.2 c9).2) (fun r3 g2 qg2 => ⟨qg2.1, ⟨qg2.2.1, (qg2.2.2 _ rfl)⟩⟩)⟩⟩⟩
set_option maxRecDepth 100000 in
set_option maxHeartbeats 4000000 in
theorem v_Ref_know_2 (x0 : Nat) (x1 : Int32) (x2 : Int32) (x3 : Int32) (x4 : Int32) (h : MH) (Rt : Value → MH → Prop) (H :
(x4.toInt < x2.toInt →
kd h x0 = 13 ∧
kd h (mr h x0 15) = 20 ∧
InB (((192 : Int32) * x1) + x3) (ln h (mr h x0 15)) ∧
InB (((192 : Int32) * x1) + x4) (ln h (mr h x0 15)) ∧
SpI k_Ref_times [.ref x0, .int (mi h (mr h x0 15) (ix (((192 : Int32) * x1) + x3))), .int (mi h (mr h x0 15) (ix (((192 : Int32) * x1) + x4)))] h (fun r6 g5 =>
kd g5 x0 = 13 ∧
SpI k_Ref_find [.ref x0, .int x1, .int r6] g5 (fun r9 g7 =>
kd g7 (mr h x0 24) = 20 ∧
InB (((192 : Int32) * x3) + x4) (ln g7 (mr h x0 24)) ∧
∀ g12 : MH, g12 = wi g7 (mr h x0 24) (ix (((192 : Int32) * x3) + x4)) r9 →
WM k_Ref_know p_Ref_know_2 [.ref x0, .int x1, .int x2, .int x3, .int (x4 + (1 : Int32))] [] g12 0 0 Rt))) ∧
(¬ x4.toInt < x2.toInt →
WM k_Ref_know p_Ref_know_1 [.ref x0, .int x1, .int x2, .int (x3 + (1 : Int32)), Jv] [] h 0 0 Rt)) : WM k_Ref_know p_Ref_know_2 [.ref x0, .int x1, .int x2, .int x3, .int x4] [] h 0 0 Rt := WM_at (hs := HH_Ref_know) G_Ref_know 72 23 rfl ⟨fun c13 => ⟨(H.1 c13).1, ⟨(H.1 c13).1, ⟨((H.1 c13).2).1, ⟨(((H.1 c13).2).2).1, ⟨(H.1 c13).1, ⟨((H.1 c13).2).1, ⟨((((H.1 c13).2).2).2).1, ⟨(H.1 c13).1, SpI.mono (((((H.1 c13).2).2).2).2) (fun r6 g5 qg5 => ⟨qg5.1, SpI.mono qg5.2 (fun r9 g7 qg7 => ⟨qg7.1, ⟨qg7.2.1, (qg7.2.2 _ rfl)⟩⟩)⟩)⟩⟩⟩⟩⟩⟩⟩⟩, H.2⟩
set_option maxRecDepth 100000 in
set_option maxHeartbeats 4000000 in
theorem v_Ref_about (x0 : Nat) (x1 : Int32) (x2 : Int32) (h : MH) (Rt : Value → MH → Prop) (H :
kd h x0 = 13 ∧
SpI k_Ref_isGroup [.ref x0, .int x1] h (fun r3 g1 =>
(r3 = 0 →
Rt (.int (-1 : Int32)) g1) ∧
(¬ r3 = 0 →
(x2 = (0 : Int32) →
kd g1 x0 = 13 ∧
kd g1 (mr g1 x0 16) = 20 ∧
InB x1 (ln g1 (mr g1 x0 16)) ∧
Rt (.int (mi g1 (mr g1 x0 16) (ix x1))) g1) ∧
(¬ x2 = (0 : Int32) →
(x2 = (1 : Int32) →
kd g1 x0 = 13 ∧
SpI k_Ref_matrices [.ref x0, .int x1] g1 (fun r30 g28 =>
Rt (.int r30) g28)) ∧
(¬ x2 = (1 : Int32) →
(x2 = (2 : Int32) →
kd g1 x0 = 13 ∧
SpI k_Ref_centrings [.ref x0, .int x1] g1 (fun r27 g25 =>
Rt (.int r27) g25)) ∧
(¬ x2 = (2 : Int32) →
(x2 = (3 : Int32) →
kd g1 x0 = 13 ∧
SpI k_Ref_centrings [.ref x0, .int x1] g1 (fun r21 g19 =>
kd g19 x0 = 13 ∧
SpI k_Ref_letterOf [.ref x0, .int x1, .int r21] g19 (fun r24 g22 =>
Rt (.int r24) g22))) ∧
(¬ x2 = (3 : Int32) →
(x2 = (4 : Int32) →
kd g1 x0 = 13 ∧
kd g1 (mr g1 x0 16) = 20 ∧
InB x1 (ln g1 (mr g1 x0 16)) ∧
SpI k_Ref_classOf [.ref x0, .ref (mr g1 x0 15), .int ((192 : Int32) * x1), .int (mi g1 (mr g1 x0 16) (ix x1))] g1 (fun r18 g17 =>
Rt (.int r18) g17)) ∧
(¬ x2 = (4 : Int32) →
(x2 = (5 : Int32) →
kd g1 x0 = 13 ∧
SpV k_Ref_know [.ref x0, .int x1] g1 (fun g9 =>
kd g9 x0 = 13 ∧
kd g9 (mr g9 x0 20) = 20 ∧
InB x1 (ln g9 (mr g9 x0 20)) ∧
Rt (.int (mi g9 (mr g9 x0 20) (ix x1))) g9)) ∧
(¬ x2 = (5 : Int32) →
(x2 = (6 : Int32) →
kd g1 x0 = 13 ∧
SpV k_Ref_know [.ref x0, .int x1] g1 (fun g4 =>
kd g4 x0 = 13 ∧
kd g4 (mr g4 x0 21) = 20 ∧
InB x1 (ln g4 (mr g4 x0 21)) ∧
Rt (.int (mi g4 (mr g4 x0 21) (ix x1))) g4)) ∧
(¬ x2 = (6 : Int32) →
Rt (.int (-1 : Int32)) g1)))))))))) : Sp k_Ref_about [.ref x0, .int x1, .int x2] h Rt := Sp_intro2 (by decide) (by decide +kernel) rfl (Nat.le_of_ble_eq_true rfl) (WM_at (hs := HH_Ref_about) G_Ref_about 59 0 rfl ⟨H.1, SpI.mono H.2 (fun r3 g1 qg1 => ⟨qg1.1, fun c34 => ⟨(qg1.2 c34).1, fun c35 => ⟨((qg1.2 c34).2 c35).1, fun c36 => ⟨(((qg1.2 c34).2 c35).2 c36).1, fun c37 => ⟨((((qg1.2 c34).2 c35).2 c36).2 c37).1, fun c38 => ⟨fun c39 => ⟨((((((qg1.2 c34).2 c35).2 c36).2 c37).2 c38).1 c39).1, ⟨((((((qg1.2 c34).2 c35).2 c36).2 c37).2 c38).1 c39).1, ⟨(((((((qg1.2 c34).2 c35).2 c36).2 c37).2 c38).1 c39).2).1, ⟨((((((((qg1.2 c34).2 c35).2 c36).2 c37).2 c38).1 c39).2).2).1, ⟨((((((qg1.2 c34).2 c35).2 c36).2 c37).2 c38).1 c39).1, ((((((((qg1.2 c34).2 c35).2 c36).2 c37).2 c38).1 c39).2).2).2⟩⟩⟩⟩⟩, (((((qg1.2 c34).2 c35).2 c36).2 c37).2 c38).2⟩⟩⟩⟩⟩⟩)⟩)
set_option maxRecDepth 100000 in
set_option maxHeartbeats 4000000 in
theorem v_Ho_timesUntilSame (x0 : Nat) (x1 : Int32) (h : MH) (Rt : Value → MH → Prop) (H :
WM k_Ho_timesUntilSame p_Ho_timesUntilSame_1 [.ref x0, .int x1, .int x1, .int (1 : Int32)] [] h 0 0 Rt) : Sp k_Ho_timesUntilSame [.ref x0, .int x1] h Rt := Sp_intro2 (by decide) (by decide +kernel) rfl (Nat.le_of_ble_eq_true rfl) (WM_at (hs := HH_Ho_timesUntilSame) G_Ho_timesUntilSame 20 0 rfl H)
set_option maxRecDepth 100000 in
set_option maxHeartbeats 4000000 in
theorem v_Ho_timesUntilSame_1 (x0 : Nat) (x1 : Int32) (x2 : Int32) (x3 : Int32) (h : MH) (Rt : Value → MH → Prop) (H :
(x3.toInt < (192 : Int32).toInt →
(x2 = (227874816 : Int32) →
Rt (.int x3) h) ∧
(¬ x2 = (227874816 : Int32) →
kd h x0 = 12 ∧
SpI k_Ho_joined [.ref x0, .int x2, .int x1] h (fun r3 g1 =>
WM k_Ho_timesUntilSame p_Ho_timesUntilSame_1 [.ref x0, .int x1, .int r3, .int (x3 + (1 : Int32))] [] g1 0 0 Rt))) ∧
(¬ x3.toInt < (192 : Int32).toInt →
Rt (.int x3) h)) : WM k_Ho_timesUntilSame p_Ho_timesUntilSame_1 [.ref x0, .int x1, .int x2, .int x3] [] h 0 0 Rt := WM_at (hs := HH_Ho_timesUntilSame) G_Ho_timesUntilSame 20 4 rfl H
set_option maxRecDepth 100000 in
set_option maxHeartbeats 4000000 in
theorem v_Ho_of (x0 : Nat) (x1 : Int32) (x2 : Int32) (x3 : Int32) (h : MH) (Rt : Value → MH → Prop) (H :
kd h x0 = 12 ∧
SpR k_Ho_groupAt [.ref x0, .int x1] h (fun r3 g1 =>
(r3 = 0 →
Rt (.int (-1 : Int32)) g1) ∧
(¬ r3 = 0 →
(x2.toInt < 0 →
Rt (.int (-1 : Int32)) g1) ∧
(¬ x2.toInt < 0 →
kd g1 r3 = 4 ∧
kd g1 (mr g1 r3 0) = 9 ∧
(x2.toInt < (mi g1 (mr g1 r3 0) 1).toInt →
kd g1 (mr g1 (mr g1 r3 0) 0) = 20 ∧
InB x2 (ln g1 (mr g1 (mr g1 r3 0) 0)) ∧
(x3 = (0 : Int32) →
Rt (.int ((mi g1 (mr g1 (mr g1 r3 0) 0) (ix x2)) / (13824 : Int32))) g1) ∧
(¬ x3 = (0 : Int32) →
(x3 = (1 : Int32) →
Rt (.int (irm (mi g1 (mr g1 (mr g1 r3 0) 0) (ix x2)) (13824 : Int32))) g1) ∧
(¬ x3 = (1 : Int32) →
(x3 = (2 : Int32) →
kd g1 x0 = 12 ∧
kd g1 (mr g1 x0 9) = 7 ∧
SpV k_Motion_open [.ref (mr g1 x0 9), .int (mi g1 (mr g1 (mr g1 r3 0) 0) (ix x2))] g1 (fun g12 =>
kd g12 x0 = 12 ∧
kd g12 (mr g12 x0 9) = 7 ∧
SpI k_Motion_sort [.ref (mr g12 x0 9)] g12 (fun r17 g15 =>
Rt (.int r17) g15))) ∧
(¬ x3 = (2 : Int32) →
(x3 = (3 : Int32) →
kd g1 x0 = 12 ∧
SpI k_Ho_timesUntilSame [.ref x0, .int (mi g1 (mr g1 (mr g1 r3 0) 0) (ix x2))] g1 (fun r10 g8 =>
Rt (.int r10) g8)) ∧
(¬ x3 = (3 : Int32) →
Rt (.int (-1 : Int32)) g1))))) ∧
(¬ x2.toInt < (mi g1 (mr g1 r3 0) 1).toInt →
Rt (.int (-1 : Int32)) g1))))) : Sp k_Ho_of [.ref x0, .int x1, .int x2, .int x3] h Rt := Sp_intro2 (by decide) (by decide +kernel) rfl (Nat.le_of_ble_eq_true rfl) (WM_at (hs := HH_Ho_of) G_Ho_of 46 0 rfl ⟨H.1, SpR.mono H.2 (fun r3 g1 qg1 => ⟨qg1.1, fun c18 => ⟨(qg1.2 c18).1, fun c19 => ⟨((qg1.2 c18).2 c19).1, ⟨(((qg1.2 c18).2 c19).2).1, ⟨fun c20 => ⟨((qg1.2 c18).2 c19).1, ⟨(((qg1.2 c18).2 c19).2).1, ⟨(((((qg1.2 c18).2 c19).2).2).1 c20).1, ⟨((((((qg1.2 c18).2 c19).2).2).1 c20).2).1, ⟨fun c21 => ⟨(by decide), ((((((((qg1.2 c18).2 c19).2).2).1 c20).2).2).1 c21)⟩, fun c21 => ⟨fun c22 => ⟨(by decide), (((((((((qg1.2 c18).2 c19).2).2).1 c20).2).2).2 c21).1 c22)⟩, ((((((((qg1.2 c18).2 c19).2).2).1 c20).2).2).2 c21).2⟩⟩⟩⟩⟩⟩, ((((qg1.2 c18).2 c19).2).2).2⟩⟩⟩⟩⟩)⟩)
set_option maxRecDepth 100000 in
set_option maxHeartbeats 4000000 in
theorem v_Ref_isMember (x0 : Nat) (x1 : Int32) (x2 : Int32) (h : MH) (Rt : Value → MH → Prop) (H :
kd h x0 = 13 ∧
SpI k_Ref_isGroup [.ref x0, .int x1] h (fun r3 g1 =>
(r3 = 0 →
Rt (.int (0 : Int32)) g1) ∧
(¬ r3 = 0 →
(x2.toInt < 0 →
Rt (.int (0 : Int32)) g1) ∧
(¬ x2.toInt < 0 →
kd g1 x0 = 13 ∧
kd g1 (mr g1 x0 16) = 20 ∧
InB x1 (ln g1 (mr g1 x0 16)) ∧
(x2.toInt < (mi g1 (mr g1 x0 16) (ix x1)).toInt →
Rt (.int (1 : Int32)) g1) ∧
(¬ x2.toInt < (mi g1 (mr g1 x0 16) (ix x1)).toInt →
Rt (.int (0 : Int32)) g1))))) : Sp k_Ref_isMember [.ref x0, .int x1, .int x2] h Rt := Sp_intro2 (by decide) (by decide +kernel) rfl (Nat.le_of_ble_eq_true rfl) (WM_at (hs := HH_Ref_isMember) G_Ref_isMember 17 0 rfl ⟨H.1, SpI.mono H.2 (fun r3 g1 qg1 => ⟨fun c7 => ⟨(Or.inl rfl), (qg1.1 c7)⟩, fun c7 => ⟨fun c8 => ⟨(Or.inl rfl), ((qg1.2 c7).1 c8)⟩, fun c8 => ⟨((qg1.2 c7).2 c8).1, ⟨(((qg1.2 c7).2 c8).2).1, ⟨((((qg1.2 c7).2 c8).2).2).1, ⟨fun c9 => ⟨(Or.inr rfl), ((((((qg1.2 c7).2 c8).2).2).2).1 c9)⟩, fun c9 => ⟨(Or.inl rfl), ((((((qg1.2 c7).2 c8).2).2).2).2 c9)⟩⟩⟩⟩⟩⟩⟩)⟩)
set_option maxRecDepth 100000 in
set_option maxHeartbeats 4000000 in
theorem v_Ref_of (x0 : Nat) (x1 : Int32) (x2 : Int32) (x3 : Int32) (h : MH) (Rt : Value → MH → Prop) (H :
kd h x0 = 13 ∧
SpI k_Ref_isMember [.ref x0, .int x1, .int x2] h (fun r3 g1 =>
(r3 = 0 →
Rt (.int (-1 : Int32)) g1) ∧
(¬ r3 = 0 →
kd g1 x0 = 13 ∧
kd g1 (mr g1 x0 15) = 20 ∧
InB (((192 : Int32) * x1) + x2) (ln g1 (mr g1 x0 15)) ∧
(x3 = (0 : Int32) →
Rt (.int ((mi g1 (mr g1 x0 15) (ix (((192 : Int32) * x1) + x2))) / (13824 : Int32))) g1) ∧
(¬ x3 = (0 : Int32) →
(x3 = (1 : Int32) →
Rt (.int (irm (mi g1 (mr g1 x0 15) (ix (((192 : Int32) * x1) + x2))) (13824 : Int32))) g1) ∧
(¬ x3 = (1 : Int32) →
(x3 = (2 : Int32) →
SpV k_Ref_open [.int (mi g1 (mr g1 x0 15) (ix (((192 : Int32) * x1) + x2))), .ref (mr g1 x0 3), .ref (mr g1 x0 4)] g1 (fun g7 =>
kd g7 x0 = 13 ∧
SpI k_Ref_sortOf [.ref (mr g7 x0 3)] g7 (fun r10 g9 =>
Rt (.int r10) g9))) ∧
(¬ x3 = (2 : Int32) →
(x3 = (3 : Int32) →
WM k_Ref_of p_Ref_of_1 [.ref x0, Jv, Jv, Jv, .int (mi g1 (mr g1 x0 15) (ix (((192 : Int32) * x1) + x2))), .int (1 : Int32), .int (mi g1 (mr g1 x0 15) (ix (((192 : Int32) * x1) + x2)))] [] g1 0 0 Rt) ∧
(¬ x3 = (3 : Int32) →
Rt (.int (-1 : Int32)) g1))))))) : Sp k_Ref_of [.ref x0, .int x1, .int x2, .int x3] h Rt := Sp_intro2 (by decide) (by decide +kernel) rfl (Nat.le_of_ble_eq_true rfl) (WM_at (hs := HH_Ref_of) G_Ref_of 55 0 rfl ⟨H.1, SpI.mono H.2 (fun r3 g1 qg1 => ⟨qg1.1, fun c11 => ⟨(qg1.2 c11).1, ⟨((qg1.2 c11).2).1, ⟨(((qg1.2 c11).2).2).1, ⟨fun c12 => ⟨(by decide), (((((qg1.2 c11).2).2).2).1 c12)⟩, fun c12 => ⟨fun c13 => ⟨(by decide), ((((((qg1.2 c11).2).2).2).2 c12).1 c13)⟩, fun c13 => ⟨fun c14 => ⟨(qg1.2 c11).1, ⟨(qg1.2 c11).1, (((((((qg1.2 c11).2).2).2).2 c12).2 c13).1 c14)⟩⟩, ((((((qg1.2 c11).2).2).2).2 c12).2 c13).2⟩⟩⟩⟩⟩⟩⟩)⟩)
set_option maxRecDepth 100000 in
set_option maxHeartbeats 4000000 in
theorem v_Ref_of_1 (x0 : Nat) (x4 : Int32) (x5 : Int32) (x6 : Int32) (h : MH) (Rt : Value → MH → Prop) (H :
SpI k_Ref_identity [] h (fun r2 g1 =>
(x6 = r2 →
Rt (.int x5) g1) ∧
(¬ x6 = r2 →
kd g1 x0 = 13 ∧
SpI k_Ref_times [.ref x0, .int x6, .int x4] g1 (fun r5 g3 =>
WM k_Ref_of p_Ref_of_1 [.ref x0, Jv, Jv, Jv, .int x4, .int (x5 + (1 : Int32)), .int r5] [] g3 0 0 Rt)))) : WM k_Ref_of p_Ref_of_1 [.ref x0, Jv, Jv, Jv, .int x4, .int x5, .int x6] [] h 0 0 Rt := WM_at (hs := HH_Ref_of) G_Ref_of 55 40 rfl H
set_option maxRecDepth 100000 in
set_option maxHeartbeats 4000000 in
theorem v_Ho_product (x0 : Nat) (x1 : Int32) (x2 : Int32) (x3 : Int32) (h : MH) (Rt : Value → MH → Prop) (H :
kd h x0 = 12 ∧
SpR k_Ho_groupAt [.ref x0, .int x1] h (fun r3 g1 =>
(r3 = 0 →
Rt (.int (-1 : Int32)) g1) ∧
(¬ r3 = 0 →
(x2.toInt < 0 →
Rt (.int (-1 : Int32)) g1) ∧
(¬ x2.toInt < 0 →
kd g1 r3 = 4 ∧
kd g1 (mr g1 r3 0) = 9 ∧
(x2.toInt < (mi g1 (mr g1 r3 0) 1).toInt →
(x3.toInt < 0 →
Rt (.int (-1 : Int32)) g1) ∧
(¬ x3.toInt < 0 →
(x3.toInt < (mi g1 (mr g1 r3 0) 1).toInt →
kd g1 (mr g1 (mr g1 r3 0) 0) = 20 ∧
InB x2 (ln g1 (mr g1 (mr g1 r3 0) 0)) ∧
InB x3 (ln g1 (mr g1 (mr g1 r3 0) 0)) ∧
kd g1 x0 = 12 ∧
SpI k_Ho_joined [.ref x0, .int (mi g1 (mr g1 (mr g1 r3 0) 0) (ix x2)), .int (mi g1 (mr g1 (mr g1 r3 0) 0) (ix x3))] g1 (fun r11 g9 =>
kd g9 (mr g1 r3 0) = 9 ∧
SpI k_Row_find [.ref (mr g1 r3 0), .int r11] g9 (fun r14 g12 =>
Rt (.int r14) g12))) ∧
(¬ x3.toInt < (mi g1 (mr g1 r3 0) 1).toInt →
Rt (.int (-1 : Int32)) g1))) ∧
(¬ x2.toInt < (mi g1 (mr g1 r3 0) 1).toInt →
Rt (.int (-1 : Int32)) g1))))) : Sp k_Ho_product [.ref x0, .int x1, .int x2, .int x3] h Rt := Sp_intro2 (by decide) (by decide +kernel) rfl (Nat.le_of_ble_eq_true rfl) (WM_at (hs := HH_Ho_product) G_Ho_product 39 0 rfl ⟨H.1, SpR.mono H.2 (fun r3 g1 qg1 => ⟨qg1.1, fun c15 => ⟨(qg1.2 c15).1, fun c16 => ⟨((qg1.2 c15).2 c16).1, ⟨(((qg1.2 c15).2 c16).2).1, ⟨fun c17 => ⟨(((((qg1.2 c15).2 c16).2).2).1 c17).1, fun c18 => ⟨((qg1.2 c15).2 c16).1, ⟨(((qg1.2 c15).2 c16).2).1, ⟨fun c19 => ⟨((qg1.2 c15).2 c16).1, ⟨((qg1.2 c15).2 c16).1, ⟨(((qg1.2 c15).2 c16).2).1, ⟨(((((((qg1.2 c15).2 c16).2).2).1 c17).2 c18).1 c19).1, ⟨((((((((qg1.2 c15).2 c16).2).2).1 c17).2 c18).1 c19).2).1, ⟨((qg1.2 c15).2 c16).1, ⟨(((qg1.2 c15).2 c16).2).1, ⟨(((((((qg1.2 c15).2 c16).2).2).1 c17).2 c18).1 c19).1, ((((((((qg1.2 c15).2 c16).2).2).1 c17).2 c18).1 c19).2).2⟩⟩⟩⟩⟩⟩⟩⟩, ((((((qg1.2 c15).2 c16).2).2).1 c17).2 c18).2⟩⟩⟩⟩, ((((qg1.2 c15).2 c16).2).2).2⟩⟩⟩⟩⟩)⟩)
set_option maxRecDepth 100000 in
set_option maxHeartbeats 4000000 in
theorem v_Ref_product (x0 : Nat) (x1 : Int32) (x2 : Int32) (x3 : Int32) (h : MH) (Rt : Value → MH → Prop) (H :
kd h x0 = 13 ∧
SpI k_Ref_isMember [.ref x0, .int x1, .int x2] h (fun r3 g1 =>
(r3 = 0 →
Rt (.int (-1 : Int32)) g1) ∧
(¬ r3 = 0 →
kd g1 x0 = 13 ∧
SpI k_Ref_isMember [.ref x0, .int x1, .int x3] g1 (fun r6 g4 =>
(r6 = 0 →
Rt (.int (-1 : Int32)) g4) ∧
(¬ r6 = 0 →
kd g4 x0 = 13 ∧
kd g4 (mr g4 x0 15) = 20 ∧
InB (((192 : Int32) * x1) + x2) (ln g4 (mr g4 x0 15)) ∧
InB (((192 : Int32) * x1) + x3) (ln g4 (mr g4 x0 15)) ∧
SpI k_Ref_times [.ref x0, .int (mi g4 (mr g4 x0 15) (ix (((192 : Int32) * x1) + x2))), .int (mi g4 (mr g4 x0 15) (ix (((192 : Int32) * x1) + x3)))] g4 (fun r12 g11 =>
kd g11 x0 = 13 ∧
SpI k_Ref_find [.ref x0, .int x1, .int r12] g11 (fun r15 g13 =>
Rt (.int r15) g13))))))) : Sp k_Ref_product [.ref x0, .int x1, .int x2, .int x3] h Rt := Sp_intro2 (by decide) (by decide +kernel) rfl (Nat.le_of_ble_eq_true rfl) (WM_at (hs := HH_Ref_product) G_Ref_product 35 0 rfl ⟨H.1, SpI.mono H.2 (fun r3 g1 qg1 => ⟨qg1.1, fun c16 => ⟨(qg1.2 c16).1, SpI.mono ((qg1.2 c16).2) (fun r6 g4 qg4 => ⟨qg4.1, fun c17 => ⟨(qg4.2 c17).1, ⟨((qg4.2 c17).2).1, ⟨(((qg4.2 c17).2).2).1, ⟨(qg4.2 c17).1, ⟨((qg4.2 c17).2).1, ⟨((((qg4.2 c17).2).2).2).1, ⟨(qg4.2 c17).1, ((((qg4.2 c17).2).2).2).2⟩⟩⟩⟩⟩⟩⟩⟩)⟩⟩)⟩)
set_option maxRecDepth 100000 in
set_option maxHeartbeats 4000000 in
theorem v_Integer_bitCount (x0 : Int32) (h : MH) (Rt : Value → MH → Prop) (H :
Rt (.int ((((((((x0 - ((x0.toUInt32 >>> ((1 : Int32).toUInt32 &&& Int32.toUInt32 31)).toInt32 &&& (1431655765 : Int32))) &&& (858993459 : Int32)) + (((x0 - ((x0.toUInt32 >>> ((1 : Int32).toUInt32 &&& Int32.toUInt32 31)).toInt32 &&& (1431655765 : Int32))).toUInt32 >>> ((2 : Int32).toUInt32 &&& Int32.toUInt32 31)).toInt32 &&& (858993459 : Int32))) + ((((x0 - ((x0.toUInt32 >>> ((1 : Int32).toUInt32 &&& Int32.toUInt32 31)).toInt32 &&& (1431655765 : Int32))) &&& (858993459 : Int32)) + (((x0 - ((x0.toUInt32 >>> ((1 : Int32).toUInt32 &&& Int32.toUInt32 31)).toInt32 &&& (1431655765 : Int32))).toUInt32 >>> ((2 : Int32).toUInt32 &&& Int32.toUInt32 31)).toInt32 &&& (858993459 : Int32))).toUInt32 >>> ((4 : Int32).toUInt32 &&& Int32.toUInt32 31)).toInt32) &&& (252645135 : Int32)) + ((((((x0 - ((x0.toUInt32 >>> ((1 : Int32).toUInt32 &&& Int32.toUInt32 31)).toInt32 &&& (1431655765 : Int32))) &&& (858993459 : Int32)) + (((x0 - ((x0.toUInt32 >>> ((1 : Int32).toUInt32 &&& Int32.toUInt32 31)).toInt32 &&& (1431655765 : Int32))).toUInt32 >>> ((2 : Int32).toUInt32 &&& Int32.toUInt32 31)).toInt32 &&& (858993459 : Int32))) + ((((x0 - ((x0.toUInt32 >>> ((1 : Int32).toUInt32 &&& Int32.toUInt32 31)).toInt32 &&& (1431655765 : Int32))) &&& (858993459 : Int32)) + (((x0 - ((x0.toUInt32 >>> ((1 : Int32).toUInt32 &&& Int32.toUInt32 31)).toInt32 &&& (1431655765 : Int32))).toUInt32 >>> ((2 : Int32).toUInt32 &&& Int32.toUInt32 31)).toInt32 &&& (858993459 : Int32))).toUInt32 >>> ((4 : Int32).toUInt32 &&& Int32.toUInt32 31)).toInt32) &&& (252645135 : Int32)).toUInt32 >>> ((8 : Int32).toUInt32 &&& Int32.toUInt32 31)).toInt32) + (((((((x0 - ((x0.toUInt32 >>> ((1 : Int32).toUInt32 &&& Int32.toUInt32 31)).toInt32 &&& (1431655765 : Int32))) &&& (858993459 : Int32)) + (((x0 - ((x0.toUInt32 >>> ((1 : Int32).toUInt32 &&& Int32.toUInt32 31)).toInt32 &&& (1431655765 : Int32))).toUInt32 >>> ((2 : Int32).toUInt32 &&& Int32.toUInt32 31)).toInt32 &&& (858993459 : Int32))) + ((((x0 - ((x0.toUInt32 >>> ((1 : Int32).toUInt32 &&& Int32.toUInt32 31)).toInt32 &&& (1431655765 : Int32))) &&& (858993459 : Int32)) + (((x0 - ((x0.toUInt32 >>> ((1 : Int32).toUInt32 &&& Int32.toUInt32 31)).toInt32 &&& (1431655765 : Int32))).toUInt32 >>> ((2 : Int32).toUInt32 &&& Int32.toUInt32 31)).toInt32 &&& (858993459 : Int32))).toUInt32 >>> ((4 : Int32).toUInt32 &&& Int32.toUInt32 31)).toInt32) &&& (252645135 : Int32)) + ((((((x0 - ((x0.toUInt32 >>> ((1 : Int32).toUInt32 &&& Int32.toUInt32 31)).toInt32 &&& (1431655765 : Int32))) &&& (858993459 : Int32)) + (((x0 - ((x0.toUInt32 >>> ((1 : Int32).toUInt32 &&& Int32.toUInt32 31)).toInt32 &&& (1431655765 : Int32))).toUInt32 >>> ((2 : Int32).toUInt32 &&& Int32.toUInt32 31)).toInt32 &&& (858993459 : Int32))) + ((((x0 - ((x0.toUInt32 >>> ((1 : Int32).toUInt32 &&& Int32.toUInt32 31)).toInt32 &&& (1431655765 : Int32))) &&& (858993459 : Int32)) + (((x0 - ((x0.toUInt32 >>> ((1 : Int32).toUInt32 &&& Int32.toUInt32 31)).toInt32 &&& (1431655765 : Int32))).toUInt32 >>> ((2 : Int32).toUInt32 &&& Int32.toUInt32 31)).toInt32 &&& (858993459 : Int32))).toUInt32 >>> ((4 : Int32).toUInt32 &&& Int32.toUInt32 31)).toInt32) &&& (252645135 : Int32)).toUInt32 >>> ((8 : Int32).toUInt32 &&& Int32.toUInt32 31)).toInt32).toUInt32 >>> ((16 : Int32).toUInt32 &&& Int32.toUInt32 31)).toInt32) &&& (63 : Int32))) h) : Sp k_Integer_bitCount [.int x0] h Rt := Sp_intro2 (by decide) (by decide +kernel) rfl (Nat.le_of_ble_eq_true rfl) (WM_at (hs := HH_Integer_bitCount) G_Integer_bitCount 43 0 rfl H)
set_option maxRecDepth 100000 in
set_option maxHeartbeats 4000000 in
theorem v_Ho_half (x0 : Nat) (x1 : Int32) (x2 : Int32) (h : MH) (Rt : Value → MH → Prop) (H :
kd h x0 = 12 ∧
SpR k_Ho_groupAt [.ref x0, .int x1] h (fun r3 g1 =>
(r3 = 0 →
Rt (.int (-1 : Int32)) g1) ∧
(¬ r3 = 0 →
(x2.toInt < 0 →
Rt (.int (-1 : Int32)) g1) ∧
(¬ x2.toInt < 0 →
kd g1 x0 = 12 ∧
SpI k_Ho_countHalves [.ref x0, .ref r3] g1 (fun r6 g4 =>
(x2.toInt < r6.toInt →
kd g4 x0 = 12 ∧
SpR k_Ho_sidesOf [.ref x0, .ref r3] g4 (fun r9 g7 =>
kd g7 x0 = 12 ∧
kd g7 (mr g7 x0 4) = 2 ∧
SpV k_Closure_begin [.ref (mr g7 x0 4)] g7 (fun g11 =>
WM k_Ho_half p_Ho_half_1 [.ref x0, Jv, Jv, .ref r3, .int (x2 + (1 : Int32)), .ref r9, .int (0 : Int32)] [] g11 2 384 Rt))) ∧
(¬ x2.toInt < r6.toInt →
Rt (.int (-1 : Int32)) g4)))))) : Sp k_Ho_half [.ref x0, .int x1, .int x2] h Rt := Sp_intro2 (by decide) (by decide +kernel) rfl (Nat.le_of_ble_eq_true rfl) (WM_at (hs := HH_Ho_half) G_Ho_half 61 0 rfl H)
set_option maxRecDepth 100000 in
set_option maxHeartbeats 4000000 in
theorem v_Ho_half_1 (x0 : Nat) (x3 : Nat) (x4 : Int32) (x5 : Nat) (x6 : Int32) (cc ss : Nat) (h : MH) (Rt : Value → MH → Prop) (H :
kd h x3 = 4 ∧
kd h (mr h x3 0) = 9 ∧
(x6.toInt < (mi h (mr h x3 0) 1).toInt →
kd h x5 = 20 ∧
(x6.toInt < (Int32.ofNat (ln h x5)).toInt →
InB x6 (ln h x5) ∧
gd (cc + 0) 6 (
gd (ss + 0) 799 (
SpI k_Integer_bitCount [.int ((mi h x5 (ix x6)) &&& x4)] h (fun r12 g11 =>
((irm r12 (2 : Int32)) = 0 →
kd g11 x0 = 12 ∧
kd g11 x3 = 4 ∧
kd g11 (mr g11 x3 0) = 9 ∧
kd g11 (mr g11 (mr g11 x3 0) 0) = 20 ∧
InB x6 (ln g11 (mr g11 (mr g11 x3 0) 0)) ∧
kd g11 (mr g11 x0 4) = 2 ∧
gd ((cc + 0) + 0) 6 (
gd ((ss + 0) + 0) 799 (
SpI k_Closure_take [.ref (mr g11 x0 4), .int (mi g11 (mr g11 (mr g11 x3 0) 0) (ix x6))] g11 (fun r20 g18 =>
WM k_Ho_half p_Ho_half_1 [.ref x0, Jv, Jv, .ref x3, .int x4, .ref x5, .int (x6 + (1 : Int32))] [] g18 ((cc + 0) + 0) ((ss + 0) + 0) Rt)))) ∧
(¬ (irm r12 (2 : Int32)) = 0 →
WM k_Ho_half p_Ho_half_1 [.ref x0, Jv, Jv, .ref x3, .int x4, .ref x5, .int (x6 + (1 : Int32))] [] g11 (cc + 0) (ss + 0) Rt))))) ∧
(¬ x6.toInt < (Int32.ofNat (ln h x5)).toInt →
kd h x0 = 12 ∧
gd (cc + 4) 6 (
gd (ss + 415) 799 (
SpI k_Ho_keepGroup [.ref x0] h (fun r9 g7 =>
gd (cc + 4) 6 (
gd (ss + 415) 799 (
Rt (.int r9) g7))))))) ∧
(¬ x6.toInt < (mi h (mr h x3 0) 1).toInt →
kd h x0 = 12 ∧
gd (cc + 4) 6 (
gd (ss + 415) 799 (
SpI k_Ho_keepGroup [.ref x0] h (fun r5 g3 =>
gd (cc + 4) 6 (
gd (ss + 415) 799 (
Rt (.int r5) g3))))))) : WM k_Ho_half p_Ho_half_1 [.ref x0, Jv, Jv, .ref x3, .int x4, .ref x5, .int x6] [] h cc ss Rt := WM_at (hs := HH_Ho_half) G_Ho_half 61 28 rfl ⟨H.1, ⟨H.2.1, ⟨fun c21 => ⟨(H.2.2.1 c21).1, ⟨fun c22 => ⟨(H.2.2.1 c21).1, ⟨(((H.2.2.1 c21).2).1 c22).1, gd_mono (a := (cc + 0)) (b := 6) (fun q => gd_mono (a := (ss + 0)) (b := 799) (fun q => SpI.mono q (fun r12 g11 qg11 => ⟨(by decide), qg11⟩)) q) ((((H.2.2.1 c21).2).1 c22).2)⟩⟩, ((H.2.2.1 c21).2).2⟩⟩, H.2.2.2⟩⟩⟩
