set_option maxRecDepth 100000 in
set_option maxHeartbeats 4000000 in
theorem v_Lines_reciprocal (x0 : Nat) (h : MH) (Rt : Value → MH → Prop) (H :
kd h x0 = 3 ∧
∀ g2 : MH, g2 = nw h 3 0 →
kd g2 (hn h) = 3 ∧
SpV k_Form_init [.ref (hn h)] g2 (fun g3 =>
kd g3 x0 = 3 ∧
kd g3 (hn h) = 3 ∧
SpV k_Form_set [.ref (hn h), .long (((ml g3 x0 1) * (ml g3 x0 2)) - (((ml h x0 3) / (2 : Int64)) * ((ml h x0 3) / (2 : Int64)))), .long (((ml g3 x0 0) * (ml g3 x0 2)) - (((ml h x0 4) / (2 : Int64)) * ((ml h x0 4) / (2 : Int64)))), .long (((ml g3 x0 0) * (ml g3 x0 1)) - (((ml h x0 5) / (2 : Int64)) * ((ml h x0 5) / (2 : Int64)))), .long ((2 : Int64) * ((((ml h x0 4) / (2 : Int64)) * ((ml h x0 5) / (2 : Int64))) - ((ml g3 x0 0) * ((ml h x0 3) / (2 : Int64))))), .long ((2 : Int64) * ((((ml h x0 3) / (2 : Int64)) * ((ml h x0 5) / (2 : Int64))) - ((ml g3 x0 1) * ((ml h x0 4) / (2 : Int64))))), .long ((2 : Int64) * ((((ml h x0 3) / (2 : Int64)) * ((ml h x0 4) / (2 : Int64))) - ((ml g3 x0 2) * ((ml h x0 5) / (2 : Int64)))))] g3 (fun g6 =>
WM k_Lines_reciprocal p_Lines_reciprocal_1 [Jv, Jv, Jv, Jv, Jv, Jv, Jv, .ref (hn h)] [] g6 1 6 Rt))) : Sp k_Lines_reciprocal [.ref x0] h Rt := Sp_intro2 (by decide) (by decide +kernel) rfl (Nat.le_of_ble_eq_true rfl) (WM_at (hs := HH_Lines_reciprocal) G_Lines_reciprocal 81 0 rfl ⟨H.1, ⟨(by decide), ⟨H.1, ⟨(by decide), ⟨H.1, ⟨(by decide), ⟨(H.2 _ rfl).1, SpV.mono ((H.2 _ rfl).2) (fun g3 qg3 => ⟨qg3.1, ⟨qg3.1, ⟨qg3.1, ⟨qg3.1, ⟨qg3.1, ⟨qg3.1, ⟨qg3.1, ⟨qg3.1, ⟨qg3.1, qg3.2⟩⟩⟩⟩⟩⟩⟩⟩⟩)⟩⟩⟩⟩⟩⟩⟩)
set_option maxRecDepth 100000 in
set_option maxHeartbeats 4000000 in
theorem v_Lines_reciprocal_1 (x7 : Nat) (cc ss : Nat) (h : MH) (Rt : Value → MH → Prop) (H :
gd cc 1 (
gd ss 6 (
Rt (.ref x7) h))) : WM k_Lines_reciprocal p_Lines_reciprocal_1 [Jv, Jv, Jv, Jv, Jv, Jv, Jv, .ref x7] [] h cc ss Rt := WM_at (hs := HH_Lines_reciprocal) G_Lines_reciprocal 81 78 rfl H
set_option maxRecDepth 100000 in
set_option maxHeartbeats 4000000 in
theorem v_Wave_isZero (x0 : Nat) (h : MH) (Rt : Value → MH → Prop) (H :
kd h x0 = 11 ∧
kd h (mr h x0 2) = 21 ∧
InB (0 : Int32) (ln h (mr h x0 2)) ∧
((lg_cmp (ml h (mr h x0 2) (ix (0 : Int32))) (0 : Int64)) = 0 →
Rt (.int (1 : Int32)) h) ∧
(¬ (lg_cmp (ml h (mr h x0 2) (ix (0 : Int32))) (0 : Int64)) = 0 →
Rt (.int (0 : Int32)) h)) : Sp k_Wave_isZero [.ref x0] h Rt := Sp_intro2 (by decide) (by decide +kernel) rfl (Nat.le_of_ble_eq_true rfl) (WM_at (hs := HH_Wave_isZero) G_Wave_isZero 12 0 rfl ⟨H.1, ⟨H.2.1, ⟨H.2.2.1, ⟨fun c4 => ⟨(Or.inr rfl), (H.2.2.2.1 c4)⟩, fun c4 => ⟨(Or.inl rfl), (H.2.2.2.2 c4)⟩⟩⟩⟩⟩)
set_option maxRecDepth 100000 in
set_option maxHeartbeats 4000000 in
theorem v_Lines_seat (x0 : Nat) (x1 : Int64) (h : MH) (Rt : Value → MH → Prop) (H :
kd h x0 = 5 ∧
WM k_Lines_seat p_Lines_seat_1 [.ref x0, .long x1, Jv, .int (0 : Int32), .int (mi h x0 3), .int (0 : Int32), Jv] [] h 0 0 Rt) : Sp k_Lines_seat [.ref x0, .long x1] h Rt := Sp_intro2 (by decide) (by decide +kernel) rfl (Nat.le_of_ble_eq_true rfl) (WM_at (hs := HH_Lines_seat) G_Lines_seat 43 0 rfl H)
set_option maxRecDepth 100000 in
set_option maxHeartbeats 4000000 in
theorem v_Lines_seat_1 (x0 : Nat) (x1 : Int64) (x3 : Int32) (x4 : Int32) (x5 : Int32) (h : MH) (Rt : Value → MH → Prop) (H :
(x5.toInt < (32 : Int32).toInt →
(x3.toInt < x4.toInt →
kd h x0 = 5 ∧
kd h (mr h x0 2) = 20 ∧
InB (((x3 + x4).toUInt32 >>> ((1 : Int32).toUInt32 &&& Int32.toUInt32 31)).toInt32) (ln h (mr h x0 2)) ∧
kd h (mr h x0 1) = 21 ∧
InB ((6 : Int32) * (mi h (mr h x0 2) (ix (((x3 + x4).toUInt32 >>> ((1 : Int32).toUInt32 &&& Int32.toUInt32 31)).toInt32)))) (ln h (mr h x0 1)) ∧
((lg_cmp (ml h (mr h x0 1) (ix ((6 : Int32) * (mi h (mr h x0 2) (ix (((x3 + x4).toUInt32 >>> ((1 : Int32).toUInt32 &&& Int32.toUInt32 31)).toInt32)))))) x1).toInt < 0 →
WM k_Lines_seat p_Lines_seat_1 [.ref x0, .long x1, Jv, .int (((x3 + x4).toUInt32 >>> ((1 : Int32).toUInt32 &&& Int32.toUInt32 31)).toInt32 + (1 : Int32)), .int x4, .int (x5 + (1 : Int32)), Jv] [] h 0 0 Rt) ∧
(¬ (lg_cmp (ml h (mr h x0 1) (ix ((6 : Int32) * (mi h (mr h x0 2) (ix (((x3 + x4).toUInt32 >>> ((1 : Int32).toUInt32 &&& Int32.toUInt32 31)).toInt32)))))) x1).toInt < 0 →
WM k_Lines_seat p_Lines_seat_1 [.ref x0, .long x1, Jv, .int x3, .int (((x3 + x4).toUInt32 >>> ((1 : Int32).toUInt32 &&& Int32.toUInt32 31)).toInt32), .int (x5 + (1 : Int32)), Jv] [] h 0 0 Rt)) ∧
(¬ x3.toInt < x4.toInt →
Rt (.int x3) h)) ∧
(¬ x5.toInt < (32 : Int32).toInt →
Rt (.int x3) h)) : WM k_Lines_seat p_Lines_seat_1 [.ref x0, .long x1, Jv, .int x3, .int x4, .int x5, Jv] [] h 0 0 Rt := WM_at (hs := HH_Lines_seat) G_Lines_seat 43 7 rfl ⟨fun c6 => ⟨fun c7 => ⟨((H.1 c6).1 c7).1, ⟨((H.1 c6).1 c7).1, ((H.1 c6).1 c7).2⟩⟩, (H.1 c6).2⟩, H.2⟩
set_option maxRecDepth 100000 in
set_option maxHeartbeats 4000000 in
theorem v_Lines_startRow (x0 : Nat) (x1 : Int32) (x2 : Int64) (h : MH) (Rt : Value → MH → Prop) (H :
kd h x0 = 5 ∧
kd h (mr h x0 1) = 21 ∧
InB x1 (ln h (mr h x0 1)) ∧
∀ g4 : MH, g4 = wl h (mr h x0 1) (ix x1) x2 →
WM k_Lines_startRow p_Lines_startRow_1 [.ref x0, .int x1, Jv, Jv, .int (1 : Int32)] [] g4 0 0 Rt) : Sp k_Lines_startRow [.ref x0, .int x1, .long x2] h Rt := Sp_intro2 (by decide) (by decide +kernel) rfl (Nat.le_of_ble_eq_true rfl) (WM_at (hs := HH_Lines_startRow) G_Lines_startRow 21 0 rfl ⟨H.1, ⟨H.2.1, ⟨H.2.2.1, (H.2.2.2 _ rfl)⟩⟩⟩)
set_option maxRecDepth 100000 in
set_option maxHeartbeats 4000000 in
theorem v_Lines_startRow_1 (x0 : Nat) (x1 : Int32) (x4 : Int32) (h : MH) (Rt : Value → MH → Prop) (H :
(x4.toInt < (6 : Int32).toInt →
kd h x0 = 5 ∧
kd h (mr h x0 1) = 21 ∧
InB (x1 + x4) (ln h (mr h x0 1)) ∧
∀ g4 : MH, g4 = wl h (mr h x0 1) (ix (x1 + x4)) (0 : Int64) →
WM k_Lines_startRow p_Lines_startRow_1 [.ref x0, .int x1, Jv, Jv, .int (x4 + (1 : Int32))] [] g4 0 0 Rt) ∧
(¬ x4.toInt < (6 : Int32).toInt →
Rt .null h)) : WM k_Lines_startRow p_Lines_startRow_1 [.ref x0, .int x1, Jv, Jv, .int x4] [] h 0 0 Rt := WM_at (hs := HH_Lines_startRow) G_Lines_startRow 21 7 rfl ⟨fun c5 => ⟨(H.1 c5).1, ⟨((H.1 c5).2).1, ⟨(((H.1 c5).2).2).1, ((((H.1 c5).2).2).2 _ rfl)⟩⟩⟩, H.2⟩
set_option maxRecDepth 100000 in
set_option maxHeartbeats 4000000 in
theorem v_Lines_addPair (x0 : Nat) (x1 : Int64) (x3 : Nat) (h : MH) (Rt : Value → MH → Prop) (H :
kd h x0 = 5 ∧
SpI k_Lines_seat [.ref x0, .long x1] h (fun r3 g1 =>
kd g1 x0 = 5 ∧
(r3.toInt < (mi g1 x0 3).toInt →
kd g1 (mr g1 x0 2) = 20 ∧
InB r3 (ln g1 (mr g1 x0 2)) ∧
kd g1 (mr g1 x0 1) = 21 ∧
InB ((6 : Int32) * (mi g1 (mr g1 x0 2) (ix r3))) (ln g1 (mr g1 x0 1)) ∧
((lg_cmp (ml g1 (mr g1 x0 1) (ix ((6 : Int32) * (mi g1 (mr g1 x0 2) (ix r3))))) x1) = 0 →
WM k_Lines_addPair p_Lines_addPair_2 [.ref x0, Jv, Jv, .ref x3, .int r3, Jv, Jv] [] g1 0 0 Rt) ∧
(¬ (lg_cmp (ml g1 (mr g1 x0 1) (ix ((6 : Int32) * (mi g1 (mr g1 x0 2) (ix r3))))) x1) = 0 →
WM k_Lines_addPair p_Lines_addPair_1 [.ref x0, .long x1, Jv, .ref x3, .int r3, Jv, Jv] [] g1 0 0 Rt)) ∧
(¬ r3.toInt < (mi g1 x0 3).toInt →
WM k_Lines_addPair p_Lines_addPair_1 [.ref x0, .long x1, Jv, .ref x3, .int r3, Jv, Jv] [] g1 0 0 Rt))) : Sp k_Lines_addPair [.ref x0, .long x1, .ref x3] h Rt := Sp_intro2 (by decide) (by decide +kernel) rfl (Nat.le_of_ble_eq_true rfl) (WM_at (hs := HH_Lines_addPair) G_Lines_addPair 101 0 rfl ⟨H.1, SpI.mono H.2 (fun r3 g1 qg1 => ⟨qg1.1, ⟨fun c9 => ⟨qg1.1, ⟨qg1.1, (qg1.2.1 c9)⟩⟩, qg1.2.2⟩⟩)⟩)
set_option maxRecDepth 100000 in
set_option maxHeartbeats 4000000 in
theorem v_Lines_addPair_1 (x0 : Nat) (x1 : Int64) (x3 : Nat) (x4 : Int32) (h : MH) (Rt : Value → MH → Prop) (H :
kd h x0 = 5 ∧
kd h (mr h x0 2) = 20 ∧
((mi h x0 3).toInt < (Int32.ofNat (ln h (mr h x0 2))).toInt →
(0 ≤ x4.toInt ∧ 0 ≤ (x4 + (1 : Int32)).toInt ∧ 0 ≤ ((mi h x0 3) - x4).toInt ∧ x4.toInt + ((mi h x0 3) - x4).toInt ≤ ln h (mr h x0 2) ∧ (x4 + (1 : Int32)).toInt + ((mi h x0 3) - x4).toInt ≤ ln h (mr h x0 2)) ∧
∀ g4 : MH, g4 = cpI h (mr h x0 2) (ix x4) (mr h x0 2) (ix (x4 + (1 : Int32))) (ix ((mi h x0 3) - x4)) →
InB x4 (ln h (mr h x0 2)) ∧
∀ g6 : MH, g6 = wi g4 (mr h x0 2) (ix x4) (mi g4 x0 3) →
SpV k_Lines_startRow [.ref x0, .int ((6 : Int32) * (mi g6 x0 3)), .long x1] g6 (fun g7 =>
kd g7 x0 = 5 ∧
∀ g9 : MH, g9 = wi g7 x0 3 ((mi g7 x0 3) + (1 : Int32)) →
WM k_Lines_addPair p_Lines_addPair_2 [.ref x0, Jv, Jv, .ref x3, .int x4, Jv, Jv] [] g9 0 0 Rt)) ∧
(¬ (mi h x0 3).toInt < (Int32.ofNat (ln h (mr h x0 2))).toInt →
Rt .null h)) : WM k_Lines_addPair p_Lines_addPair_1 [.ref x0, .long x1, Jv, .ref x3, .int x4, Jv, Jv] [] h 0 0 Rt := WM_at (hs := HH_Lines_addPair) G_Lines_addPair 101 20 rfl ⟨H.1, ⟨H.1, ⟨H.2.1, ⟨fun c10 => ⟨H.1, ⟨H.1, ⟨H.1, ⟨H.2.1, ⟨H.2.1, ⟨(H.2.2.1 c10).1, ⟨H.1, ⟨H.1, ⟨H.2.1, ⟨((H.2.2.1 c10).2 _ rfl).1, ⟨H.1, ⟨H.1, SpV.mono (((H.2.2.1 c10).2 _ rfl).2 _ rfl) (fun g7 qg7 => ⟨qg7.1, ⟨qg7.1, (qg7.2 _ rfl)⟩⟩)⟩⟩⟩⟩⟩⟩⟩⟩⟩⟩⟩⟩, H.2.2.2⟩⟩⟩⟩
set_option maxRecDepth 100000 in
set_option maxHeartbeats 4000000 in
theorem v_Lines_addPair_2 (x0 : Nat) (x3 : Nat) (x4 : Int32) (h : MH) (Rt : Value → MH → Prop) (H :
kd h x0 = 5 ∧
kd h (mr h x0 2) = 20 ∧
InB x4 (ln h (mr h x0 2)) ∧
kd h (mr h x0 1) = 21 ∧
InB (((6 : Int32) * (mi h (mr h x0 2) (ix x4))) + (1 : Int32)) (ln h (mr h x0 1)) ∧
∀ g6 : MH, g6 = wl h (mr h x0 1) (ix (((6 : Int32) * (mi h (mr h x0 2) (ix x4))) + (1 : Int32))) ((ml h (mr h x0 1) (ix (((6 : Int32) * (mi h (mr h x0 2) (ix x4))) + (1 : Int32)))) + (2 : Int64)) →
WM k_Lines_addPair p_Lines_addPair_3 [.ref x0, Jv, Jv, .ref x3, Jv, .int ((6 : Int32) * (mi h (mr h x0 2) (ix x4))), .int (0 : Int32)] [] g6 0 0 Rt) : WM k_Lines_addPair p_Lines_addPair_2 [.ref x0, Jv, Jv, .ref x3, .int x4, Jv, Jv] [] h 0 0 Rt := WM_at (hs := HH_Lines_addPair) G_Lines_addPair 101 59 rfl ⟨H.1, ⟨H.2.1, ⟨H.2.2.1, ⟨H.1, ⟨H.2.2.2.1, ⟨H.2.2.2.2.1, ⟨H.2.2.2.1, ⟨H.2.2.2.2.1, (H.2.2.2.2.2 _ rfl)⟩⟩⟩⟩⟩⟩⟩⟩
set_option maxRecDepth 100000 in
set_option maxHeartbeats 4000000 in
theorem v_Lines_addPair_3 (x0 : Nat) (x3 : Nat) (x5 : Int32) (x6 : Int32) (h : MH) (Rt : Value → MH → Prop) (H :
(x6.toInt < (4 : Int32).toInt →
kd h x0 = 5 ∧
kd h (mr h x0 1) = 21 ∧
InB ((x5 + (2 : Int32)) + x6) (ln h (mr h x0 1)) ∧
kd h x3 = 21 ∧
InB x6 (ln h x3) ∧
∀ g6 : MH, g6 = wl h (mr h x0 1) (ix ((x5 + (2 : Int32)) + x6)) ((ml h (mr h x0 1) (ix ((x5 + (2 : Int32)) + x6))) + ((2 : Int64) * (ml h x3 (ix x6)))) →
WM k_Lines_addPair p_Lines_addPair_3 [.ref x0, Jv, Jv, .ref x3, Jv, .int x5, .int (x6 + (1 : Int32))] [] g6 0 0 Rt) ∧
(¬ x6.toInt < (4 : Int32).toInt →
Rt .null h)) : WM k_Lines_addPair p_Lines_addPair_3 [.ref x0, Jv, Jv, .ref x3, Jv, .int x5, .int x6] [] h 0 0 Rt := WM_at (hs := HH_Lines_addPair) G_Lines_addPair 101 78 rfl ⟨fun c7 => ⟨(H.1 c7).1, ⟨((H.1 c7).2).1, ⟨(((H.1 c7).2).2).1, ⟨((((H.1 c7).2).2).2).1, ⟨(((((H.1 c7).2).2).2).2).1, ⟨((H.1 c7).2).1, ⟨(((H.1 c7).2).2).1, ((((((H.1 c7).2).2).2).2).2 _ rfl)⟩⟩⟩⟩⟩⟩⟩, H.2⟩
set_option maxRecDepth 100000 in
set_option maxHeartbeats 4000000 in
theorem v_Lines_gather (x0 : Nat) (x1 : Nat) (x2 : Nat) (h : MH) (Rt : Value → MH → Prop) (H :
kd h x1 = 6 ∧
SpR k_Lines_reciprocal [.ref (mr h x1 1)] h (fun r3 g2 =>
WM k_Lines_gather p_Lines_gather_1 [.ref x0, .ref x1, .ref x2, .ref r3, .int (0 : Int32), Jv, Jv] [] g2 1 6 Rt)) : Sp k_Lines_gather [.ref x0, .ref x1, .ref x2] h Rt := Sp_intro2 (by decide) (by decide +kernel) rfl (Nat.le_of_ble_eq_true rfl) (WM_at (hs := HH_Lines_gather) G_Lines_gather 65 0 rfl H)
set_option maxRecDepth 100000 in
set_option maxHeartbeats 4000000 in
theorem v_Lines_gather_1 (x0 : Nat) (x1 : Nat) (x2 : Nat) (x3 : Nat) (x4 : Int32) (cc ss : Nat) (h : MH) (Rt : Value → MH → Prop) (H :
kd h x0 = 5 ∧
((mi h x0 0).toInt < x4.toInt →
gd cc 1 (
gd ss 6 (
Rt .null h))) ∧
(¬ (mi h x0 0).toInt < x4.toInt →
(x4 = 0 →
WM k_Lines_gather p_Lines_gather_2 [.ref x0, .ref x1, .ref x2, .ref x3, .int x4, .int (0 : Int32), Jv] [] h cc ss Rt) ∧
(¬ x4 = 0 →
WM k_Lines_gather p_Lines_gather_2 [.ref x0, .ref x1, .ref x2, .ref x3, .int x4, .int (-(mi h x0 0)), Jv] [] h cc ss Rt))) : WM k_Lines_gather p_Lines_gather_1 [.ref x0, .ref x1, .ref x2, .ref x3, .int x4, Jv, Jv] [] h cc ss Rt := WM_at (hs := HH_Lines_gather) G_Lines_gather 65 6 rfl ⟨H.1, ⟨H.2.1, fun c2 => ⟨(H.2.2 c2).1, fun c3 => ⟨H.1, ((H.2.2 c2).2 c3)⟩⟩⟩⟩
set_option maxRecDepth 100000 in
set_option maxHeartbeats 4000000 in
theorem v_Lines_gather_2 (x0 : Nat) (x1 : Nat) (x2 : Nat) (x3 : Nat) (x4 : Int32) (x5 : Int32) (cc ss : Nat) (h : MH) (Rt : Value → MH → Prop) (H :
kd h x0 = 5 ∧
((mi h x0 0).toInt < x5.toInt →
WM k_Lines_gather p_Lines_gather_1 [.ref x0, .ref x1, .ref x2, .ref x3, .int (x4 + (1 : Int32)), Jv, Jv] [] h cc ss Rt) ∧
(¬ (mi h x0 0).toInt < x5.toInt →
(x4 = 0 →
(x5 = 0 →
WM k_Lines_gather p_Lines_gather_3 [.ref x0, .ref x1, .ref x2, .ref x3, .int x4, .int x5, .int (1 : Int32)] [] h cc ss Rt) ∧
(¬ x5 = 0 →
WM k_Lines_gather p_Lines_gather_3 [.ref x0, .ref x1, .ref x2, .ref x3, .int x4, .int x5, .int (-(mi h x0 0))] [] h cc ss Rt)) ∧
(¬ x4 = 0 →
WM k_Lines_gather p_Lines_gather_3 [.ref x0, .ref x1, .ref x2, .ref x3, .int x4, .int x5, .int (-(mi h x0 0))] [] h cc ss Rt))) : WM k_Lines_gather p_Lines_gather_2 [.ref x0, .ref x1, .ref x2, .ref x3, .int x4, .int x5, Jv] [] h cc ss Rt := WM_at (hs := HH_Lines_gather) G_Lines_gather 65 18 rfl ⟨H.1, ⟨H.2.1, fun c2 => ⟨fun c3 => ⟨((H.2.2 c2).1 c3).1, fun c4 => ⟨H.1, (((H.2.2 c2).1 c3).2 c4)⟩⟩, fun c3 => ⟨H.1, ((H.2.2 c2).2 c3)⟩⟩⟩⟩
set_option maxRecDepth 100000 in
set_option maxHeartbeats 4000000 in
theorem v_Lines_gather_3 (x0 : Nat) (x1 : Nat) (x2 : Nat) (x3 : Nat) (x4 : Int32) (x5 : Int32) (x6 : Int32) (cc ss : Nat) (h : MH) (Rt : Value → MH → Prop) (H :
kd h x0 = 5 ∧
((mi h x0 0).toInt < x6.toInt →
WM k_Lines_gather p_Lines_gather_2 [.ref x0, .ref x1, .ref x2, .ref x3, .int x4, .int (x5 + (1 : Int32)), Jv] [] h cc ss Rt) ∧
(¬ (mi h x0 0).toInt < x6.toInt →
kd h x2 = 11 ∧
gd (cc + 0) 1 (
gd (ss + 0) 6 (
SpV k_Wave_sum [.ref x2, .ref x1, .int x4, .int x5, .int x6] h (fun g2 =>
kd g2 x2 = 11 ∧
gd ((cc + 0) + 0) 1 (
gd ((ss + 0) + 0) 6 (
SpI k_Wave_isZero [.ref x2] g2 (fun r6 g4 =>
(r6 = 0 →
kd g4 x3 = 3 ∧
gd (((cc + 0) + 0) + 0) 1 (
gd (((ss + 0) + 0) + 0) 6 (
SpL k_Form_square [.ref x3, .long x4.toInt64, .long x5.toInt64, .long x6.toInt64] g4 (fun r9 g7 =>
kd g7 x2 = 11 ∧
kd g7 x0 = 5 ∧
gd ((((cc + 0) + 0) + 0) + 0) 1 (
gd ((((ss + 0) + 0) + 0) + 0) 6 (
SpV k_Lines_addPair [.ref x0, .long r9, .ref (mr g7 x2 2)] g7 (fun g11 =>
WM k_Lines_gather p_Lines_gather_3 [.ref x0, .ref x1, .ref x2, .ref x3, .int x4, .int x5, .int (x6 + (1 : Int32))] [] g11 ((((cc + 0) + 0) + 0) + 0) ((((ss + 0) + 0) + 0) + 0) Rt))))))) ∧
(¬ r6 = 0 →
WM k_Lines_gather p_Lines_gather_3 [.ref x0, .ref x1, .ref x2, .ref x3, .int x4, .int x5, .int (x6 + (1 : Int32))] [] g4 ((cc + 0) + 0) ((ss + 0) + 0) Rt))))))))) : WM k_Lines_gather p_Lines_gather_3 [.ref x0, .ref x1, .ref x2, .ref x3, .int x4, .int x5, .int x6] [] h cc ss Rt := WM_at (hs := HH_Lines_gather) G_Lines_gather 65 32 rfl H
set_option maxRecDepth 100000 in
set_option maxHeartbeats 4000000 in
theorem v_Lines_renew (x0 : Nat) (x1 : Nat) (x2 : Nat) (h : MH) (Rt : Value → MH → Prop) (H :
kd h x0 = 5 ∧
kd h x1 = 6 ∧
((mi h x0 4) = (mi h x1 6) →
Rt .null h) ∧
(¬ (mi h x0 4) = (mi h x1 6) →
∀ g3 : MH, g3 = wi h x0 4 (mi h x1 6) →
∀ g4 : MH, g4 = wi g3 x0 3 (0 : Int32) →
SpV k_Lines_gather [.ref x0, .ref x1, .ref x2] g4 (fun g5 =>
Rt .null g5))) : Sp k_Lines_renew [.ref x0, .ref x1, .ref x2] h Rt := Sp_intro2 (by decide) (by decide +kernel) rfl (Nat.le_of_ble_eq_true rfl) (WM_at (hs := HH_Lines_renew) G_Lines_renew 18 0 rfl ⟨H.1, ⟨H.2.1, ⟨H.2.2.1, fun c6 => ⟨H.2.1, ⟨H.1, ⟨H.1, ⟨H.1, (((H.2.2.2 c6) _ rfl) _ rfl)⟩⟩⟩⟩⟩⟩⟩)
set_option maxRecDepth 100000 in
set_option maxHeartbeats 4000000 in
theorem v_Ho_linesAt (x0 : Nat) (x1 : Int32) (x2 : Int32) (h : MH) (Rt : Value → MH → Prop) (H :
kd h x0 = 12 ∧
SpR k_Ho_modelAt [.ref x0, .int x1] h (fun r3 g1 =>
(r3 = 0 →
Rt (.ref 0) g1) ∧
(¬ r3 = 0 →
(x2.toInt < (1 : Int32).toInt →
Rt (.ref 0) g1) ∧
(¬ x2.toInt < (1 : Int32).toInt →
((6 : Int32).toInt < x2.toInt →
Rt (.ref 0) g1) ∧
(¬ (6 : Int32).toInt < x2.toInt →
kd g1 r3 = 6 ∧
kd g1 (mr g1 r3 8) = 27 ∧
InB x2 (ln g1 (mr g1 r3 8)) ∧
((mr g1 (mr g1 r3 8) (ix x2)) = 0 →
∀ g10 : MH, g10 = nw g1 5 0 →
kd g10 (hn g1) = 5 ∧
SpV k_Lines_init [.ref (hn g1), .int x2] g10 (fun g11 =>
kd g11 r3 = 6 ∧
kd g11 (mr g11 r3 8) = 27 ∧
InB x2 (ln g11 (mr g11 r3 8)) ∧
kd g11 (hn g1) = 5 ∧
∀ g17 : MH, g17 = wr g11 (mr g11 r3 8) (ix x2) (hn g1) →
kd g11 x0 = 12 ∧
SpV k_Lines_renew [.ref (hn g1), .ref r3, .ref (mr g17 x0 17)] g17 (fun g19 =>
Rt (.ref (hn g1)) g19))) ∧
(¬ (mr g1 (mr g1 r3 8) (ix x2)) = 0 →
kd g1 x0 = 12 ∧
kd g1 (mr g1 (mr g1 r3 8) (ix x2)) = 5 ∧
SpV k_Lines_renew [.ref (mr g1 (mr g1 r3 8) (ix x2)), .ref r3, .ref (mr g1 x0 17)] g1 (fun g8 =>
Rt (.ref (mr g1 (mr g1 r3 8) (ix x2))) g8))))))) : Sp k_Ho_linesAt [.ref x0, .int x1, .int x2] h Rt := Sp_intro2 (by decide) (by decide +kernel) rfl (Nat.le_of_ble_eq_true rfl) (WM_at (hs := HH_Ho_linesAt) G_Ho_linesAt 39 0 rfl ⟨H.1, SpR.mono H.2 (fun r3 g1 qg1 => ⟨qg1.1, fun c20 => ⟨(qg1.2 c20).1, fun c21 => ⟨((qg1.2 c20).2 c21).1, fun c22 => ⟨(((qg1.2 c20).2 c21).2 c22).1, ⟨((((qg1.2 c20).2 c21).2 c22).2).1, ⟨(((((qg1.2 c20).2 c21).2 c22).2).2).1, ⟨fun c23 => ⟨((((((((qg1.2 c20).2 c21).2 c22).2).2).2).1 c23) _ rfl).1, SpV.mono (((((((((qg1.2 c20).2 c21).2 c22).2).2).2).1 c23) _ rfl).2) (fun g11 qg11 => ⟨qg11.1, ⟨qg11.2.1, ⟨qg11.2.2.1, ⟨qg11.2.2.2.1, ⟨(qg11.2.2.2.2 _ rfl).1, ⟨qg11.2.2.2.1, (qg11.2.2.2.2 _ rfl).2⟩⟩⟩⟩⟩⟩)⟩, ((((((qg1.2 c20).2 c21).2 c22).2).2).2).2⟩⟩⟩⟩⟩⟩⟩)⟩)
set_option maxRecDepth 100000 in
set_option maxHeartbeats 4000000 in
theorem v_Ho_lines (x0 : Nat) (x1 : Int32) (x2 : Int32) (h : MH) (Rt : Value → MH → Prop) (H :
kd h x0 = 12 ∧
SpR k_Ho_linesAt [.ref x0, .int x1, .int x2] h (fun r3 g1 =>
(r3 = 0 →
Rt (.int (-1 : Int32)) g1) ∧
(¬ r3 = 0 →
kd g1 r3 = 5 ∧
Rt (.int (mi g1 r3 3)) g1))) : Sp k_Ho_lines [.ref x0, .int x1, .int x2] h Rt := Sp_intro2 (by decide) (by decide +kernel) rfl (Nat.le_of_ble_eq_true rfl) (WM_at (hs := HH_Ho_lines) G_Ho_lines 13 0 rfl H)
set_option maxRecDepth 100000 in
set_option maxHeartbeats 4000000 in
theorem v_Ref_addLine (x0 : Nat) (x1 : Int64) (h : MH) (Rt : Value → MH → Prop) (H :
kd h x0 = 13 ∧
WM k_Ref_addLine p_Ref_addLine_1 [.ref x0, .long x1, Jv, .int (mi h x0 50), Jv, Jv] [] h 0 0 Rt) : Sp k_Ref_addLine [.ref x0, .long x1] h Rt := Sp_intro2 (by decide) (by decide +kernel) rfl (Nat.le_of_ble_eq_true rfl) (WM_at (hs := HH_Ref_addLine) G_Ref_addLine 148 0 rfl H)
set_option maxRecDepth 100000 in
set_option maxHeartbeats 4000000 in
theorem v_Ref_addLine_1 (x0 : Nat) (x1 : Int64) (x3 : Int32) (h : MH) (Rt : Value → MH → Prop) (H :
(0 < x3.toInt →
kd h x0 = 13 ∧
kd h (mr h x0 47) = 21 ∧
InB (x3 - (1 : Int32)) (ln h (mr h x0 47)) ∧
(0 < (lg_cmp (ml h (mr h x0 47) (ix (x3 - (1 : Int32)))) x1).toInt →
WM k_Ref_addLine p_Ref_addLine_1 [.ref x0, .long x1, Jv, .int (x3 + (-1 : Int32)), Jv, Jv] [] h 0 0 Rt) ∧
(¬ 0 < (lg_cmp (ml h (mr h x0 47) (ix (x3 - (1 : Int32)))) x1).toInt →
WM k_Ref_addLine p_Ref_addLine_2 [.ref x0, .long x1, Jv, .int x3, Jv, Jv] [] h 0 0 Rt)) ∧
(¬ 0 < x3.toInt →
WM k_Ref_addLine p_Ref_addLine_2 [.ref x0, .long x1, Jv, .int x3, Jv, Jv] [] h 0 0 Rt)) : WM k_Ref_addLine p_Ref_addLine_1 [.ref x0, .long x1, Jv, .int x3, Jv, Jv] [] h 0 0 Rt := WM_at (hs := HH_Ref_addLine) G_Ref_addLine 148 3 rfl H
set_option maxRecDepth 100000 in
set_option maxHeartbeats 4000000 in
theorem v_Ref_addLine_2 (x0 : Nat) (x1 : Int64) (x3 : Int32) (h : MH) (Rt : Value → MH → Prop) (H :
(x3 = 0 →
kd h x0 = 13 ∧
WM k_Ref_addLine p_Ref_addLine_3 [.ref x0, .long x1, Jv, .int x3, .int (mi h x0 50), Jv] [] h 0 0 Rt) ∧
(¬ x3 = 0 →
kd h x0 = 13 ∧
kd h (mr h x0 47) = 21 ∧
InB (x3 - (1 : Int32)) (ln h (mr h x0 47)) ∧
((lg_cmp (ml h (mr h x0 47) (ix (x3 - (1 : Int32)))) x1) = 0 →
WM k_Ref_addLine p_Ref_addLine_6 [.ref x0, Jv, Jv, .int (x3 + (-1 : Int32)), Jv, Jv] [] h 0 0 Rt) ∧
(¬ (lg_cmp (ml h (mr h x0 47) (ix (x3 - (1 : Int32)))) x1) = 0 →
WM k_Ref_addLine p_Ref_addLine_3 [.ref x0, .long x1, Jv, .int x3, .int (mi h x0 50), Jv] [] h 0 0 Rt))) : WM k_Ref_addLine p_Ref_addLine_2 [.ref x0, .long x1, Jv, .int x3, Jv, Jv] [] h 0 0 Rt := WM_at (hs := HH_Ref_addLine) G_Ref_addLine 148 16 rfl ⟨H.1, fun c5 => ⟨(H.2 c5).1, ⟨((H.2 c5).2).1, ⟨(((H.2 c5).2).2).1, ⟨((((H.2 c5).2).2).2).1, fun c6 => ⟨(H.2 c5).1, (((((H.2 c5).2).2).2).2 c6)⟩⟩⟩⟩⟩⟩
set_option maxRecDepth 100000 in
set_option maxHeartbeats 4000000 in
theorem v_Ref_addLine_3 (x0 : Nat) (x1 : Int64) (x3 : Int32) (x4 : Int32) (h : MH) (Rt : Value → MH → Prop) (H :
(x3.toInt < x4.toInt →
kd h x0 = 13 ∧
kd h (mr h x0 47) = 21 ∧
InB (x4 - (1 : Int32)) (ln h (mr h x0 47)) ∧
InB x4 (ln h (mr h x0 47)) ∧
∀ g12 : MH, g12 = wl h (mr h x0 47) (ix x4) (ml h (mr h x0 47) (ix (x4 - (1 : Int32)))) →
kd h (mr h x0 48) = 20 ∧
InB (x4 - (1 : Int32)) (ln h (mr h x0 48)) ∧
InB x4 (ln h (mr h x0 48)) ∧
∀ g16 : MH, g16 = wi g12 (mr h x0 48) (ix x4) (mi h (mr h x0 48) (ix (x4 - (1 : Int32)))) →
WM k_Ref_addLine p_Ref_addLine_4 [.ref x0, .long x1, Jv, .int x3, .int x4, .int (0 : Int32)] [] g16 0 0 Rt) ∧
(¬ x3.toInt < x4.toInt →
kd h x0 = 13 ∧
kd h (mr h x0 47) = 21 ∧
InB x3 (ln h (mr h x0 47)) ∧
∀ g4 : MH, g4 = wl h (mr h x0 47) (ix x3) x1 →
kd h (mr h x0 48) = 20 ∧
InB x3 (ln h (mr h x0 48)) ∧
∀ g7 : MH, g7 = wi g4 (mr h x0 48) (ix x3) (0 : Int32) →
WM k_Ref_addLine p_Ref_addLine_5 [.ref x0, Jv, Jv, .int x3, .int (0 : Int32), Jv] [] g7 0 0 Rt)) : WM k_Ref_addLine p_Ref_addLine_3 [.ref x0, .long x1, Jv, .int x3, .int x4, Jv] [] h 0 0 Rt := WM_at (hs := HH_Ref_addLine) G_Ref_addLine 148 30 rfl ⟨fun c17 => ⟨(H.1 c17).1, ⟨(H.1 c17).1, ⟨((H.1 c17).2).1, ⟨(((H.1 c17).2).2).1, ⟨((H.1 c17).2).1, ⟨((((H.1 c17).2).2).2).1, ⟨(H.1 c17).1, ⟨(H.1 c17).1, ⟨(((((H.1 c17).2).2).2).2 _ rfl).1, ⟨((((((H.1 c17).2).2).2).2 _ rfl).2).1, ⟨(((((H.1 c17).2).2).2).2 _ rfl).1, ⟨(((((((H.1 c17).2).2).2).2 _ rfl).2).2).1, ((((((((H.1 c17).2).2).2).2 _ rfl).2).2).2 _ rfl)⟩⟩⟩⟩⟩⟩⟩⟩⟩⟩⟩⟩, fun c17 => ⟨(H.2 c17).1, ⟨((H.2 c17).2).1, ⟨(((H.2 c17).2).2).1, ⟨(H.2 c17).1, ⟨((((H.2 c17).2).2).2 _ rfl).1, ⟨(((((H.2 c17).2).2).2 _ rfl).2).1, ((((((H.2 c17).2).2).2 _ rfl).2).2 _ rfl)⟩⟩⟩⟩⟩⟩⟩
set_option maxRecDepth 100000 in
set_option maxHeartbeats 4000000 in
theorem v_Ref_addLine_4 (x0 : Nat) (x1 : Int64) (x3 : Int32) (x4 : Int32) (x5 : Int32) (h : MH) (Rt : Value → MH → Prop) (H :
(x5.toInt < (4 : Int32).toInt →
kd h x0 = 13 ∧
kd h (mr h x0 49) = 21 ∧
InB ((((4 : Int32) * x4) - (4 : Int32)) + x5) (ln h (mr h x0 49)) ∧
InB (((4 : Int32) * x4) + x5) (ln h (mr h x0 49)) ∧
∀ g5 : MH, g5 = wl h (mr h x0 49) (ix (((4 : Int32) * x4) + x5)) (ml h (mr h x0 49) (ix ((((4 : Int32) * x4) - (4 : Int32)) + x5))) →
WM k_Ref_addLine p_Ref_addLine_4 [.ref x0, .long x1, Jv, .int x3, .int x4, .int (x5 + (1 : Int32))] [] g5 0 0 Rt) ∧
(¬ x5.toInt < (4 : Int32).toInt →
WM k_Ref_addLine p_Ref_addLine_3 [.ref x0, .long x1, Jv, .int x3, .int (x4 + (-1 : Int32)), Jv] [] h 0 0 Rt)) : WM k_Ref_addLine p_Ref_addLine_4 [.ref x0, .long x1, Jv, .int x3, .int x4, .int x5] [] h 0 0 Rt := WM_at (hs := HH_Ref_addLine) G_Ref_addLine 148 55 rfl ⟨fun c6 => ⟨(H.1 c6).1, ⟨(H.1 c6).1, ⟨((H.1 c6).2).1, ⟨(((H.1 c6).2).2).1, ⟨((H.1 c6).2).1, ⟨((((H.1 c6).2).2).2).1, (((((H.1 c6).2).2).2).2 _ rfl)⟩⟩⟩⟩⟩⟩, H.2⟩
set_option maxRecDepth 100000 in
set_option maxHeartbeats 4000000 in
theorem v_Ref_addLine_5 (x0 : Nat) (x3 : Int32) (x4 : Int32) (h : MH) (Rt : Value → MH → Prop) (H :
(x4.toInt < (4 : Int32).toInt →
kd h x0 = 13 ∧
kd h (mr h x0 49) = 21 ∧
InB (((4 : Int32) * x3) + x4) (ln h (mr h x0 49)) ∧
∀ g6 : MH, g6 = wl h (mr h x0 49) (ix (((4 : Int32) * x3) + x4)) (0 : Int64) →
WM k_Ref_addLine p_Ref_addLine_5 [.ref x0, Jv, Jv, .int x3, .int (x4 + (1 : Int32)), Jv] [] g6 0 0 Rt) ∧
(¬ x4.toInt < (4 : Int32).toInt →
kd h x0 = 13 ∧
∀ g2 : MH, g2 = wi h x0 50 ((mi h x0 50) + (1 : Int32)) →
WM k_Ref_addLine p_Ref_addLine_6 [.ref x0, Jv, Jv, .int x3, Jv, Jv] [] g2 0 0 Rt)) : WM k_Ref_addLine p_Ref_addLine_5 [.ref x0, Jv, Jv, .int x3, .int x4, Jv] [] h 0 0 Rt := WM_at (hs := HH_Ref_addLine) G_Ref_addLine 148 92 rfl ⟨fun c7 => ⟨(H.1 c7).1, ⟨((H.1 c7).2).1, ⟨(((H.1 c7).2).2).1, ((((H.1 c7).2).2).2 _ rfl)⟩⟩⟩, fun c7 => ⟨(H.2 c7).1, ⟨(H.2 c7).1, ((H.2 c7).2 _ rfl)⟩⟩⟩
set_option maxRecDepth 100000 in
set_option maxHeartbeats 4000000 in
theorem v_Ref_addLine_6 (x0 : Nat) (x3 : Int32) (h : MH) (Rt : Value → MH → Prop) (H :
kd h x0 = 13 ∧
kd h (mr h x0 48) = 20 ∧
InB x3 (ln h (mr h x0 48)) ∧
∀ g4 : MH, g4 = wi h (mr h x0 48) (ix x3) ((mi h (mr h x0 48) (ix x3)) + (1 : Int32)) →
WM k_Ref_addLine p_Ref_addLine_7 [.ref x0, Jv, Jv, .int x3, .int (0 : Int32), Jv] [] g4 0 0 Rt) : WM k_Ref_addLine p_Ref_addLine_6 [.ref x0, Jv, Jv, .int x3, Jv, Jv] [] h 0 0 Rt := WM_at (hs := HH_Ref_addLine) G_Ref_addLine 148 114 rfl ⟨H.1, ⟨H.2.1, ⟨H.2.2.1, ⟨H.2.1, ⟨H.2.2.1, (H.2.2.2 _ rfl)⟩⟩⟩⟩⟩
set_option maxRecDepth 100000 in
set_option maxHeartbeats 4000000 in
theorem v_Ref_addLine_7 (x0 : Nat) (x3 : Int32) (x4 : Int32) (h : MH) (Rt : Value → MH → Prop) (H :
(x4.toInt < (4 : Int32).toInt →
kd h x0 = 13 ∧
kd h (mr h x0 49) = 21 ∧
InB (((4 : Int32) * x3) + x4) (ln h (mr h x0 49)) ∧
kd h (mr h x0 46) = 21 ∧
InB ((8 : Int32) + x4) (ln h (mr h x0 46)) ∧
∀ g6 : MH, g6 = wl h (mr h x0 49) (ix (((4 : Int32) * x3) + x4)) ((ml h (mr h x0 49) (ix (((4 : Int32) * x3) + x4))) + (ml h (mr h x0 46) (ix ((8 : Int32) + x4)))) →
WM k_Ref_addLine p_Ref_addLine_7 [.ref x0, Jv, Jv, .int x3, .int (x4 + (1 : Int32)), Jv] [] g6 0 0 Rt) ∧
(¬ x4.toInt < (4 : Int32).toInt →
Rt .null h)) : WM k_Ref_addLine p_Ref_addLine_7 [.ref x0, Jv, Jv, .int x3, .int x4, Jv] [] h 0 0 Rt := WM_at (hs := HH_Ref_addLine) G_Ref_addLine 148 124 rfl ⟨fun c7 => ⟨(H.1 c7).1, ⟨((H.1 c7).2).1, ⟨(((H.1 c7).2).2).1, ⟨(H.1 c7).1, ⟨((((H.1 c7).2).2).2).1, ⟨(((((H.1 c7).2).2).2).2).1, ⟨((H.1 c7).2).1, ⟨(((H.1 c7).2).2).1, ((((((H.1 c7).2).2).2).2).2 _ rfl)⟩⟩⟩⟩⟩⟩⟩⟩, H.2⟩
set_option maxRecDepth 100000 in
set_option maxHeartbeats 4000000 in
theorem v_Ref_gatherLines (x0 : Nat) (x1 : Int32) (x2 : Int32) (h : MH) (Rt : Value → MH → Prop) (H :
kd h x0 = 13 ∧
((mi h x0 51) = x1 →
((mi h x0 52) = x2 →
Rt .null h) ∧
(¬ (mi h x0 52) = x2 →
WM k_Ref_gatherLines p_Ref_gatherLines_1 [.ref x0, .int x1, .int x2, Jv, Jv, Jv, Jv, Jv, Jv, Jv, Jv, Jv, Jv, Jv, Jv, Jv, Jv, Jv, Jv, Jv, Jv] [] h 0 0 Rt)) ∧
(¬ (mi h x0 51) = x1 →
WM k_Ref_gatherLines p_Ref_gatherLines_1 [.ref x0, .int x1, .int x2, Jv, Jv, Jv, Jv, Jv, Jv, Jv, Jv, Jv, Jv, Jv, Jv, Jv, Jv, Jv, Jv, Jv, Jv] [] h 0 0 Rt)) : Sp k_Ref_gatherLines [.ref x0, .int x1, .int x2] h Rt := Sp_intro2 (by decide) (by decide +kernel) rfl (Nat.le_of_ble_eq_true rfl) (WM_at (hs := HH_Ref_gatherLines) G_Ref_gatherLines 308 0 rfl ⟨H.1, ⟨fun c2 => ⟨H.1, (H.2.1 c2)⟩, H.2.2⟩⟩)
set_option maxRecDepth 100000 in
set_option maxHeartbeats 4000000 in
theorem v_Ref_gatherLines_1 (x0 : Nat) (x1 : Int32) (x2 : Int32) (h : MH) (Rt : Value → MH → Prop) (H :
kd h x0 = 13 ∧
∀ g2 : MH, g2 = wi h x0 51 x1 →
∀ g3 : MH, g3 = wi g2 x0 52 x2 →
∀ g4 : MH, g4 = wi g3 x0 50 (0 : Int32) →
kd h (mr h x0 39) = 20 ∧
InB x1 (ln h (mr h x0 39)) ∧
kd h (mr h x0 29) = 21 ∧
InB (((6 : Int32) * (mi g4 (mr h x0 39) (ix x1))) + (1 : Int32)) (ln h (mr h x0 29)) ∧
InB (((6 : Int32) * (mi g4 (mr h x0 39) (ix x1))) + (2 : Int32)) (ln h (mr h x0 29)) ∧
InB (((6 : Int32) * (mi g4 (mr h x0 39) (ix x1))) + (3 : Int32)) (ln h (mr h x0 29)) ∧
InB ((6 : Int32) * (mi g4 (mr h x0 39) (ix x1))) (ln h (mr h x0 29)) ∧
InB (((6 : Int32) * (mi g4 (mr h x0 39) (ix x1))) + (4 : Int32)) (ln h (mr h x0 29)) ∧
WM k_Ref_gatherLines p_Ref_gatherLines_2 [.ref x0, .int x1, .int x2, .int ((6 : Int32) * (mi g4 (mr h x0 39) (ix x1))), .long (((ml h (mr h x0 29) (ix (((6 : Int32) * (mi g4 (mr h x0 39) (ix x1))) + (1 : Int32)))) * (ml h (mr h x0 29) (ix (((6 : Int32) * (mi g4 (mr h x0 39) (ix x1))) + (2 : Int32))))) - ((ml h (mr h x0 29) (ix (((6 : Int32) * (mi g4 (mr h x0 39) (ix x1))) + (3 : Int32)))) * (ml h (mr h x0 29) (ix (((6 : Int32) * (mi g4 (mr h x0 39) (ix x1))) + (3 : Int32)))))), Jv, .long (((ml h (mr h x0 29) (ix ((6 : Int32) * (mi g4 (mr h x0 39) (ix x1))))) * (ml h (mr h x0 29) (ix (((6 : Int32) * (mi g4 (mr h x0 39) (ix x1))) + (2 : Int32))))) - ((ml h (mr h x0 29) (ix (((6 : Int32) * (mi g4 (mr h x0 39) (ix x1))) + (4 : Int32)))) * (ml h (mr h x0 29) (ix (((6 : Int32) * (mi g4 (mr h x0 39) (ix x1))) + (4 : Int32)))))), Jv, Jv, Jv, Jv, Jv, Jv, Jv, Jv, Jv, Jv, Jv, Jv, Jv, Jv] [] g4 0 0 Rt) : WM k_Ref_gatherLines p_Ref_gatherLines_1 [.ref x0, .int x1, .int x2, Jv, Jv, Jv, Jv, Jv, Jv, Jv, Jv, Jv, Jv, Jv, Jv, Jv, Jv, Jv, Jv, Jv, Jv] [] h 0 0 Rt := WM_at (hs := HH_Ref_gatherLines) G_Ref_gatherLines 308 9 rfl ⟨H.1, ⟨H.1, ⟨H.1, ⟨H.1, ⟨(((H.2 _ rfl) _ rfl) _ rfl).1, ⟨((((H.2 _ rfl) _ rfl) _ rfl).2).1, ⟨H.1, ⟨(((((H.2 _ rfl) _ rfl) _ rfl).2).2).1, ⟨((((((H.2 _ rfl) _ rfl) _ rfl).2).2).2).1, ⟨H.1, ⟨(((((H.2 _ rfl) _ rfl) _ rfl).2).2).1, ⟨(((((((H.2 _ rfl) _ rfl) _ rfl).2).2).2).2).1, ⟨H.1, ⟨(((((H.2 _ rfl) _ rfl) _ rfl).2).2).1, ⟨((((((((H.2 _ rfl) _ rfl) _ rfl).2).2).2).2).2).1, ⟨H.1, ⟨(((((H.2 _ rfl) _ rfl) _ rfl).2).2).1, ⟨((((((((H.2 _ rfl) _ rfl) _ rfl).2).2).2).2).2).1, ⟨H.1, ⟨(((((H.2 _ rfl) _ rfl) _ rfl).2).2).1, ⟨(((((((((H.2 _ rfl) _ rfl) _ rfl).2).2).2).2).2).2).1, ⟨H.1, ⟨(((((H.2 _ rfl) _ rfl) _ rfl).2).2).1, ⟨(((((((H.2 _ rfl) _ rfl) _ rfl).2).2).2).2).1, ⟨H.1, ⟨(((((H.2 _ rfl) _ rfl) _ rfl).2).2).1, ⟨((((((((((H.2 _ rfl) _ rfl) _ rfl).2).2).2).2).2).2).2).1, ⟨H.1, ⟨(((((H.2 _ rfl) _ rfl) _ rfl).2).2).1, ⟨((((((((((H.2 _ rfl) _ rfl) _ rfl).2).2).2).2).2).2).2).1, ((((((((((H.2 _ rfl) _ rfl) _ rfl).2).2).2).2).2).2).2).2⟩⟩⟩⟩⟩⟩⟩⟩⟩⟩⟩⟩⟩⟩⟩⟩⟩⟩⟩⟩⟩⟩⟩⟩⟩⟩⟩⟩⟩⟩
set_option maxRecDepth 100000 in
set_option maxHeartbeats 4000000 in
theorem v_Ref_gatherLines_2 (x0 : Nat) (x1 : Int32) (x2 : Int32) (x3 : Int32) (x4 : Int64) (x6 : Int64) (h : MH) (Rt : Value → MH → Prop) (H :
kd h x0 = 13 ∧
kd h (mr h x0 29) = 21 ∧
InB x3 (ln h (mr h x0 29)) ∧
InB (x3 + (1 : Int32)) (ln h (mr h x0 29)) ∧
InB (x3 + (5 : Int32)) (ln h (mr h x0 29)) ∧
InB (x3 + (4 : Int32)) (ln h (mr h x0 29)) ∧
InB (x3 + (3 : Int32)) (ln h (mr h x0 29)) ∧
WM k_Ref_gatherLines p_Ref_gatherLines_3 [.ref x0, .int x1, .int x2, .int x3, .long x4, Jv, .long x6, Jv, .long (((ml h (mr h x0 29) (ix x3)) * (ml h (mr h x0 29) (ix (x3 + (1 : Int32))))) - ((ml h (mr h x0 29) (ix (x3 + (5 : Int32)))) * (ml h (mr h x0 29) (ix (x3 + (5 : Int32)))))), Jv, .long (((ml h (mr h x0 29) (ix (x3 + (4 : Int32)))) * (ml h (mr h x0 29) (ix (x3 + (5 : Int32))))) - ((ml h (mr h x0 29) (ix x3)) * (ml h (mr h x0 29) (ix (x3 + (3 : Int32)))))), Jv, .long (((ml h (mr h x0 29) (ix (x3 + (3 : Int32)))) * (ml h (mr h x0 29) (ix (x3 + (5 : Int32))))) - ((ml h (mr h x0 29) (ix (x3 + (1 : Int32)))) * (ml h (mr h x0 29) (ix (x3 + (4 : Int32)))))), Jv, Jv, Jv, Jv, Jv, Jv, Jv, Jv] [] h 0 0 Rt) : WM k_Ref_gatherLines p_Ref_gatherLines_2 [.ref x0, .int x1, .int x2, .int x3, .long x4, Jv, .long x6, Jv, Jv, Jv, Jv, Jv, Jv, Jv, Jv, Jv, Jv, Jv, Jv, Jv, Jv] [] h 0 0 Rt := WM_at (hs := HH_Ref_gatherLines) G_Ref_gatherLines 308 79 rfl ⟨H.1, ⟨H.2.1, ⟨H.2.2.1, ⟨H.1, ⟨H.2.1, ⟨H.2.2.2.1, ⟨H.1, ⟨H.2.1, ⟨H.2.2.2.2.1, ⟨H.1, ⟨H.2.1, ⟨H.2.2.2.2.1, ⟨H.1, ⟨H.2.1, ⟨H.2.2.2.2.2.1, ⟨H.1, ⟨H.2.1, ⟨H.2.2.2.2.1, ⟨H.1, ⟨H.2.1, ⟨H.2.2.1, ⟨H.1, ⟨H.2.1, ⟨H.2.2.2.2.2.2.1, ⟨H.1, ⟨H.2.1, ⟨H.2.2.2.2.2.2.1, ⟨H.1, ⟨H.2.1, ⟨H.2.2.2.2.1, ⟨H.1, ⟨H.2.1, ⟨H.2.2.2.1, ⟨H.1, ⟨H.2.1, ⟨H.2.2.2.2.2.1, H.2.2.2.2.2.2.2⟩⟩⟩⟩⟩⟩⟩⟩⟩⟩⟩⟩⟩⟩⟩⟩⟩⟩⟩⟩⟩⟩⟩⟩⟩⟩⟩⟩⟩⟩⟩⟩⟩⟩⟩⟩
set_option maxRecDepth 100000 in
set_option maxHeartbeats 4000000 in
theorem v_Ref_gatherLines_3 (x0 : Nat) (x1 : Int32) (x2 : Int32) (x3 : Int32) (x4 : Int64) (x6 : Int64) (x8 : Int64) (x10 : Int64) (x12 : Int64) (h : MH) (Rt : Value → MH → Prop) (H :
kd h x0 = 13 ∧
kd h (mr h x0 29) = 21 ∧
InB (x3 + (3 : Int32)) (ln h (mr h x0 29)) ∧
InB (x3 + (4 : Int32)) (ln h (mr h x0 29)) ∧
InB (x3 + (2 : Int32)) (ln h (mr h x0 29)) ∧
InB (x3 + (5 : Int32)) (ln h (mr h x0 29)) ∧
WM k_Ref_gatherLines p_Ref_gatherLines_4 [.ref x0, .int x1, .int x2, Jv, .long x4, Jv, .long x6, Jv, .long x8, Jv, .long x10, Jv, .long x12, Jv, .long (((ml h (mr h x0 29) (ix (x3 + (3 : Int32)))) * (ml h (mr h x0 29) (ix (x3 + (4 : Int32))))) - ((ml h (mr h x0 29) (ix (x3 + (2 : Int32)))) * (ml h (mr h x0 29) (ix (x3 + (5 : Int32)))))), Jv, .int (-x2), Jv, Jv, Jv, Jv] [] h 0 0 Rt) : WM k_Ref_gatherLines p_Ref_gatherLines_3 [.ref x0, .int x1, .int x2, .int x3, .long x4, Jv, .long x6, Jv, .long x8, Jv, .long x10, Jv, .long x12, Jv, Jv, Jv, Jv, Jv, Jv, Jv, Jv] [] h 0 0 Rt := WM_at (hs := HH_Ref_gatherLines) G_Ref_gatherLines 308 159 rfl ⟨H.1, ⟨H.2.1, ⟨H.2.2.1, ⟨H.1, ⟨H.2.1, ⟨H.2.2.2.1, ⟨H.1, ⟨H.2.1, ⟨H.2.2.2.2.1, ⟨H.1, ⟨H.2.1, H.2.2.2.2.2⟩⟩⟩⟩⟩⟩⟩⟩⟩⟩⟩
set_option maxRecDepth 100000 in
set_option maxHeartbeats 4000000 in
theorem v_Ref_gatherLines_4 (x0 : Nat) (x1 : Int32) (x2 : Int32) (x4 : Int64) (x6 : Int64) (x8 : Int64) (x10 : Int64) (x12 : Int64) (x14 : Int64) (x16 : Int32) (h : MH) (Rt : Value → MH → Prop) (H :
(x2.toInt < x16.toInt →
Rt .null h) ∧
(¬ x2.toInt < x16.toInt →
WM k_Ref_gatherLines p_Ref_gatherLines_5 [.ref x0, .int x1, .int x2, Jv, .long x4, Jv, .long x6, Jv, .long x8, Jv, .long x10, Jv, .long x12, Jv, .long x14, Jv, .int x16, .int (-x2), Jv, Jv, Jv] [] h 0 0 Rt)) : WM k_Ref_gatherLines p_Ref_gatherLines_4 [.ref x0, .int x1, .int x2, Jv, .long x4, Jv, .long x6, Jv, .long x8, Jv, .long x10, Jv, .long x12, Jv, .long x14, Jv, .int x16, Jv, Jv, Jv, Jv] [] h 0 0 Rt := WM_at (hs := HH_Ref_gatherLines) G_Ref_gatherLines 308 190 rfl H
set_option maxRecDepth 100000 in
set_option maxHeartbeats 4000000 in
theorem v_Ref_gatherLines_5 (x0 : Nat) (x1 : Int32) (x2 : Int32) (x4 : Int64) (x6 : Int64) (x8 : Int64) (x10 : Int64) (x12 : Int64) (x14 : Int64) (x16 : Int32) (x17 : Int32) (h : MH) (Rt : Value → MH → Prop) (H :
(x2.toInt < x17.toInt →
WM k_Ref_gatherLines p_Ref_gatherLines_4 [.ref x0, .int x1, .int x2, Jv, .long x4, Jv, .long x6, Jv, .long x8, Jv, .long x10, Jv, .long x12, Jv, .long x14, Jv, .int (x16 + (1 : Int32)), Jv, Jv, Jv, Jv] [] h 0 0 Rt) ∧
(¬ x2.toInt < x17.toInt →
WM k_Ref_gatherLines p_Ref_gatherLines_6 [.ref x0, .int x1, .int x2, Jv, .long x4, Jv, .long x6, Jv, .long x8, Jv, .long x10, Jv, .long x12, Jv, .long x14, Jv, .int x16, .int x17, .int (-x2), Jv, Jv] [] h 0 0 Rt)) : WM k_Ref_gatherLines p_Ref_gatherLines_5 [.ref x0, .int x1, .int x2, Jv, .long x4, Jv, .long x6, Jv, .long x8, Jv, .long x10, Jv, .long x12, Jv, .long x14, Jv, .int x16, .int x17, Jv, Jv, Jv] [] h 0 0 Rt := WM_at (hs := HH_Ref_gatherLines) G_Ref_gatherLines 308 196 rfl H
set_option maxRecDepth 100000 in
set_option maxHeartbeats 4000000 in
theorem v_Ref_gatherLines_6 (x0 : Nat) (x1 : Int32) (x2 : Int32) (x4 : Int64) (x6 : Int64) (x8 : Int64) (x10 : Int64) (x12 : Int64) (x14 : Int64) (x16 : Int32) (x17 : Int32) (x18 : Int32) (h : MH) (Rt : Value → MH → Prop) (H :
(x2.toInt < x18.toInt →
WM k_Ref_gatherLines p_Ref_gatherLines_5 [.ref x0, .int x1, .int x2, Jv, .long x4, Jv, .long x6, Jv, .long x8, Jv, .long x10, Jv, .long x12, Jv, .long x14, Jv, .int x16, .int (x17 + (1 : Int32)), Jv, Jv, Jv] [] h 0 0 Rt) ∧
(¬ x2.toInt < x18.toInt →
(x16 = 0 →
(x17 = 0 →
(x18 = 0 →
WM k_Ref_gatherLines p_Ref_gatherLines_6 [.ref x0, .int x1, .int x2, Jv, .long x4, Jv, .long x6, Jv, .long x8, Jv, .long x10, Jv, .long x12, Jv, .long x14, Jv, .int x16, .int x17, .int (x18 + (1 : Int32)), Jv, Jv] [] h 0 0 Rt) ∧
(¬ x18 = 0 →
WM k_Ref_gatherLines p_Ref_gatherLines_7 [.ref x0, .int x1, .int x2, Jv, .long x4, Jv, .long x6, Jv, .long x8, Jv, .long x10, Jv, .long x12, Jv, .long x14, Jv, .int x16, .int x17, .int x18, Jv, Jv] [] h 0 0 Rt)) ∧
(¬ x17 = 0 →
WM k_Ref_gatherLines p_Ref_gatherLines_7 [.ref x0, .int x1, .int x2, Jv, .long x4, Jv, .long x6, Jv, .long x8, Jv, .long x10, Jv, .long x12, Jv, .long x14, Jv, .int x16, .int x17, .int x18, Jv, Jv] [] h 0 0 Rt)) ∧
(¬ x16 = 0 →
WM k_Ref_gatherLines p_Ref_gatherLines_7 [.ref x0, .int x1, .int x2, Jv, .long x4, Jv, .long x6, Jv, .long x8, Jv, .long x10, Jv, .long x12, Jv, .long x14, Jv, .int x16, .int x17, .int x18, Jv, Jv] [] h 0 0 Rt))) : WM k_Ref_gatherLines p_Ref_gatherLines_6 [.ref x0, .int x1, .int x2, Jv, .long x4, Jv, .long x6, Jv, .long x8, Jv, .long x10, Jv, .long x12, Jv, .long x14, Jv, .int x16, .int x17, .int x18, Jv, Jv] [] h 0 0 Rt := WM_at (hs := HH_Ref_gatherLines) G_Ref_gatherLines 308 202 rfl H
set_option maxRecDepth 100000 in
set_option maxHeartbeats 4000000 in
theorem v_Ref_gatherLines_7 (x0 : Nat) (x1 : Int32) (x2 : Int32) (x4 : Int64) (x6 : Int64) (x8 : Int64) (x10 : Int64) (x12 : Int64) (x14 : Int64) (x16 : Int32) (x17 : Int32) (x18 : Int32) (h : MH) (Rt : Value → MH → Prop) (H :
kd h x0 = 13 ∧
SpV k_Ref_waveOf [.ref x0, .int x1, .int x16, .int x17, .int x18] h (fun g1 =>
kd g1 x0 = 13 ∧
kd g1 (mr g1 x0 46) = 21 ∧
InB (8 : Int32) (ln g1 (mr g1 x0 46)) ∧
((lg_cmp (ml g1 (mr g1 x0 46) (ix (8 : Int32))) (0 : Int64)) = 0 →
InB (9 : Int32) (ln g1 (mr g1 x0 46)) ∧
((lg_cmp (ml g1 (mr g1 x0 46) (ix (9 : Int32))) (0 : Int64)) = 0 →
InB (10 : Int32) (ln g1 (mr g1 x0 46)) ∧
((lg_cmp (ml g1 (mr g1 x0 46) (ix (10 : Int32))) (0 : Int64)) = 0 →
InB (11 : Int32) (ln g1 (mr g1 x0 46)) ∧
((lg_cmp (ml g1 (mr g1 x0 46) (ix (11 : Int32))) (0 : Int64)) = 0 →
WM k_Ref_gatherLines p_Ref_gatherLines_6 [.ref x0, .int x1, .int x2, Jv, .long x4, Jv, .long x6, Jv, .long x8, Jv, .long x10, Jv, .long x12, Jv, .long x14, Jv, .int x16, .int x17, .int (x18 + (1 : Int32)), Jv, Jv] [] g1 0 0 Rt) ∧
(¬ (lg_cmp (ml g1 (mr g1 x0 46) (ix (11 : Int32))) (0 : Int64)) = 0 →
WM k_Ref_gatherLines p_Ref_gatherLines_8 [.ref x0, .int x1, .int x2, Jv, .long x4, Jv, .long x6, Jv, .long x8, Jv, .long x10, Jv, .long x12, Jv, .long x14, Jv, .int x16, .int x17, .int x18, Jv, Jv] [] g1 0 0 Rt)) ∧
(¬ (lg_cmp (ml g1 (mr g1 x0 46) (ix (10 : Int32))) (0 : Int64)) = 0 →
WM k_Ref_gatherLines p_Ref_gatherLines_8 [.ref x0, .int x1, .int x2, Jv, .long x4, Jv, .long x6, Jv, .long x8, Jv, .long x10, Jv, .long x12, Jv, .long x14, Jv, .int x16, .int x17, .int x18, Jv, Jv] [] g1 0 0 Rt)) ∧
(¬ (lg_cmp (ml g1 (mr g1 x0 46) (ix (9 : Int32))) (0 : Int64)) = 0 →
WM k_Ref_gatherLines p_Ref_gatherLines_8 [.ref x0, .int x1, .int x2, Jv, .long x4, Jv, .long x6, Jv, .long x8, Jv, .long x10, Jv, .long x12, Jv, .long x14, Jv, .int x16, .int x17, .int x18, Jv, Jv] [] g1 0 0 Rt)) ∧
(¬ (lg_cmp (ml g1 (mr g1 x0 46) (ix (8 : Int32))) (0 : Int64)) = 0 →
WM k_Ref_gatherLines p_Ref_gatherLines_8 [.ref x0, .int x1, .int x2, Jv, .long x4, Jv, .long x6, Jv, .long x8, Jv, .long x10, Jv, .long x12, Jv, .long x14, Jv, .int x16, .int x17, .int x18, Jv, Jv] [] g1 0 0 Rt))) : WM k_Ref_gatherLines p_Ref_gatherLines_7 [.ref x0, .int x1, .int x2, Jv, .long x4, Jv, .long x6, Jv, .long x8, Jv, .long x10, Jv, .long x12, Jv, .long x14, Jv, .int x16, .int x17, .int x18, Jv, Jv] [] h 0 0 Rt := WM_at (hs := HH_Ref_gatherLines) G_Ref_gatherLines 308 212 rfl ⟨H.1, SpV.mono H.2 (fun g1 qg1 => ⟨qg1.1, ⟨qg1.2.1, ⟨qg1.2.2.1, ⟨fun c9 => ⟨qg1.1, ⟨qg1.2.1, ⟨(qg1.2.2.2.1 c9).1, ⟨fun c10 => ⟨qg1.1, ⟨qg1.2.1, ⟨(((qg1.2.2.2.1 c9).2).1 c10).1, ⟨fun c11 => ⟨qg1.1, ⟨qg1.2.1, (((((qg1.2.2.2.1 c9).2).1 c10).2).1 c11)⟩⟩, ((((qg1.2.2.2.1 c9).2).1 c10).2).2⟩⟩⟩⟩, ((qg1.2.2.2.1 c9).2).2⟩⟩⟩⟩, qg1.2.2.2.2⟩⟩⟩⟩)⟩
set_option maxRecDepth 100000 in
set_option maxHeartbeats 4000000 in
theorem v_Ref_gatherLines_8 (x0 : Nat) (x1 : Int32) (x2 : Int32) (x4 : Int64) (x6 : Int64) (x8 : Int64) (x10 : Int64) (x12 : Int64) (x14 : Int64) (x16 : Int32) (x17 : Int32) (x18 : Int32) (h : MH) (Rt : Value → MH → Prop) (H :
kd h x0 = 13 ∧
SpV k_Ref_addLine [.ref x0, .long (((((x4 * x16.toInt64) * x16.toInt64) + ((x6 * x17.toInt64) * x17.toInt64)) + ((x8 * x18.toInt64) * x18.toInt64)) + ((2 : Int64) * ((((x10 * x17.toInt64) * x18.toInt64) + ((x12 * x16.toInt64) * x18.toInt64)) + ((x14 * x16.toInt64) * x17.toInt64))))] h (fun g1 =>
WM k_Ref_gatherLines p_Ref_gatherLines_6 [.ref x0, .int x1, .int x2, Jv, .long x4, Jv, .long x6, Jv, .long x8, Jv, .long x10, Jv, .long x12, Jv, .long x14, Jv, .int x16, .int x17, .int (x18 + (1 : Int32)), Jv, Jv] [] g1 0 0 Rt)) : WM k_Ref_gatherLines p_Ref_gatherLines_8 [.ref x0, .int x1, .int x2, Jv, .long x4, Jv, .long x6, Jv, .long x8, Jv, .long x10, Jv, .long x12, Jv, .long x14, Jv, .int x16, .int x17, .int x18, Jv, Jv] [] h 0 0 Rt := WM_at (hs := HH_Ref_gatherLines) G_Ref_gatherLines 308 247 rfl H
set_option maxRecDepth 100000 in
set_option maxHeartbeats 4000000 in
theorem v_Ref_lines (x0 : Nat) (x1 : Int32) (x2 : Int32) (h : MH) (Rt : Value → MH → Prop) (H :
kd h x0 = 13 ∧
SpI k_Ref_isModel [.ref x0, .int x1] h (fun r3 g1 =>
(r3 = 0 →
Rt (.int (-1 : Int32)) g1) ∧
(¬ r3 = 0 →
(x2.toInt < (1 : Int32).toInt →
Rt (.int (-1 : Int32)) g1) ∧
(¬ x2.toInt < (1 : Int32).toInt →
((6 : Int32).toInt < x2.toInt →
Rt (.int (-1 : Int32)) g1) ∧
(¬ (6 : Int32).toInt < x2.toInt →
kd g1 x0 = 13 ∧
SpV k_Ref_gatherLines [.ref x0, .int x1, .int x2] g1 (fun g4 =>
kd g4 x0 = 13 ∧
Rt (.int (mi g4 x0 50)) g4)))))) : Sp k_Ref_lines [.ref x0, .int x1, .int x2] h Rt := Sp_intro2 (by decide) (by decide +kernel) rfl (Nat.le_of_ble_eq_true rfl) (WM_at (hs := HH_Ref_lines) G_Ref_lines 20 0 rfl H)
set_option maxRecDepth 100000 in
set_option maxHeartbeats 4000000 in
theorem v_Ho_line (x0 : Nat) (x1 : Int32) (x2 : Int32) (x3 : Int32) (x4 : Int32) (h : MH) (Rt : Value → MH → Prop) (H :
kd h x0 = 12 ∧
SpR k_Ho_linesAt [.ref x0, .int x1, .int x2] h (fun r3 g1 =>
(r3 = 0 →
Rt (.long (0 : Int64)) g1) ∧
(¬ r3 = 0 →
(x3.toInt < 0 →
Rt (.long (0 : Int64)) g1) ∧
(¬ x3.toInt < 0 →
kd g1 r3 = 5 ∧
(x3.toInt < (mi g1 r3 3).toInt →
(x4.toInt < 0 →
Rt (.long (0 : Int64)) g1) ∧
(¬ x4.toInt < 0 →
((5 : Int32).toInt < x4.toInt →
Rt (.long (0 : Int64)) g1) ∧
(¬ (5 : Int32).toInt < x4.toInt →
kd g1 (mr g1 r3 2) = 20 ∧
InB x3 (ln g1 (mr g1 r3 2)) ∧
kd g1 (mr g1 r3 1) = 21 ∧
InB (((6 : Int32) * (mi g1 (mr g1 r3 2) (ix x3))) + x4) (ln g1 (mr g1 r3 1)) ∧
Rt (.long (ml g1 (mr g1 r3 1) (ix (((6 : Int32) * (mi g1 (mr g1 r3 2) (ix x3))) + x4)))) g1))) ∧
(¬ x3.toInt < (mi g1 r3 3).toInt →
Rt (.long (0 : Int64)) g1))))) : Sp k_Ho_line [.ref x0, .int x1, .int x2, .int x3, .int x4] h Rt := Sp_intro2 (by decide) (by decide +kernel) rfl (Nat.le_of_ble_eq_true rfl) (WM_at (hs := HH_Ho_line) G_Ho_line 33 0 rfl ⟨H.1, SpR.mono H.2 (fun r3 g1 qg1 => ⟨qg1.1, fun c9 => ⟨(qg1.2 c9).1, fun c10 => ⟨((qg1.2 c9).2 c10).1, ⟨fun c11 => ⟨((((qg1.2 c9).2 c10).2).1 c11).1, fun c12 => ⟨(((((qg1.2 c9).2 c10).2).1 c11).2 c12).1, fun c13 => ⟨((qg1.2 c9).2 c10).1, ⟨((qg1.2 c9).2 c10).1, ((((((qg1.2 c9).2 c10).2).1 c11).2 c12).2 c13)⟩⟩⟩⟩, (((qg1.2 c9).2 c10).2).2⟩⟩⟩⟩)⟩)
set_option maxRecDepth 100000 in
set_option maxHeartbeats 4000000 in
theorem v_Ref_line (x0 : Nat) (x1 : Int32) (x2 : Int32) (x3 : Int32) (x4 : Int32) (h : MH) (Rt : Value → MH → Prop) (H :
kd h x0 = 13 ∧
SpI k_Ref_isModel [.ref x0, .int x1] h (fun r3 g1 =>
(r3 = 0 →
Rt (.long (0 : Int64)) g1) ∧
(¬ r3 = 0 →
(x2.toInt < (1 : Int32).toInt →
Rt (.long (0 : Int64)) g1) ∧
(¬ x2.toInt < (1 : Int32).toInt →
((6 : Int32).toInt < x2.toInt →
Rt (.long (0 : Int64)) g1) ∧
(¬ (6 : Int32).toInt < x2.toInt →
(x4.toInt < 0 →
Rt (.long (0 : Int64)) g1) ∧
(¬ x4.toInt < 0 →
((5 : Int32).toInt < x4.toInt →
Rt (.long (0 : Int64)) g1) ∧
(¬ (5 : Int32).toInt < x4.toInt →
(x3.toInt < 0 →
Rt (.long (0 : Int64)) g1) ∧
(¬ x3.toInt < 0 →
kd g1 x0 = 13 ∧
SpV k_Ref_gatherLines [.ref x0, .int x1, .int x2] g1 (fun g4 =>
kd g4 x0 = 13 ∧
(x3.toInt < (mi g4 x0 50).toInt →
(x4 = 0 →
kd g4 (mr g4 x0 47) = 21 ∧
InB x3 (ln g4 (mr g4 x0 47)) ∧
Rt (.long (ml g4 (mr g4 x0 47) (ix x3))) g4) ∧
(¬ x4 = 0 →
(x4 = (1 : Int32) →
kd g4 (mr g4 x0 48) = 20 ∧
InB x3 (ln g4 (mr g4 x0 48)) ∧
Rt (.long ((mi g4 (mr g4 x0 48) (ix x3)).toInt64)) g4) ∧
(¬ x4 = (1 : Int32) →
kd g4 (mr g4 x0 49) = 21 ∧
InB ((((4 : Int32) * x3) + x4) - (2 : Int32)) (ln g4 (mr g4 x0 49)) ∧
Rt (.long (ml g4 (mr g4 x0 49) (ix ((((4 : Int32) * x3) + x4) - (2 : Int32))))) g4))) ∧
(¬ x3.toInt < (mi g4 x0 50).toInt →
Rt (.long (0 : Int64)) g4)))))))))) : Sp k_Ref_line [.ref x0, .int x1, .int x2, .int x3, .int x4] h Rt := Sp_intro2 (by decide) (by decide +kernel) rfl (Nat.le_of_ble_eq_true rfl) (WM_at (hs := HH_Ref_line) G_Ref_line 57 0 rfl ⟨H.1, SpI.mono H.2 (fun r3 g1 qg1 => ⟨qg1.1, fun c13 => ⟨(qg1.2 c13).1, fun c14 => ⟨((qg1.2 c13).2 c14).1, fun c15 => ⟨(((qg1.2 c13).2 c14).2 c15).1, fun c16 => ⟨((((qg1.2 c13).2 c14).2 c15).2 c16).1, fun c17 => ⟨(((((qg1.2 c13).2 c14).2 c15).2 c16).2 c17).1, fun c18 => ⟨((((((qg1.2 c13).2 c14).2 c15).2 c16).2 c17).2 c18).1, SpV.mono (((((((qg1.2 c13).2 c14).2 c15).2 c16).2 c17).2 c18).2) (fun g4 qg4 => ⟨qg4.1, ⟨fun c19 => ⟨fun c20 => ⟨qg4.1, ((qg4.2.1 c19).1 c20)⟩, fun c20 => ⟨fun c21 => ⟨qg4.1, (((qg4.2.1 c19).2 c20).1 c21)⟩, fun c21 => ⟨qg4.1, (((qg4.2.1 c19).2 c20).2 c21)⟩⟩⟩, qg4.2.2⟩⟩)⟩⟩⟩⟩⟩⟩⟩)⟩)
set_option maxRecDepth 100000 in
set_option maxHeartbeats 4000000 in
theorem v_Model_sumOfPairs (x0 : Nat) (x1 : Int32) (h : MH) (Rt : Value → MH → Prop) (H :
WM k_Model_sumOfPairs p_Model_sumOfPairs_1 [.ref x0, Jv, .int (x1 / (576 : Int32)), .int (irm (x1 / (24 : Int32)) (24 : Int32)), .int (irm x1 (24 : Int32)), .long (0 : Int64), Jv, .int (0 : Int32), Jv, Jv] [] h 0 0 Rt) : Sp k_Model_sumOfPairs [.ref x0, .int x1] h Rt := Sp_intro2 (by decide) (by decide +kernel) rfl (Nat.le_of_ble_eq_true rfl) (WM_at (hs := HH_Model_sumOfPairs) G_Model_sumOfPairs 90 0 rfl ⟨(by decide), ⟨(by decide), ⟨(by decide), ⟨(by decide), H⟩⟩⟩⟩)
set_option maxRecDepth 100000 in
set_option maxHeartbeats 4000000 in
theorem v_Model_sumOfPairs_1 (x0 : Nat) (x2 : Int32) (x3 : Int32) (x4 : Int32) (x5 : Int64) (x7 : Int32) (h : MH) (Rt : Value → MH → Prop) (H :
kd h x0 = 6 ∧
(x7.toInt < (mi h x0 4).toInt →
kd h (mr h x0 2) = 20 ∧
InB ((3 : Int32) * x7) (ln h (mr h x0 2)) ∧
InB (((3 : Int32) * x7) + (1 : Int32)) (ln h (mr h x0 2)) ∧
InB (((3 : Int32) * x7) + (2 : Int32)) (ln h (mr h x0 2)) ∧
SpI k_Model_atomAt [.ref x0, .int (((((irm ((mi h (mr h x0 2) (ix ((3 : Int32) * x7))) + x2) (24 : Int32)) * (24 : Int32)) + (irm ((mi h (mr h x0 2) (ix (((3 : Int32) * x7) + (1 : Int32)))) + x3) (24 : Int32))) * (24 : Int32)) + (irm ((mi h (mr h x0 2) (ix (((3 : Int32) * x7) + (2 : Int32)))) + x4) (24 : Int32)))] h (fun r7 g6 =>
(r7 = (-1 : Int32) →
WM k_Model_sumOfPairs p_Model_sumOfPairs_2 [.ref x0, Jv, .int x2, .int x3, .int x4, .long x5, Jv, .int x7, Jv, Jv] [] g6 0 0 Rt) ∧
(¬ r7 = (-1 : Int32) →
kd g6 x0 = 6 ∧
SpI k_Model_weightOf [.ref x0, .int x7] g6 (fun r10 g8 =>
kd g8 x0 = 6 ∧
SpI k_Model_weightOf [.ref x0, .int r7] g8 (fun r13 g11 =>
WM k_Model_sumOfPairs p_Model_sumOfPairs_2 [.ref x0, Jv, .int x2, .int x3, .int x4, .long (x5 + (r10 * r13).toInt64), Jv, .int x7, Jv, Jv] [] g11 0 0 Rt))))) ∧
(¬ x7.toInt < (mi h x0 4).toInt →
Rt (.long x5) h)) : WM k_Model_sumOfPairs p_Model_sumOfPairs_1 [.ref x0, Jv, .int x2, .int x3, .int x4, .long x5, Jv, .int x7, Jv, Jv] [] h 0 0 Rt := WM_at (hs := HH_Model_sumOfPairs) G_Model_sumOfPairs 90 18 rfl ⟨H.1, ⟨fun c14 => ⟨H.1, ⟨(H.2.1 c14).1, ⟨((H.2.1 c14).2).1, ⟨(by decide), ⟨H.1, ⟨(H.2.1 c14).1, ⟨(((H.2.1 c14).2).2).1, ⟨(by decide), ⟨H.1, ⟨(H.2.1 c14).1, ⟨((((H.2.1 c14).2).2).2).1, ⟨(by decide), ⟨H.1, ((((H.2.1 c14).2).2).2).2⟩⟩⟩⟩⟩⟩⟩⟩⟩⟩⟩⟩⟩, H.2.2⟩⟩
set_option maxRecDepth 100000 in
set_option maxHeartbeats 4000000 in
theorem v_Model_sumOfPairs_2 (x0 : Nat) (x2 : Int32) (x3 : Int32) (x4 : Int32) (x5 : Int64) (x7 : Int32) (h : MH) (Rt : Value → MH → Prop) (H :
WM k_Model_sumOfPairs p_Model_sumOfPairs_1 [.ref x0, Jv, .int x2, .int x3, .int x4, .long x5, Jv, .int (x7 + (1 : Int32)), Jv, Jv] [] h 0 0 Rt) : WM k_Model_sumOfPairs p_Model_sumOfPairs_2 [.ref x0, Jv, .int x2, .int x3, .int x4, .long x5, Jv, .int x7, Jv, Jv] [] h 0 0 Rt := WM_at (hs := HH_Model_sumOfPairs) G_Model_sumOfPairs 90 85 rfl H
set_option maxRecDepth 100000 in
set_option maxHeartbeats 4000000 in
theorem v_Ho_map (x0 : Nat) (x1 : Int32) (x2 : Int32) (h : MH) (Rt : Value → MH → Prop) (H :
kd h x0 = 12 ∧
SpR k_Ho_modelAt [.ref x0, .int x1] h (fun r3 g1 =>
(r3 = 0 →
Rt (.long (0 : Int64)) g1) ∧
(¬ r3 = 0 →
(x2.toInt < 0 →
Rt (.long (0 : Int64)) g1) ∧
(¬ x2.toInt < 0 →
(x2.toInt < (13824 : Int32).toInt →
kd g1 r3 = 6 ∧
SpL k_Model_sumOfPairs [.ref r3, .int x2] g1 (fun r6 g4 =>
Rt (.long r6) g4)) ∧
(¬ x2.toInt < (13824 : Int32).toInt →
Rt (.long (0 : Int64)) g1))))) : Sp k_Ho_map [.ref x0, .int x1, .int x2] h Rt := Sp_intro2 (by decide) (by decide +kernel) rfl (Nat.le_of_ble_eq_true rfl) (WM_at (hs := HH_Ho_map) G_Ho_map 18 0 rfl H)
set_option maxRecDepth 100000 in
set_option maxHeartbeats 4000000 in
theorem v_Ref_map (x0 : Nat) (x1 : Int32) (x2 : Int32) (h : MH) (Rt : Value → MH → Prop) (H :
kd h x0 = 13 ∧
SpI k_Ref_isModel [.ref x0, .int x1] h (fun r3 g1 =>
(r3 = 0 →
Rt (.long (0 : Int64)) g1) ∧
(¬ r3 = 0 →
(x2.toInt < 0 →
Rt (.long (0 : Int64)) g1) ∧
(¬ x2.toInt < 0 →
(x2.toInt < (13824 : Int32).toInt →
kd g1 x0 = 13 ∧
kd g1 (mr g1 x0 41) = 20 ∧
InB x1 (ln g1 (mr g1 x0 41)) ∧
WM k_Ref_map p_Ref_map_1 [.ref x0, .int x1, .int x2, .long (0 : Int64), Jv, .int (mi g1 (mr g1 x0 41) (ix x1)), .int (0 : Int32), Jv, Jv, Jv] [] g1 0 0 Rt) ∧
(¬ x2.toInt < (13824 : Int32).toInt →
Rt (.long (0 : Int64)) g1))))) : Sp k_Ref_map [.ref x0, .int x1, .int x2] h Rt := Sp_intro2 (by decide) (by decide +kernel) rfl (Nat.le_of_ble_eq_true rfl) (WM_at (hs := HH_Ref_map) G_Ref_map 114 0 rfl H)
set_option maxRecDepth 100000 in
set_option maxHeartbeats 4000000 in
theorem v_Ref_map_1 (x0 : Nat) (x1 : Int32) (x2 : Int32) (x3 : Int64) (x5 : Int32) (x6 : Int32) (h : MH) (Rt : Value → MH → Prop) (H :
(x6.toInt < x5.toInt →
kd h x0 = 13 ∧
kd h (mr h x0 42) = 20 ∧
InB (((300 : Int32) * x1) + x6) (ln h (mr h x0 42)) ∧
WM k_Ref_map p_Ref_map_2 [.ref x0, .int x1, .int x2, .long x3, Jv, .int x5, .int x6, Jv, .int ((((576 : Int32) * (irm (((mi h (mr h x0 42) (ix (((300 : Int32) * x1) + x6))) / (576 : Int32)) + (x2 / (576 : Int32))) (24 : Int32))) + ((24 : Int32) * (irm ((irm ((mi h (mr h x0 42) (ix (((300 : Int32) * x1) + x6))) / (24 : Int32)) (24 : Int32)) + (irm (x2 / (24 : Int32)) (24 : Int32))) (24 : Int32)))) + (irm ((irm (mi h (mr h x0 42) (ix (((300 : Int32) * x1) + x6))) (24 : Int32)) + (irm x2 (24 : Int32))) (24 : Int32))), .int (0 : Int32)] [] h 0 0 Rt) ∧
(¬ x6.toInt < x5.toInt →
Rt (.long x3) h)) : WM k_Ref_map p_Ref_map_1 [.ref x0, .int x1, .int x2, .long x3, Jv, .int x5, .int x6, Jv, Jv, Jv] [] h 0 0 Rt := WM_at (hs := HH_Ref_map) G_Ref_map 114 20 rfl ⟨fun c4 => ⟨(H.1 c4).1, ⟨((H.1 c4).2).1, ⟨(((H.1 c4).2).2).1, ⟨(by decide), ⟨(by decide), ⟨(by decide), ⟨(by decide), ⟨(by decide), ⟨(by decide), ⟨(by decide), ⟨(by decide), ⟨(by decide), ⟨(by decide), ⟨(by decide), (((H.1 c4).2).2).2⟩⟩⟩⟩⟩⟩⟩⟩⟩⟩⟩⟩⟩⟩, H.2⟩
set_option maxRecDepth 100000 in
set_option maxHeartbeats 4000000 in
theorem v_Ref_map_2 (x0 : Nat) (x1 : Int32) (x2 : Int32) (x3 : Int64) (x5 : Int32) (x6 : Int32) (x8 : Int32) (x9 : Int32) (h : MH) (Rt : Value → MH → Prop) (H :
(x9.toInt < x5.toInt →
kd h x0 = 13 ∧
kd h (mr h x0 42) = 20 ∧
InB (((300 : Int32) * x1) + x9) (ln h (mr h x0 42)) ∧
((mi h (mr h x0 42) (ix (((300 : Int32) * x1) + x9))) = x8 →
kd h (mr h x0 43) = 20 ∧
InB (((300 : Int32) * x1) + x6) (ln h (mr h x0 43)) ∧
InB (((300 : Int32) * x1) + x9) (ln h (mr h x0 43)) ∧
WM k_Ref_map p_Ref_map_2 [.ref x0, .int x1, .int x2, .long (x3 + ((mi h (mr h x0 43) (ix (((300 : Int32) * x1) + x6))).toInt64 * (mi h (mr h x0 43) (ix (((300 : Int32) * x1) + x9))).toInt64)), Jv, .int x5, .int x6, Jv, .int x8, .int (x9 + (1 : Int32))] [] h 0 0 Rt) ∧
(¬ (mi h (mr h x0 42) (ix (((300 : Int32) * x1) + x9))) = x8 →
WM k_Ref_map p_Ref_map_2 [.ref x0, .int x1, .int x2, .long x3, Jv, .int x5, .int x6, Jv, .int x8, .int (x9 + (1 : Int32))] [] h 0 0 Rt)) ∧
(¬ x9.toInt < x5.toInt →
WM k_Ref_map p_Ref_map_1 [.ref x0, .int x1, .int x2, .long x3, Jv, .int x5, .int (x6 + (1 : Int32)), Jv, Jv, Jv] [] h 0 0 Rt)) : WM k_Ref_map p_Ref_map_2 [.ref x0, .int x1, .int x2, .long x3, Jv, .int x5, .int x6, Jv, .int x8, .int x9] [] h 0 0 Rt := WM_at (hs := HH_Ref_map) G_Ref_map 114 72 rfl ⟨fun c7 => ⟨(H.1 c7).1, ⟨((H.1 c7).2).1, ⟨(((H.1 c7).2).2).1, ⟨fun c8 => ⟨(H.1 c7).1, ⟨(((((H.1 c7).2).2).2).1 c8).1, ⟨((((((H.1 c7).2).2).2).1 c8).2).1, ⟨(H.1 c7).1, ⟨(((((H.1 c7).2).2).2).1 c8).1, ((((((H.1 c7).2).2).2).1 c8).2).2⟩⟩⟩⟩⟩, ((((H.1 c7).2).2).2).2⟩⟩⟩⟩, H.2⟩
set_option maxRecDepth 100000 in
set_option maxHeartbeats 4000000 in
theorem v_Phases_keep (x0 : Nat) (x1 : Int32) (x2 : Int32) (x3 : Int64) (h : MH) (Rt : Value → MH → Prop) (H :
kd h x0 = 8 ∧
((mi h x0 3).toInt < (40 : Int32).toInt →
(x1.toInt < 0 →
Rt (.int (-1 : Int32)) h) ∧
(¬ x1.toInt < 0 →
((99 : Int32).toInt < x1.toInt →
Rt (.int (-1 : Int32)) h) ∧
(¬ (99 : Int32).toInt < x1.toInt →
(x2.toInt < 0 →
Rt (.int (-1 : Int32)) h) ∧
(¬ x2.toInt < 0 →
((99 : Int32).toInt < x2.toInt →
Rt (.int (-1 : Int32)) h) ∧
(¬ (99 : Int32).toInt < x2.toInt →
((x1 + x2) = 0 →
Rt (.int (-1 : Int32)) h) ∧
(¬ (x1 + x2) = 0 →
((lg_cmp x3 (-100000000 : Int64)).toInt < 0 →
Rt (.int (-1 : Int32)) h) ∧
(¬ (lg_cmp x3 (-100000000 : Int64)).toInt < 0 →
(0 < (lg_cmp x3 (100000000 : Int64)).toInt →
Rt (.int (-1 : Int32)) h) ∧
(¬ 0 < (lg_cmp x3 (100000000 : Int64)).toInt →
kd h (mr h x0 0) = 20 ∧
InB (mi h x0 3) (ln h (mr h x0 0)) ∧
∀ g4 : MH, g4 = wi h (mr h x0 0) (ix (mi h x0 3)) x1 →
kd h (mr h x0 1) = 20 ∧
InB (mi h x0 3) (ln h (mr h x0 1)) ∧
∀ g7 : MH, g7 = wi g4 (mr h x0 1) (ix (mi h x0 3)) x2 →
kd h (mr h x0 2) = 21 ∧
InB (mi h x0 3) (ln h (mr h x0 2)) ∧
∀ g10 : MH, g10 = wl g7 (mr h x0 2) (ix (mi h x0 3)) x3 →
∀ g11 : MH, g11 = wi g10 x0 3 ((mi g7 x0 3) + (1 : Int32)) →
WM k_Phases_keep p_Phases_keep_1 [Jv, Jv, Jv, Jv, Jv, .int (mi h x0 3)] [] g11 0 0 Rt)))))))) ∧
(¬ (mi h x0 3).toInt < (40 : Int32).toInt →
Rt (.int (-1 : Int32)) h)) : Sp k_Phases_keep [.ref x0, .int x1, .int x2, .long x3] h Rt := Sp_intro2 (by decide) (by decide +kernel) rfl (Nat.le_of_ble_eq_true rfl) (WM_at (hs := HH_Phases_keep) G_Phases_keep 55 0 rfl ⟨H.1, ⟨fun c12 => ⟨(H.2.1 c12).1, fun c13 => ⟨((H.2.1 c12).2 c13).1, fun c14 => ⟨(((H.2.1 c12).2 c13).2 c14).1, fun c15 => ⟨((((H.2.1 c12).2 c13).2 c14).2 c15).1, fun c16 => ⟨(((((H.2.1 c12).2 c13).2 c14).2 c15).2 c16).1, fun c17 => ⟨((((((H.2.1 c12).2 c13).2 c14).2 c15).2 c16).2 c17).1, fun c18 => ⟨(((((((H.2.1 c12).2 c13).2 c14).2 c15).2 c16).2 c17).2 c18).1, fun c19 => ⟨H.1, ⟨H.1, ⟨((((((((H.2.1 c12).2 c13).2 c14).2 c15).2 c16).2 c17).2 c18).2 c19).1, ⟨(((((((((H.2.1 c12).2 c13).2 c14).2 c15).2 c16).2 c17).2 c18).2 c19).2).1, ⟨H.1, ⟨((((((((((H.2.1 c12).2 c13).2 c14).2 c15).2 c16).2 c17).2 c18).2 c19).2).2 _ rfl).1, ⟨(((((((((((H.2.1 c12).2 c13).2 c14).2 c15).2 c16).2 c17).2 c18).2 c19).2).2 _ rfl).2).1, ⟨H.1, ⟨((((((((((((H.2.1 c12).2 c13).2 c14).2 c15).2 c16).2 c17).2 c18).2 c19).2).2 _ rfl).2).2 _ rfl).1, ⟨(((((((((((((H.2.1 c12).2 c13).2 c14).2 c15).2 c16).2 c17).2 c18).2 c19).2).2 _ rfl).2).2 _ rfl).2).1, ⟨H.1, ⟨H.1, (((((((((((((((H.2.1 c12).2 c13).2 c14).2 c15).2 c16).2 c17).2 c18).2 c19).2).2 _ rfl).2).2 _ rfl).2).2 _ rfl) _ rfl)⟩⟩⟩⟩⟩⟩⟩⟩⟩⟩⟩⟩⟩⟩⟩⟩⟩⟩⟩, H.2.2⟩⟩)
set_option maxRecDepth 100000 in
set_option maxHeartbeats 4000000 in
theorem v_Phases_keep_1 (x5 : Int32) (h : MH) (Rt : Value → MH → Prop) (H :
Rt (.int x5) h) : WM k_Phases_keep p_Phases_keep_1 [Jv, Jv, Jv, Jv, Jv, .int x5] [] h 0 0 Rt := WM_at (hs := HH_Phases_keep) G_Phases_keep 55 52 rfl H
set_option maxRecDepth 100000 in
set_option maxHeartbeats 4000000 in
theorem v_Ho_phase (x0 : Nat) (x1 : Int32) (x2 : Int32) (x3 : Int64) (h : MH) (Rt : Value → MH → Prop) (H :
kd h x0 = 12 ∧
kd h (mr h x0 18) = 8 ∧
SpI k_Phases_keep [.ref (mr h x0 18), .int x1, .int x2, .long x3] h (fun r4 g2 =>
Rt (.int r4) g2)) : Sp k_Ho_phase [.ref x0, .int x1, .int x2, .long x3] h Rt := Sp_intro2 (by decide) (by decide +kernel) rfl (Nat.le_of_ble_eq_true rfl) (WM_at (hs := HH_Ho_phase) G_Ho_phase 8 0 rfl H)
set_option maxRecDepth 100000 in
set_option maxHeartbeats 4000000 in
theorem v_Ref_phase (x0 : Nat) (x1 : Int32) (x2 : Int32) (x3 : Int64) (h : MH) (Rt : Value → MH → Prop) (H :
kd h x0 = 13 ∧
((mi h x0 56) = (40 : Int32) →
Rt (.int (-1 : Int32)) h) ∧
(¬ (mi h x0 56) = (40 : Int32) →
SpI k_Ref_between [.long x1.toInt64, .long (0 : Int64), .long (99 : Int64)] h (fun r3 g2 =>
(r3 = 0 →
Rt (.int (-1 : Int32)) g2) ∧
(¬ r3 = 0 →
SpI k_Ref_between [.long x2.toInt64, .long (0 : Int64), .long (99 : Int64)] g2 (fun r5 g4 =>
(r5 = 0 →
Rt (.int (-1 : Int32)) g4) ∧
(¬ r5 = 0 →
((x1 + x2) = 0 →
Rt (.int (-1 : Int32)) g4) ∧
(¬ (x1 + x2) = 0 →
SpI k_Ref_between [.long x3, .long (-100000000 : Int64), .long (100000000 : Int64)] g4 (fun r7 g6 =>
(r7 = 0 →
Rt (.int (-1 : Int32)) g6) ∧
(¬ r7 = 0 →
kd g6 x0 = 13 ∧
kd g6 (mr g6 x0 53) = 20 ∧
InB (mi g6 x0 56) (ln g6 (mr g6 x0 53)) ∧
∀ g11 : MH, g11 = wi g6 (mr g6 x0 53) (ix (mi g6 x0 56)) x1 →
kd g6 (mr g6 x0 54) = 20 ∧
InB (mi g11 x0 56) (ln g6 (mr g6 x0 54)) ∧
∀ g14 : MH, g14 = wi g11 (mr g6 x0 54) (ix (mi g11 x0 56)) x2 →
kd g6 (mr g6 x0 55) = 21 ∧
InB (mi g14 x0 56) (ln g6 (mr g6 x0 55)) ∧
∀ g17 : MH, g17 = wl g14 (mr g6 x0 55) (ix (mi g14 x0 56)) x3 →
∀ g18 : MH, g18 = wi g17 x0 56 ((mi g14 x0 56) + (1 : Int32)) →
WM k_Ref_phase p_Ref_phase_1 [.ref x0, Jv, Jv, Jv, Jv] [] g18 0 0 Rt))))))))) : Sp k_Ref_phase [.ref x0, .int x1, .int x2, .long x3] h Rt := Sp_intro2 (by decide) (by decide +kernel) rfl (Nat.le_of_ble_eq_true rfl) (WM_at (hs := HH_Ref_phase) G_Ref_phase 57 0 rfl ⟨H.1, ⟨H.2.1, fun c19 => SpI.mono (H.2.2 c19) (fun r3 g2 qg2 => ⟨qg2.1, fun c20 => SpI.mono (qg2.2 c20) (fun r5 g4 qg4 => ⟨qg4.1, fun c21 => ⟨(qg4.2 c21).1, fun c22 => SpI.mono ((qg4.2 c21).2 c22) (fun r7 g6 qg6 => ⟨qg6.1, fun c23 => ⟨(qg6.2 c23).1, ⟨(qg6.2 c23).1, ⟨((qg6.2 c23).2).1, ⟨(((qg6.2 c23).2).2).1, ⟨(qg6.2 c23).1, ⟨(qg6.2 c23).1, ⟨((((qg6.2 c23).2).2).2 _ rfl).1, ⟨(((((qg6.2 c23).2).2).2 _ rfl).2).1, ⟨(qg6.2 c23).1, ⟨(qg6.2 c23).1, ⟨((((((qg6.2 c23).2).2).2 _ rfl).2).2 _ rfl).1, ⟨(((((((qg6.2 c23).2).2).2 _ rfl).2).2 _ rfl).2).1, ⟨(qg6.2 c23).1, ⟨(qg6.2 c23).1, (((((((((qg6.2 c23).2).2).2 _ rfl).2).2 _ rfl).2).2 _ rfl) _ rfl)⟩⟩⟩⟩⟩⟩⟩⟩⟩⟩⟩⟩⟩⟩⟩)⟩⟩)⟩)⟩⟩)
set_option maxRecDepth 100000 in
set_option maxHeartbeats 4000000 in
theorem v_Ref_phase_1 (x0 : Nat) (h : MH) (Rt : Value → MH → Prop) (H :
kd h x0 = 13 ∧
Rt (.int ((mi h x0 56) - (1 : Int32))) h) : WM k_Ref_phase p_Ref_phase_1 [.ref x0, Jv, Jv, Jv, Jv] [] h 0 0 Rt := WM_at (hs := HH_Ref_phase) G_Ref_phase 57 51 rfl H
set_option maxRecDepth 100000 in
set_option maxHeartbeats 4000000 in
theorem v_Phases_cross (x0 : Nat) (x1 : Int32) (x2 : Int32) (h : MH) (Rt : Value → MH → Prop) (H :
kd h x0 = 8 ∧
kd h (mr h x0 0) = 20 ∧
InB x1 (ln h (mr h x0 0)) ∧
kd h (mr h x0 1) = 20 ∧
InB x2 (ln h (mr h x0 1)) ∧
InB x1 (ln h (mr h x0 1)) ∧
InB x2 (ln h (mr h x0 0)) ∧
Rt (.long ((((mi h (mr h x0 0) (ix x1)) * (mi h (mr h x0 1) (ix x2))) - ((mi h (mr h x0 1) (ix x1)) * (mi h (mr h x0 0) (ix x2)))).toInt64)) h) : Sp k_Phases_cross [.ref x0, .int x1, .int x2] h Rt := Sp_intro2 (by decide) (by decide +kernel) rfl (Nat.le_of_ble_eq_true rfl) (WM_at (hs := HH_Phases_cross) G_Phases_cross 22 0 rfl ⟨H.1, ⟨H.2.1, ⟨H.2.2.1, ⟨H.1, ⟨H.2.2.2.1, ⟨H.2.2.2.2.1, ⟨H.1, ⟨H.2.2.2.1, ⟨H.2.2.2.2.2.1, ⟨H.1, ⟨H.2.1, H.2.2.2.2.2.2⟩⟩⟩⟩⟩⟩⟩⟩⟩⟩⟩)
set_option maxRecDepth 100000 in
set_option maxHeartbeats 4000000 in
theorem v_Phases_offer (x0 : Nat) (x1 : Int64) (x3 : Int64) (h : MH) (Rt : Value → MH → Prop) (H :
kd h x0 = 8 ∧
(0 < (lg_cmp (x1 * (ml h x0 5)) ((ml h x0 4) * x3)).toInt →
∀ g2 : MH, g2 = wl h x0 4 x1 →
∀ g3 : MH, g3 = wl g2 x0 5 x3 →
Rt .null g3) ∧
(¬ 0 < (lg_cmp (x1 * (ml h x0 5)) ((ml h x0 4) * x3)).toInt →
Rt .null h)) : Sp k_Phases_offer [.ref x0, .long x1, .long x3] h Rt := Sp_intro2 (by decide) (by decide +kernel) rfl (Nat.le_of_ble_eq_true rfl) (WM_at (hs := HH_Phases_offer) G_Phases_offer 18 0 rfl ⟨H.1, ⟨H.1, ⟨fun c4 => ⟨H.1, ⟨H.1, (((H.2.1 c4) _ rfl) _ rfl)⟩⟩, H.2.2⟩⟩⟩)
set_option maxRecDepth 100000 in
set_option maxHeartbeats 4000000 in
theorem v_Phases_weighMixtures (x0 : Nat) (x1 : Int32) (x2 : Int32) (h : MH) (Rt : Value → MH → Prop) (H :
WM k_Phases_weighMixtures p_Phases_weighMixtures_1 [.ref x0, .int x1, .int x2, .int (0 : Int32), Jv, Jv] [] h 0 0 Rt) : Sp k_Phases_weighMixtures [.ref x0, .int x1, .int x2] h Rt := Sp_intro2 (by decide) (by decide +kernel) rfl (Nat.le_of_ble_eq_true rfl) (WM_at (hs := HH_Phases_weighMixtures) G_Phases_weighMixtures 51 0 rfl H)
set_option maxRecDepth 100000 in
set_option maxHeartbeats 4000000 in
theorem v_Phases_weighMixtures_1 (x0 : Nat) (x1 : Int32) (x2 : Int32) (x3 : Int32) (h : MH) (Rt : Value → MH → Prop) (H :
kd h x0 = 8 ∧
(x3.toInt < (mi h x0 3).toInt →
SpL k_Phases_cross [.ref x0, .int x1, .int x3] h (fun r3 g2 =>
(0 < (lg_cmp r3 (0 : Int64)).toInt →
kd g2 x0 = 8 ∧
SpL k_Phases_cross [.ref x0, .int x2, .int x3] g2 (fun r6 g4 =>
kd g4 x0 = 8 ∧
kd g4 (mr g4 x0 2) = 21 ∧
InB x1 (ln g4 (mr g4 x0 2)) ∧
InB x2 (ln g4 (mr g4 x0 2)) ∧
SpL k_Phases_cross [.ref x0, .int x1, .int x3] g4 (fun r12 g11 =>
kd g11 x0 = 8 ∧
kd g11 (mr g11 x0 2) = 21 ∧
InB x3 (ln g11 (mr g11 x0 2)) ∧
SpL k_Phases_cross [.ref x0, .int x2, .int x1] g11 (fun r17 g16 =>
kd g16 x0 = 8 ∧
SpV k_Phases_offer [.ref x0, .long ((((ml g4 (mr g4 x0 2) (ix x1)) * r6) - ((ml g4 (mr g4 x0 2) (ix x2)) * r12)) - ((ml g11 (mr g11 x0 2) (ix x3)) * r17)), .long r6] g16 (fun g18 =>
WM k_Phases_weighMixtures p_Phases_weighMixtures_1 [.ref x0, .int x1, .int x2, .int (x3 + (1 : Int32)), Jv, Jv] [] g18 0 0 Rt))))) ∧
(¬ 0 < (lg_cmp r3 (0 : Int64)).toInt →
WM k_Phases_weighMixtures p_Phases_weighMixtures_1 [.ref x0, .int x1, .int x2, .int (x3 + (1 : Int32)), Jv, Jv] [] g2 0 0 Rt))) ∧
(¬ x3.toInt < (mi h x0 3).toInt →
Rt .null h)) : WM k_Phases_weighMixtures p_Phases_weighMixtures_1 [.ref x0, .int x1, .int x2, .int x3, Jv, Jv] [] h 0 0 Rt := WM_at (hs := HH_Phases_weighMixtures) G_Phases_weighMixtures 51 2 rfl ⟨H.1, ⟨fun c20 => ⟨H.1, SpL.mono (H.2.1 c20) (fun r3 g2 qg2 => ⟨fun c21 => ⟨(qg2.1 c21).1, SpL.mono ((qg2.1 c21).2) (fun r6 g4 qg4 => ⟨qg4.1, ⟨qg4.2.1, ⟨qg4.2.2.1, ⟨qg4.1, ⟨qg4.2.1, ⟨qg4.2.2.2.1, ⟨qg4.1, SpL.mono qg4.2.2.2.2 (fun r12 g11 qg11 => ⟨qg11.1, ⟨qg11.2.1, ⟨qg11.2.2.1, ⟨qg11.1, qg11.2.2.2⟩⟩⟩⟩)⟩⟩⟩⟩⟩⟩⟩)⟩, qg2.2⟩)⟩, H.2.2⟩⟩
set_option maxRecDepth 100000 in
set_option maxHeartbeats 4000000 in
theorem v_Phases_weigh (x0 : Nat) (x1 : Int32) (h : MH) (Rt : Value → MH → Prop) (H :
kd h x0 = 8 ∧
∀ g2 : MH, g2 = wl h x0 4 (0 : Int64) →
∀ g3 : MH, g3 = wl g2 x0 5 (1 : Int64) →
WM k_Phases_weigh p_Phases_weigh_1 [.ref x0, .int x1, .int (0 : Int32), Jv, Jv, Jv, Jv, Jv, Jv] [] g3 0 0 Rt) : Sp k_Phases_weigh [.ref x0, .int x1] h Rt := Sp_intro2 (by decide) (by decide +kernel) rfl (Nat.le_of_ble_eq_true rfl) (WM_at (hs := HH_Phases_weigh) G_Phases_weigh 105 0 rfl ⟨H.1, ⟨H.1, ((H.2 _ rfl) _ rfl)⟩⟩)
set_option maxRecDepth 100000 in
set_option maxHeartbeats 4000000 in
theorem v_Phases_weigh_1 (x0 : Nat) (x1 : Int32) (x2 : Int32) (h : MH) (Rt : Value → MH → Prop) (H :
kd h x0 = 8 ∧
(x2.toInt < (mi h x0 3).toInt →
SpL k_Phases_cross [.ref x0, .int x2, .int x1] h (fun r14 g13 =>
((lg_cmp r14 (0 : Int64)) = 0 →
kd g13 x0 = 8 ∧
kd g13 (mr g13 x0 0) = 20 ∧
InB x1 (ln g13 (mr g13 x0 0)) ∧
kd g13 (mr g13 x0 1) = 20 ∧
InB x1 (ln g13 (mr g13 x0 1)) ∧
InB x2 (ln g13 (mr g13 x0 0)) ∧
InB x2 (ln g13 (mr g13 x0 1)) ∧
kd g13 (mr g13 x0 2) = 21 ∧
InB x1 (ln g13 (mr g13 x0 2)) ∧
InB x2 (ln g13 (mr g13 x0 2)) ∧
SpV k_Phases_offer [.ref x0, .long (((ml g13 (mr g13 x0 2) (ix x1)) * ((mi g13 (mr g13 x0 0) (ix x2)) + (mi g13 (mr g13 x0 1) (ix x2))).toInt64) - ((ml g13 (mr g13 x0 2) (ix x2)) * ((mi g13 (mr g13 x0 0) (ix x1)) + (mi g13 (mr g13 x0 1) (ix x1))).toInt64)), .long (((mi g13 (mr g13 x0 0) (ix x2)) + (mi g13 (mr g13 x0 1) (ix x2))).toInt64)] g13 (fun g27 =>
WM k_Phases_weigh p_Phases_weigh_2 [.ref x0, .int x1, .int x2, Jv, Jv, Jv, Jv, Jv, Jv] [] g27 0 0 Rt)) ∧
(¬ (lg_cmp r14 (0 : Int64)) = 0 →
(0 < (lg_cmp r14 (0 : Int64)).toInt →
kd g13 x0 = 8 ∧
SpV k_Phases_weighMixtures [.ref x0, .int x1, .int x2] g13 (fun g15 =>
WM k_Phases_weigh p_Phases_weigh_2 [.ref x0, .int x1, .int x2, Jv, Jv, Jv, Jv, Jv, Jv] [] g15 0 0 Rt)) ∧
(¬ 0 < (lg_cmp r14 (0 : Int64)).toInt →
WM k_Phases_weigh p_Phases_weigh_2 [.ref x0, .int x1, .int x2, Jv, Jv, Jv, Jv, Jv, Jv] [] g13 0 0 Rt)))) ∧
(¬ x2.toInt < (mi h x0 3).toInt →
kd h (mr h x0 0) = 20 ∧
InB x1 (ln h (mr h x0 0)) ∧
kd h (mr h x0 1) = 20 ∧
InB x1 (ln h (mr h x0 1)) ∧
∀ g6 : MH, g6 = wl h x0 5 ((ml h x0 5) * ((mi h (mr h x0 0) (ix x1)) + (mi h (mr h x0 1) (ix x1))).toInt64) →
SpL k_Ho_commonDivisor [.long (ml g6 x0 4), .long (ml g6 x0 5)] g6 (fun r8 g7 =>
kd g7 x0 = 8 ∧
r8 ≠ 0 ∧
∀ g11 : MH, g11 = wl g7 x0 4 ((ml g7 x0 4) / r8) →
∀ g12 : MH, g12 = wl g11 x0 5 ((ml g11 x0 5) / r8) →
Rt .null g12))) : WM k_Phases_weigh p_Phases_weigh_1 [.ref x0, .int x1, .int x2, Jv, Jv, Jv, Jv, Jv, Jv] [] h 0 0 Rt := WM_at (hs := HH_Phases_weigh) G_Phases_weigh 105 8 rfl ⟨H.1, ⟨fun c28 => ⟨H.1, SpL.mono (H.2.1 c28) (fun r14 g13 qg13 => ⟨fun c29 => ⟨(qg13.1 c29).1, ⟨((qg13.1 c29).2).1, ⟨(((qg13.1 c29).2).2).1, ⟨(qg13.1 c29).1, ⟨((((qg13.1 c29).2).2).2).1, ⟨(((((qg13.1 c29).2).2).2).2).1, ⟨(qg13.1 c29).1, ⟨((qg13.1 c29).2).1, ⟨((((((qg13.1 c29).2).2).2).2).2).1, ⟨(qg13.1 c29).1, ⟨((((qg13.1 c29).2).2).2).1, ⟨(((((((qg13.1 c29).2).2).2).2).2).2).1, ⟨(qg13.1 c29).1, ⟨((((((((qg13.1 c29).2).2).2).2).2).2).2).1, ⟨(((((((((qg13.1 c29).2).2).2).2).2).2).2).2).1, ⟨(qg13.1 c29).1, ⟨((((((((qg13.1 c29).2).2).2).2).2).2).2).1, ⟨((((((((((qg13.1 c29).2).2).2).2).2).2).2).2).2).1, ⟨(qg13.1 c29).1, ((((((((((qg13.1 c29).2).2).2).2).2).2).2).2).2).2⟩⟩⟩⟩⟩⟩⟩⟩⟩⟩⟩⟩⟩⟩⟩⟩⟩⟩⟩, qg13.2⟩)⟩, fun c28 => ⟨H.1, ⟨H.1, ⟨(H.2.2 c28).1, ⟨((H.2.2 c28).2).1, ⟨H.1, ⟨(((H.2.2 c28).2).2).1, ⟨((((H.2.2 c28).2).2).2).1, ⟨H.1, ⟨H.1, ⟨H.1, SpL.mono (((((H.2.2 c28).2).2).2).2 _ rfl) (fun r8 g7 qg7 => ⟨qg7.1, ⟨qg7.2.1, ⟨qg7.1, ⟨qg7.1, ⟨qg7.2.1, ⟨qg7.1, ((qg7.2.2 _ rfl) _ rfl)⟩⟩⟩⟩⟩⟩)⟩⟩⟩⟩⟩⟩⟩⟩⟩⟩⟩⟩
set_option maxRecDepth 100000 in
set_option maxHeartbeats 4000000 in
theorem v_Phases_weigh_2 (x0 : Nat) (x1 : Int32) (x2 : Int32) (h : MH) (Rt : Value → MH → Prop) (H :
WM k_Phases_weigh p_Phases_weigh_1 [.ref x0, .int x1, .int (x2 + (1 : Int32)), Jv, Jv, Jv, Jv, Jv, Jv] [] h 0 0 Rt) : WM k_Phases_weigh p_Phases_weigh_2 [.ref x0, .int x1, .int x2, Jv, Jv, Jv, Jv, Jv, Jv] [] h 0 0 Rt := WM_at (hs := HH_Phases_weigh) G_Phases_weigh 105 68 rfl H
set_option maxRecDepth 100000 in
set_option maxHeartbeats 4000000 in
theorem v_Phases_countStable (x0 : Nat) (h : MH) (Rt : Value → MH → Prop) (H :
WM k_Phases_countStable p_Phases_countStable_1 [.ref x0, .int (0 : Int32), .int (0 : Int32)] [] h 0 0 Rt) : Sp k_Phases_countStable [.ref x0] h Rt := Sp_intro2 (by decide) (by decide +kernel) rfl (Nat.le_of_ble_eq_true rfl) (WM_at (hs := HH_Phases_countStable) G_Phases_countStable 22 0 rfl H)
set_option maxRecDepth 100000 in
set_option maxHeartbeats 4000000 in
theorem v_Phases_countStable_1 (x0 : Nat) (x1 : Int32) (x2 : Int32) (h : MH) (Rt : Value → MH → Prop) (H :
kd h x0 = 8 ∧
(x2.toInt < (mi h x0 3).toInt →
SpV k_Phases_weigh [.ref x0, .int x2] h (fun g2 =>
kd g2 x0 = 8 ∧
((lg_cmp (ml g2 x0 4) (0 : Int64)) = 0 →
WM k_Phases_countStable p_Phases_countStable_1 [.ref x0, .int (x1 + (1 : Int32)), .int (x2 + (1 : Int32))] [] g2 0 0 Rt) ∧
(¬ (lg_cmp (ml g2 x0 4) (0 : Int64)) = 0 →
WM k_Phases_countStable p_Phases_countStable_1 [.ref x0, .int x1, .int (x2 + (1 : Int32))] [] g2 0 0 Rt))) ∧
(¬ x2.toInt < (mi h x0 3).toInt →
Rt (.int x1) h)) : WM k_Phases_countStable p_Phases_countStable_1 [.ref x0, .int x1, .int x2] [] h 0 0 Rt := WM_at (hs := HH_Phases_countStable) G_Phases_countStable 22 4 rfl ⟨H.1, ⟨fun c4 => ⟨H.1, (H.2.1 c4)⟩, H.2.2⟩⟩
set_option maxRecDepth 100000 in
set_option maxHeartbeats 4000000 in
theorem v_Ho_above (x0 : Nat) (x1 : Int32) (x2 : Int32) (h : MH) (Rt : Value → MH → Prop) (H :
(x2 = (2 : Int32) →
kd h x0 = 12 ∧
kd h (mr h x0 18) = 8 ∧
SpI k_Phases_countStable [.ref (mr h x0 18)] h (fun r11 g9 =>
Rt (.long r11.toInt64) g9)) ∧
(¬ x2 = (2 : Int32) →
(x1.toInt < 0 →
Rt (.long (0 : Int64)) h) ∧
(¬ x1.toInt < 0 →
kd h x0 = 12 ∧
kd h (mr h x0 18) = 8 ∧
(x1.toInt < (mi h (mr h x0 18) 3).toInt →
(x2.toInt < 0 →
Rt (.long (0 : Int64)) h) ∧
(¬ x2.toInt < 0 →
((1 : Int32).toInt < x2.toInt →
Rt (.long (0 : Int64)) h) ∧
(¬ (1 : Int32).toInt < x2.toInt →
SpV k_Phases_weigh [.ref (mr h x0 18), .int x1] h (fun g3 =>
(x2 = 0 →
kd g3 x0 = 12 ∧
kd g3 (mr g3 x0 18) = 8 ∧
Rt (.long (ml g3 (mr g3 x0 18) 4)) g3) ∧
(¬ x2 = 0 →
kd g3 x0 = 12 ∧
kd g3 (mr g3 x0 18) = 8 ∧
Rt (.long (ml g3 (mr g3 x0 18) 5)) g3))))) ∧
(¬ x1.toInt < (mi h (mr h x0 18) 3).toInt →
Rt (.long (0 : Int64)) h)))) : Sp k_Ho_above [.ref x0, .int x1, .int x2] h Rt := Sp_intro2 (by decide) (by decide +kernel) rfl (Nat.le_of_ble_eq_true rfl) (WM_at (hs := HH_Ho_above) G_Ho_above 37 0 rfl ⟨H.1, fun c12 => ⟨(H.2 c12).1, fun c13 => ⟨((H.2 c12).2 c13).1, ⟨(((H.2 c12).2 c13).2).1, ⟨fun c14 => ⟨(((((H.2 c12).2 c13).2).2).1 c14).1, fun c15 => ⟨((((((H.2 c12).2 c13).2).2).1 c14).2 c15).1, fun c16 => ⟨((H.2 c12).2 c13).1, ⟨(((H.2 c12).2 c13).2).1, (((((((H.2 c12).2 c13).2).2).1 c14).2 c15).2 c16)⟩⟩⟩⟩, ((((H.2 c12).2 c13).2).2).2⟩⟩⟩⟩⟩)
set_option maxRecDepth 100000 in
set_option maxHeartbeats 4000000 in
theorem v_Ref_lesser (x0 : Nat) (x1 : Int64) (x3 : Int64) (h : MH) (Rt : Value → MH → Prop) (H :
kd h x0 = 13 ∧
((lg_cmp (x1 * (ml h x0 58)) ((ml h x0 57) * x3)).toInt < 0 →
∀ g2 : MH, g2 = wl h x0 57 x1 →
∀ g3 : MH, g3 = wl g2 x0 58 x3 →
Rt .null g3) ∧
(¬ (lg_cmp (x1 * (ml h x0 58)) ((ml h x0 57) * x3)).toInt < 0 →
Rt .null h)) : Sp k_Ref_lesser [.ref x0, .long x1, .long x3] h Rt := Sp_intro2 (by decide) (by decide +kernel) rfl (Nat.le_of_ble_eq_true rfl) (WM_at (hs := HH_Ref_lesser) G_Ref_lesser 19 0 rfl ⟨H.1, ⟨H.1, ⟨fun c4 => ⟨H.1, ⟨H.1, (((H.2.1 c4) _ rfl) _ rfl)⟩⟩, H.2.2⟩⟩⟩)
set_option maxRecDepth 100000 in
set_option maxHeartbeats 4000000 in
theorem v_Ref_hullOf (x0 : Nat) (x1 : Int32) (h : MH) (Rt : Value → MH → Prop) (H :
kd h x0 = 13 ∧
kd h (mr h x0 53) = 20 ∧
InB x1 (ln h (mr h x0 53)) ∧
kd h (mr h x0 54) = 20 ∧
InB x1 (ln h (mr h x0 54)) ∧
kd h (mr h x0 55) = 21 ∧
InB x1 (ln h (mr h x0 55)) ∧
∀ g8 : MH, g8 = wl h x0 57 (ml h (mr h x0 55) (ix x1)) →
∀ g9 : MH, g9 = wl g8 x0 58 (1 : Int64) →
WM k_Ref_hullOf p_Ref_hullOf_1 [.ref x0, Jv, .long ((mi h (mr h x0 53) (ix x1)).toInt64), Jv, .long ((mi h (mr h x0 54) (ix x1)).toInt64), Jv, .int (0 : Int32), Jv, Jv, Jv, Jv, Jv, Jv, Jv] [] g9 0 0 Rt) : Sp k_Ref_hullOf [.ref x0, .int x1] h Rt := Sp_intro2 (by decide) (by decide +kernel) rfl (Nat.le_of_ble_eq_true rfl) (WM_at (hs := HH_Ref_hullOf) G_Ref_hullOf 159 0 rfl ⟨H.1, ⟨H.2.1, ⟨H.2.2.1, ⟨H.1, ⟨H.2.2.2.1, ⟨H.2.2.2.2.1, ⟨H.1, ⟨H.2.2.2.2.2.1, ⟨H.2.2.2.2.2.2.1, ⟨H.1, ⟨H.1, ((H.2.2.2.2.2.2.2 _ rfl) _ rfl)⟩⟩⟩⟩⟩⟩⟩⟩⟩⟩⟩)
set_option maxRecDepth 100000 in
set_option maxHeartbeats 4000000 in
theorem v_Ref_hullOf_1 (x0 : Nat) (x2 : Int64) (x4 : Int64) (x6 : Int32) (h : MH) (Rt : Value → MH → Prop) (H :
kd h x0 = 13 ∧
(x6.toInt < (mi h x0 56).toInt →
kd h (mr h x0 53) = 20 ∧
InB x6 (ln h (mr h x0 53)) ∧
kd h (mr h x0 54) = 20 ∧
InB x6 (ln h (mr h x0 54)) ∧
((lg_cmp ((mi h (mr h x0 53) (ix x6)).toInt64 * x4) ((mi h (mr h x0 54) (ix x6)).toInt64 * x2)) = 0 →
kd h (mr h x0 55) = 21 ∧
InB x6 (ln h (mr h x0 55)) ∧
SpV k_Ref_lesser [.ref x0, .long ((ml h (mr h x0 55) (ix x6)) * (x2 + x4)), .long (((mi h (mr h x0 53) (ix x6)) + (mi h (mr h x0 54) (ix x6))).toInt64)] h (fun g8 =>
WM k_Ref_hullOf p_Ref_hullOf_2 [.ref x0, Jv, .long x2, Jv, .long x4, Jv, .int x6, .int (0 : Int32), Jv, Jv, Jv, Jv, Jv, Jv] [] g8 0 0 Rt)) ∧
(¬ (lg_cmp ((mi h (mr h x0 53) (ix x6)).toInt64 * x4) ((mi h (mr h x0 54) (ix x6)).toInt64 * x2)) = 0 →
WM k_Ref_hullOf p_Ref_hullOf_2 [.ref x0, Jv, .long x2, Jv, .long x4, Jv, .int x6, .int (0 : Int32), Jv, Jv, Jv, Jv, Jv, Jv] [] h 0 0 Rt)) ∧
(¬ x6.toInt < (mi h x0 56).toInt →
Rt .null h)) : WM k_Ref_hullOf p_Ref_hullOf_1 [.ref x0, Jv, .long x2, Jv, .long x4, Jv, .int x6, Jv, Jv, Jv, Jv, Jv, Jv, Jv] [] h 0 0 Rt := WM_at (hs := HH_Ref_hullOf) G_Ref_hullOf 159 23 rfl ⟨H.1, ⟨fun c9 => ⟨H.1, ⟨(H.2.1 c9).1, ⟨((H.2.1 c9).2).1, ⟨H.1, ⟨(((H.2.1 c9).2).2).1, ⟨((((H.2.1 c9).2).2).2).1, ⟨fun c10 => ⟨H.1, ⟨((((((H.2.1 c9).2).2).2).2).1 c10).1, ⟨(((((((H.2.1 c9).2).2).2).2).1 c10).2).1, ⟨H.1, ⟨(H.2.1 c9).1, ⟨((H.2.1 c9).2).1, ⟨H.1, ⟨(((H.2.1 c9).2).2).1, ⟨((((H.2.1 c9).2).2).2).1, ⟨H.1, (((((((H.2.1 c9).2).2).2).2).1 c10).2).2⟩⟩⟩⟩⟩⟩⟩⟩⟩⟩, (((((H.2.1 c9).2).2).2).2).2⟩⟩⟩⟩⟩⟩⟩, H.2.2⟩⟩
set_option maxRecDepth 100000 in
set_option maxHeartbeats 4000000 in
theorem v_Ref_hullOf_2 (x0 : Nat) (x2 : Int64) (x4 : Int64) (x6 : Int32) (x7 : Int32) (h : MH) (Rt : Value → MH → Prop) (H :
kd h x0 = 13 ∧
(x7.toInt < (mi h x0 56).toInt →
kd h (mr h x0 53) = 20 ∧
InB x6 (ln h (mr h x0 53)) ∧
kd h (mr h x0 54) = 20 ∧
InB x7 (ln h (mr h x0 54)) ∧
InB x6 (ln h (mr h x0 54)) ∧
InB x7 (ln h (mr h x0 53)) ∧
WM k_Ref_hullOf p_Ref_hullOf_3 [.ref x0, Jv, .long x2, Jv, .long x4, Jv, .int x6, .int x7, .long (((mi h (mr h x0 53) (ix x6)).toInt64 * (mi h (mr h x0 54) (ix x7)).toInt64) - ((mi h (mr h x0 54) (ix x6)).toInt64 * (mi h (mr h x0 53) (ix x7)).toInt64)), Jv, .long ((x2 * (mi h (mr h x0 54) (ix x7)).toInt64) - (x4 * (mi h (mr h x0 53) (ix x7)).toInt64)), Jv, .long (((mi h (mr h x0 53) (ix x6)).toInt64 * x4) - ((mi h (mr h x0 54) (ix x6)).toInt64 * x2)), Jv] [] h 0 0 Rt) ∧
(¬ x7.toInt < (mi h x0 56).toInt →
WM k_Ref_hullOf p_Ref_hullOf_1 [.ref x0, Jv, .long x2, Jv, .long x4, Jv, .int (x6 + (1 : Int32)), Jv, Jv, Jv, Jv, Jv, Jv, Jv] [] h 0 0 Rt)) : WM k_Ref_hullOf p_Ref_hullOf_2 [.ref x0, Jv, .long x2, Jv, .long x4, Jv, .int x6, .int x7, Jv, Jv, Jv, Jv, Jv, Jv] [] h 0 0 Rt := WM_at (hs := HH_Ref_hullOf) G_Ref_hullOf 159 65 rfl ⟨H.1, ⟨fun c8 => ⟨H.1, ⟨(H.2.1 c8).1, ⟨((H.2.1 c8).2).1, ⟨H.1, ⟨(((H.2.1 c8).2).2).1, ⟨((((H.2.1 c8).2).2).2).1, ⟨H.1, ⟨(((H.2.1 c8).2).2).1, ⟨(((((H.2.1 c8).2).2).2).2).1, ⟨H.1, ⟨(H.2.1 c8).1, ⟨((((((H.2.1 c8).2).2).2).2).2).1, ⟨H.1, ⟨(((H.2.1 c8).2).2).1, ⟨((((H.2.1 c8).2).2).2).1, ⟨H.1, ⟨(H.2.1 c8).1, ⟨((((((H.2.1 c8).2).2).2).2).2).1, ⟨H.1, ⟨(H.2.1 c8).1, ⟨((H.2.1 c8).2).1, ⟨H.1, ⟨(((H.2.1 c8).2).2).1, ⟨(((((H.2.1 c8).2).2).2).2).1, ((((((H.2.1 c8).2).2).2).2).2).2⟩⟩⟩⟩⟩⟩⟩⟩⟩⟩⟩⟩⟩⟩⟩⟩⟩⟩⟩⟩⟩⟩⟩⟩, H.2.2⟩⟩
set_option maxRecDepth 100000 in
set_option maxHeartbeats 4000000 in
theorem v_Ref_hullOf_3 (x0 : Nat) (x2 : Int64) (x4 : Int64) (x6 : Int32) (x7 : Int32) (x8 : Int64) (x10 : Int64) (x12 : Int64) (h : MH) (Rt : Value → MH → Prop) (H :
(0 < (lg_cmp x8 (0 : Int64)).toInt →
((lg_cmp x10 (0 : Int64)).toInt < 0 →
WM k_Ref_hullOf p_Ref_hullOf_2 [.ref x0, Jv, .long x2, Jv, .long x4, Jv, .int x6, .int (x7 + (1 : Int32)), Jv, Jv, Jv, Jv, Jv, Jv] [] h 0 0 Rt) ∧
(¬ (lg_cmp x10 (0 : Int64)).toInt < 0 →
((lg_cmp x12 (0 : Int64)).toInt < 0 →
WM k_Ref_hullOf p_Ref_hullOf_2 [.ref x0, Jv, .long x2, Jv, .long x4, Jv, .int x6, .int (x7 + (1 : Int32)), Jv, Jv, Jv, Jv, Jv, Jv] [] h 0 0 Rt) ∧
(¬ (lg_cmp x12 (0 : Int64)).toInt < 0 →
kd h x0 = 13 ∧
kd h (mr h x0 55) = 21 ∧
InB x6 (ln h (mr h x0 55)) ∧
InB x7 (ln h (mr h x0 55)) ∧
SpV k_Ref_lesser [.ref x0, .long ((x10 * (ml h (mr h x0 55) (ix x6))) + (x12 * (ml h (mr h x0 55) (ix x7)))), .long x8] h (fun g5 =>
WM k_Ref_hullOf p_Ref_hullOf_2 [.ref x0, Jv, .long x2, Jv, .long x4, Jv, .int x6, .int (x7 + (1 : Int32)), Jv, Jv, Jv, Jv, Jv, Jv] [] g5 0 0 Rt)))) ∧
(¬ 0 < (lg_cmp x8 (0 : Int64)).toInt →
WM k_Ref_hullOf p_Ref_hullOf_2 [.ref x0, Jv, .long x2, Jv, .long x4, Jv, .int x6, .int (x7 + (1 : Int32)), Jv, Jv, Jv, Jv, Jv, Jv] [] h 0 0 Rt)) : WM k_Ref_hullOf p_Ref_hullOf_3 [.ref x0, Jv, .long x2, Jv, .long x4, Jv, .int x6, .int x7, .long x8, Jv, .long x10, Jv, .long x12, Jv] [] h 0 0 Rt := WM_at (hs := HH_Ref_hullOf) G_Ref_hullOf 159 125 rfl ⟨fun c6 => ⟨(H.1 c6).1, fun c7 => ⟨((H.1 c6).2 c7).1, fun c8 => ⟨(((H.1 c6).2 c7).2 c8).1, ⟨((((H.1 c6).2 c7).2 c8).2).1, ⟨(((((H.1 c6).2 c7).2 c8).2).2).1, ⟨(((H.1 c6).2 c7).2 c8).1, ⟨((((H.1 c6).2 c7).2 c8).2).1, ⟨((((((H.1 c6).2 c7).2 c8).2).2).2).1, ⟨(((H.1 c6).2 c7).2 c8).1, ((((((H.1 c6).2 c7).2 c8).2).2).2).2⟩⟩⟩⟩⟩⟩⟩⟩⟩, H.2⟩
set_option maxRecDepth 100000 in
set_option maxHeartbeats 4000000 in
theorem v_Ref_aboveOf (x0 : Nat) (x1 : Int32) (h : MH) (Rt : Value → MH → Prop) (H :
kd h x0 = 13 ∧
SpV k_Ref_hullOf [.ref x0, .int x1] h (fun g1 =>
kd g1 x0 = 13 ∧
kd g1 (mr g1 x0 55) = 21 ∧
InB x1 (ln g1 (mr g1 x0 55)) ∧
kd g1 (mr g1 x0 53) = 20 ∧
InB x1 (ln g1 (mr g1 x0 53)) ∧
kd g1 (mr g1 x0 54) = 20 ∧
InB x1 (ln g1 (mr g1 x0 54)) ∧
WM k_Ref_aboveOf p_Ref_aboveOf_1 [.ref x0, Jv, .long (((ml g1 (mr g1 x0 55) (ix x1)) * (ml g1 x0 58)) - (ml g1 x0 57)), Jv, .long ((ml g1 x0 58) * ((mi g1 (mr g1 x0 53) (ix x1)) + (mi g1 (mr g1 x0 54) (ix x1))).toInt64), Jv, .long ((ml g1 x0 58) * ((mi g1 (mr g1 x0 53) (ix x1)) + (mi g1 (mr g1 x0 54) (ix x1))).toInt64), Jv, .long (((ml g1 (mr g1 x0 55) (ix x1)) * (ml g1 x0 58)) - (ml g1 x0 57)), Jv, Jv, Jv] [] g1 0 0 Rt)) : Sp k_Ref_aboveOf [.ref x0, .int x1] h Rt := Sp_intro2 (by decide) (by decide +kernel) rfl (Nat.le_of_ble_eq_true rfl) (WM_at (hs := HH_Ref_aboveOf) G_Ref_aboveOf 57 0 rfl ⟨H.1, SpV.mono H.2 (fun g1 qg1 => ⟨qg1.1, ⟨qg1.2.1, ⟨qg1.2.2.1, ⟨qg1.1, ⟨qg1.1, ⟨qg1.1, ⟨qg1.1, ⟨qg1.2.2.2.1, ⟨qg1.2.2.2.2.1, ⟨qg1.1, qg1.2.2.2.2.2⟩⟩⟩⟩⟩⟩⟩⟩⟩⟩)⟩)
set_option maxRecDepth 100000 in
set_option maxHeartbeats 4000000 in
theorem v_Ref_aboveOf_1 (x0 : Nat) (x2 : Int64) (x4 : Int64) (x6 : Int64) (x8 : Int64) (h : MH) (Rt : Value → MH → Prop) (H :
((lg_cmp x8 (0 : Int64)) = 0 →
x6 ≠ 0 ∧
kd h x0 = 13 ∧
∀ g3 : MH, g3 = wl h x0 57 (x2 / x6) →
∀ g4 : MH, g4 = wl g3 x0 58 (x4 / x6) →
Rt .null g4) ∧
(¬ (lg_cmp x8 (0 : Int64)) = 0 →
x8 ≠ 0 ∧
WM k_Ref_aboveOf p_Ref_aboveOf_1 [.ref x0, Jv, .long x2, Jv, .long x4, Jv, .long x8, Jv, .long (lrm x6 x8), Jv, Jv, Jv] [] h 0 0 Rt)) : WM k_Ref_aboveOf p_Ref_aboveOf_1 [.ref x0, Jv, .long x2, Jv, .long x4, Jv, .long x6, Jv, .long x8, Jv, Jv, Jv] [] h 0 0 Rt := WM_at (hs := HH_Ref_aboveOf) G_Ref_aboveOf 57 32 rfl ⟨fun c6 => ⟨(H.1 c6).1, ⟨((H.1 c6).2).1, ⟨(H.1 c6).1, ⟨((H.1 c6).2).1, ((((H.1 c6).2).2 _ rfl) _ rfl)⟩⟩⟩⟩, H.2⟩
set_option maxRecDepth 100000 in
set_option maxHeartbeats 4000000 in
theorem v_Ref_above (x0 : Nat) (x1 : Int32) (x2 : Int32) (h : MH) (Rt : Value → MH → Prop) (H :
(x2 = (2 : Int32) →
WM k_Ref_above p_Ref_above_1 [.ref x0, Jv, Jv, .long (0 : Int64), Jv, .int (0 : Int32)] [] h 0 0 Rt) ∧
(¬ x2 = (2 : Int32) →
(x1.toInt < 0 →
Rt (.long (0 : Int64)) h) ∧
(¬ x1.toInt < 0 →
kd h x0 = 13 ∧
(x1.toInt < (mi h x0 56).toInt →
(x2 = 0 →
WM k_Ref_above p_Ref_above_2 [.ref x0, .int x1, .int x2, Jv, Jv, Jv] [] h 0 0 Rt) ∧
(¬ x2 = 0 →
(x2 = (1 : Int32) →
WM k_Ref_above p_Ref_above_2 [.ref x0, .int x1, .int x2, Jv, Jv, Jv] [] h 0 0 Rt) ∧
(¬ x2 = (1 : Int32) →
Rt (.long (0 : Int64)) h))) ∧
(¬ x1.toInt < (mi h x0 56).toInt →
Rt (.long (0 : Int64)) h)))) : Sp k_Ref_above [.ref x0, .int x1, .int x2] h Rt := Sp_intro2 (by decide) (by decide +kernel) rfl (Nat.le_of_ble_eq_true rfl) (WM_at (hs := HH_Ref_above) G_Ref_above 54 0 rfl H)
set_option maxRecDepth 100000 in
set_option maxHeartbeats 4000000 in
theorem v_Ref_above_1 (x0 : Nat) (x3 : Int64) (x5 : Int32) (h : MH) (Rt : Value → MH → Prop) (H :
kd h x0 = 13 ∧
(x5.toInt < (mi h x0 56).toInt →
SpV k_Ref_aboveOf [.ref x0, .int x5] h (fun g2 =>
kd g2 x0 = 13 ∧
((lg_cmp (ml g2 x0 57) (0 : Int64)) = 0 →
WM k_Ref_above p_Ref_above_1 [.ref x0, Jv, Jv, .long (x3 + (1 : Int64)), Jv, .int (x5 + (1 : Int32))] [] g2 0 0 Rt) ∧
(¬ (lg_cmp (ml g2 x0 57) (0 : Int64)) = 0 →
WM k_Ref_above p_Ref_above_1 [.ref x0, Jv, Jv, .long (x3 + (0 : Int64)), Jv, .int (x5 + (1 : Int32))] [] g2 0 0 Rt))) ∧
(¬ x5.toInt < (mi h x0 56).toInt →
Rt (.long x3) h)) : WM k_Ref_above p_Ref_above_1 [.ref x0, Jv, Jv, .long x3, Jv, .int x5] [] h 0 0 Rt := WM_at (hs := HH_Ref_above) G_Ref_above 54 7 rfl ⟨H.1, ⟨fun c4 => ⟨H.1, (H.2.1 c4)⟩, H.2.2⟩⟩
set_option maxRecDepth 100000 in
set_option maxHeartbeats 4000000 in
theorem v_Ref_above_2 (x0 : Nat) (x1 : Int32) (x2 : Int32) (h : MH) (Rt : Value → MH → Prop) (H :
kd h x0 = 13 ∧
SpV k_Ref_aboveOf [.ref x0, .int x1] h (fun g1 =>
(x2 = 0 →
kd g1 x0 = 13 ∧
Rt (.long (ml g1 x0 57)) g1) ∧
(¬ x2 = 0 →
kd g1 x0 = 13 ∧
Rt (.long (ml g1 x0 58)) g1))) : WM k_Ref_above p_Ref_above_2 [.ref x0, .int x1, .int x2, Jv, Jv, Jv] [] h 0 0 Rt := WM_at (hs := HH_Ref_above) G_Ref_above 54 42 rfl H
