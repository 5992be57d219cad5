set_option maxRecDepth 100000 in
set_option maxHeartbeats 4000000 in
theorem v_Ref_half (x0 : Nat) (x1 : Int32) (x2 : Int32) (h : MH) (Rt : Value → MH → Prop) (H :
kd h x0 = 13 ∧
SpI k_Ref_isGroup [.ref x0, .int x1] h (fun r3 g1 =>
(r3 = 0 →
Rt (.int (-1 : Int32)) g1) ∧
(¬ r3 = 0 →
kd g1 x0 = 13 ∧
SpV k_Ref_know [.ref x0, .int x1] g1 (fun g4 =>
(x2.toInt < 0 →
Rt (.int (-1 : Int32)) g4) ∧
(¬ x2.toInt < 0 →
kd g4 x0 = 13 ∧
kd g4 (mr g4 x0 21) = 20 ∧
InB x1 (ln g4 (mr g4 x0 21)) ∧
(x2.toInt < (mi g4 (mr g4 x0 21) (ix x1)).toInt →
∀ g9 : MH, g9 = wi g4 x0 19 (0 : Int32) →
WM k_Ref_half p_Ref_half_1 [.ref x0, .int x1, .int x2, .int (0 : Int32)] [] g9 0 0 Rt) ∧
(¬ x2.toInt < (mi g4 (mr g4 x0 21) (ix x1)).toInt →
Rt (.int (-1 : Int32)) g4)))))) : Sp k_Ref_half [.ref x0, .int x1, .int x2] h Rt := Sp_intro2 (by decide) (by decide +kernel) rfl (Nat.le_of_ble_eq_true rfl) (WM_at (hs := HH_Ref_half) G_Ref_half 81 0 rfl ⟨H.1, SpI.mono H.2 (fun r3 g1 qg1 => ⟨qg1.1, fun c10 => ⟨(qg1.2 c10).1, SpV.mono ((qg1.2 c10).2) (fun g4 qg4 => ⟨qg4.1, fun c11 => ⟨(qg4.2 c11).1, ⟨((qg4.2 c11).2).1, ⟨(((qg4.2 c11).2).2).1, ⟨fun c12 => ⟨(qg4.2 c11).1, ((((((qg4.2 c11).2).2).2).1 c12) _ rfl)⟩, ((((qg4.2 c11).2).2).2).2⟩⟩⟩⟩⟩)⟩⟩)⟩)
set_option maxRecDepth 100000 in
set_option maxHeartbeats 4000000 in
theorem v_Ref_half_1 (x0 : Nat) (x1 : Int32) (x2 : Int32) (x3 : Int32) (h : MH) (Rt : Value → MH → Prop) (H :
kd h x0 = 13 ∧
kd h (mr h x0 16) = 20 ∧
InB x1 (ln h (mr h x0 16)) ∧
(x3.toInt < (mi h (mr h x0 16) (ix x1)).toInt →
kd h (mr h x0 23) = 21 ∧
InB ((((384 : Int32) * x1) + ((3 : Int32) * x2)) + (x3 / (64 : Int32))) (ln h (mr h x0 23)) ∧
((lg_cmp (((ml h (mr h x0 23) (ix ((((384 : Int32) * x1) + ((3 : Int32) * x2)) + (x3 / (64 : Int32))))) >>> (((63 : Int32) - (irm x3 (64 : Int32))).toInt64 &&& (63 : Int64))) &&& (1 : Int64)) (0 : Int64)) = 0 →
WM k_Ref_half p_Ref_half_1 [.ref x0, .int x1, .int x2, .int (x3 + (1 : Int32))] [] h 0 0 Rt) ∧
(¬ (lg_cmp (((ml h (mr h x0 23) (ix ((((384 : Int32) * x1) + ((3 : Int32) * x2)) + (x3 / (64 : Int32))))) >>> (((63 : Int32) - (irm x3 (64 : Int32))).toInt64 &&& (63 : Int64))) &&& (1 : Int64)) (0 : Int64)) = 0 →
kd h (mr h x0 15) = 20 ∧
InB (((192 : Int32) * x1) + x3) (ln h (mr h x0 15)) ∧
kd h (mr h x0 18) = 20 ∧
InB (mi h x0 19) (ln h (mr h x0 18)) ∧
∀ g12 : MH, g12 = wi h (mr h x0 18) (ix (mi h x0 19)) (mi h (mr h x0 15) (ix (((192 : Int32) * x1) + x3))) →
∀ g13 : MH, g13 = wi g12 x0 19 ((mi g12 x0 19) + (1 : Int32)) →
WM k_Ref_half p_Ref_half_1 [.ref x0, .int x1, .int x2, .int (x3 + (1 : Int32))] [] g13 0 0 Rt)) ∧
(¬ x3.toInt < (mi h (mr h x0 16) (ix x1)).toInt →
SpI k_Ref_numbered [.ref x0] h (fun r5 g4 =>
Rt (.int r5) g4))) : WM k_Ref_half p_Ref_half_1 [.ref x0, .int x1, .int x2, .int x3] [] h 0 0 Rt := WM_at (hs := HH_Ref_half) G_Ref_half 81 24 rfl ⟨H.1, ⟨H.2.1, ⟨H.2.2.1, ⟨fun c14 => ⟨H.1, ⟨(by decide), ⟨(H.2.2.2.1 c14).1, ⟨((H.2.2.2.1 c14).2).1, ⟨(by decide), ⟨(((H.2.2.2.1 c14).2).2).1, fun c15 => ⟨H.1, ⟨H.1, ⟨H.1, ⟨((((H.2.2.2.1 c14).2).2).2 c15).1, ⟨(((((H.2.2.2.1 c14).2).2).2 c15).2).1, ⟨((((((H.2.2.2.1 c14).2).2).2 c15).2).2).1, ⟨(((((((H.2.2.2.1 c14).2).2).2 c15).2).2).2).1, ⟨H.1, ⟨H.1, (((((((((H.2.2.2.1 c14).2).2).2 c15).2).2).2).2 _ rfl) _ rfl)⟩⟩⟩⟩⟩⟩⟩⟩⟩⟩⟩⟩⟩⟩⟩, fun c14 => ⟨H.1, (H.2.2.2.2 c14)⟩⟩⟩⟩⟩
set_option maxRecDepth 100000 in
set_option maxHeartbeats 4000000 in
theorem v_Ho_within (x0 : Nat) (x1 : Int32) (x2 : Int32) (h : MH) (Rt : Value → MH → Prop) (H :
kd h x0 = 12 ∧
SpR k_Ho_groupAt [.ref x0, .int x1] h (fun r3 g1 =>
kd g1 x0 = 12 ∧
SpR k_Ho_groupAt [.ref x0, .int x2] g1 (fun r6 g4 =>
(r3 = 0 →
Rt (.int (0 : Int32)) g4) ∧
(¬ r3 = 0 →
(r6 = 0 →
Rt (.int (0 : Int32)) g4) ∧
(¬ r6 = 0 →
WM k_Ho_within p_Ho_within_1 [Jv, Jv, Jv, .ref r3, .ref r6, .int (0 : Int32)] [] g4 0 0 Rt))))) : Sp k_Ho_within [.ref x0, .int x1, .int x2] h Rt := Sp_intro2 (by decide) (by decide +kernel) rfl (Nat.le_of_ble_eq_true rfl) (WM_at (hs := HH_Ho_within) G_Ho_within 38 0 rfl ⟨H.1, SpR.mono H.2 (fun r3 g1 qg1 => ⟨qg1.1, SpR.mono qg1.2 (fun r6 g4 qg4 => ⟨fun c7 => ⟨(Or.inl rfl), (qg4.1 c7)⟩, fun c7 => ⟨fun c8 => ⟨(Or.inl rfl), ((qg4.2 c7).1 c8)⟩, (qg4.2 c7).2⟩⟩)⟩)⟩)
set_option maxRecDepth 100000 in
set_option maxHeartbeats 4000000 in
theorem v_Ho_within_1 (x3 : Nat) (x4 : Nat) (x5 : Int32) (h : MH) (Rt : Value → MH → Prop) (H :
kd h x3 = 4 ∧
kd h (mr h x3 0) = 9 ∧
(x5.toInt < (mi h (mr h x3 0) 1).toInt →
kd h x4 = 4 ∧
kd h (mr h (mr h x3 0) 0) = 20 ∧
InB x5 (ln h (mr h (mr h x3 0) 0)) ∧
kd h (mr h x4 0) = 9 ∧
SpI k_Row_find [.ref (mr h x4 0), .int (mi h (mr h (mr h x3 0) 0) (ix x5))] h (fun r8 g6 =>
(r8 = (-1 : Int32) →
Rt (.int (0 : Int32)) g6) ∧
(¬ r8 = (-1 : Int32) →
WM k_Ho_within p_Ho_within_1 [Jv, Jv, Jv, .ref x3, .ref x4, .int (x5 + (1 : Int32))] [] g6 0 0 Rt))) ∧
(¬ x5.toInt < (mi h (mr h x3 0) 1).toInt →
Rt (.int (1 : Int32)) h)) : WM k_Ho_within p_Ho_within_1 [Jv, Jv, Jv, .ref x3, .ref x4, .int x5] [] h 0 0 Rt := WM_at (hs := HH_Ho_within) G_Ho_within 38 16 rfl ⟨H.1, ⟨H.2.1, ⟨fun c9 => ⟨(H.2.2.1 c9).1, ⟨H.1, ⟨H.2.1, ⟨((H.2.2.1 c9).2).1, ⟨(((H.2.2.1 c9).2).2).1, ⟨((((H.2.2.1 c9).2).2).2).1, SpI.mono (((((H.2.2.1 c9).2).2).2).2) (fun r8 g6 qg6 => ⟨fun c10 => ⟨(Or.inl rfl), (qg6.1 c10)⟩, qg6.2⟩)⟩⟩⟩⟩⟩⟩, fun c9 => ⟨(Or.inr rfl), (H.2.2.2 c9)⟩⟩⟩⟩
set_option maxRecDepth 100000 in
set_option maxHeartbeats 4000000 in
theorem v_Ref_within (x0 : Nat) (x1 : Int32) (x2 : Int32) (h : MH) (Rt : Value → MH → Prop) (H :
kd h x0 = 13 ∧
SpI k_Ref_isGroup [.ref x0, .int x1] h (fun r3 g1 =>
(r3 = 0 →
Rt (.int (0 : Int32)) g1) ∧
(¬ r3 = 0 →
kd g1 x0 = 13 ∧
SpI k_Ref_isGroup [.ref x0, .int x2] g1 (fun r6 g4 =>
(r6 = 0 →
Rt (.int (0 : Int32)) g4) ∧
(¬ r6 = 0 →
WM k_Ref_within p_Ref_within_1 [.ref x0, .int x1, .int x2, .int (0 : Int32)] [] g4 0 0 Rt))))) : Sp k_Ref_within [.ref x0, .int x1, .int x2] h Rt := Sp_intro2 (by decide) (by decide +kernel) rfl (Nat.le_of_ble_eq_true rfl) (WM_at (hs := HH_Ref_within) G_Ref_within 38 0 rfl ⟨H.1, SpI.mono H.2 (fun r3 g1 qg1 => ⟨fun c7 => ⟨(Or.inl rfl), (qg1.1 c7)⟩, fun c7 => ⟨(qg1.2 c7).1, SpI.mono ((qg1.2 c7).2) (fun r6 g4 qg4 => ⟨fun c8 => ⟨(Or.inl rfl), (qg4.1 c8)⟩, qg4.2⟩)⟩⟩)⟩)
set_option maxRecDepth 100000 in
set_option maxHeartbeats 4000000 in
theorem v_Ref_within_1 (x0 : Nat) (x1 : Int32) (x2 : Int32) (x3 : Int32) (h : MH) (Rt : Value → MH → Prop) (H :
kd h x0 = 13 ∧
kd h (mr h x0 16) = 20 ∧
InB x1 (ln h (mr h x0 16)) ∧
(x3.toInt < (mi h (mr h x0 16) (ix x1)).toInt →
kd h (mr h x0 15) = 20 ∧
InB (((192 : Int32) * x1) + x3) (ln h (mr h x0 15)) ∧
SpI k_Ref_find [.ref x0, .int x2, .int (mi h (mr h x0 15) (ix (((192 : Int32) * x1) + x3)))] h (fun r7 g6 =>
(r7 = (-1 : Int32) →
Rt (.int (0 : Int32)) g6) ∧
(¬ r7 = (-1 : Int32) →
WM k_Ref_within p_Ref_within_1 [.ref x0, .int x1, .int x2, .int (x3 + (1 : Int32))] [] g6 0 0 Rt))) ∧
(¬ x3.toInt < (mi h (mr h x0 16) (ix x1)).toInt →
Rt (.int (1 : Int32)) h)) : WM k_Ref_within p_Ref_within_1 [.ref x0, .int x1, .int x2, .int x3] [] h 0 0 Rt := WM_at (hs := HH_Ref_within) G_Ref_within 38 12 rfl ⟨H.1, ⟨H.2.1, ⟨H.2.2.1, ⟨fun c8 => ⟨H.1, ⟨(H.2.2.2.1 c8).1, ⟨((H.2.2.2.1 c8).2).1, ⟨H.1, SpI.mono (((H.2.2.2.1 c8).2).2) (fun r7 g6 qg6 => ⟨fun c9 => ⟨(Or.inl rfl), (qg6.1 c9)⟩, qg6.2⟩)⟩⟩⟩⟩, fun c8 => ⟨(Or.inr rfl), (H.2.2.2.2 c8)⟩⟩⟩⟩⟩
set_option maxRecDepth 100000 in
set_option maxHeartbeats 4000000 in
theorem v_Motion_move (x0 : Nat) (x1 : Int32) (h : MH) (Rt : Value → MH → Prop) (H :
WM k_Motion_move p_Motion_move_1 [.ref x0, Jv, .int (x1 / (576 : Int32)), .int (irm (x1 / (24 : Int32)) (24 : Int32)), .int (irm x1 (24 : Int32)), .int (0 : Int32), .int (0 : Int32), Jv] [] h 0 0 Rt) : Sp k_Motion_move [.ref x0, .int x1] h Rt := Sp_intro2 (by decide) (by decide +kernel) rfl (Nat.le_of_ble_eq_true rfl) (WM_at (hs := HH_Motion_move) G_Motion_move 70 0 rfl ⟨(by decide), ⟨(by decide), ⟨(by decide), ⟨(by decide), H⟩⟩⟩⟩)
set_option maxRecDepth 100000 in
set_option maxHeartbeats 4000000 in
theorem v_Motion_move_1 (x0 : Nat) (x2 : Int32) (x3 : Int32) (x4 : Int32) (x5 : Int32) (x6 : Int32) (h : MH) (Rt : Value → MH → Prop) (H :
(x6.toInt < (3 : Int32).toInt →
kd h x0 = 7 ∧
kd h (mr h x0 0) = 20 ∧
InB ((3 : Int32) * x6) (ln h (mr h x0 0)) ∧
InB (((3 : Int32) * x6) + (1 : Int32)) (ln h (mr h x0 0)) ∧
InB (((3 : Int32) * x6) + (2 : Int32)) (ln h (mr h x0 0)) ∧
kd h (mr h x0 1) = 20 ∧
InB x6 (ln h (mr h x0 1)) ∧
SpI k_Math_floorMod [.int (((((mi h (mr h x0 0) (ix ((3 : Int32) * x6))) * x2) + ((mi h (mr h x0 0) (ix (((3 : Int32) * x6) + (1 : Int32)))) * x3)) + ((mi h (mr h x0 0) (ix (((3 : Int32) * x6) + (2 : Int32)))) * x4)) + (mi h (mr h x0 1) (ix x6))), .int (24 : Int32)] h (fun r9 g8 =>
WM k_Motion_move p_Motion_move_1 [.ref x0, Jv, .int x2, .int x3, .int x4, .int ((x5 * (24 : Int32)) + r9), .int (x6 + (1 : Int32)), Jv] [] g8 0 0 Rt)) ∧
(¬ x6.toInt < (3 : Int32).toInt →
Rt (.int x5) h)) : WM k_Motion_move p_Motion_move_1 [.ref x0, Jv, .int x2, .int x3, .int x4, .int x5, .int x6, Jv] [] h 0 0 Rt := WM_at (hs := HH_Motion_move) G_Motion_move 70 18 rfl ⟨fun c10 => ⟨(H.1 c10).1, ⟨((H.1 c10).2).1, ⟨(((H.1 c10).2).2).1, ⟨(H.1 c10).1, ⟨((H.1 c10).2).1, ⟨((((H.1 c10).2).2).2).1, ⟨(H.1 c10).1, ⟨((H.1 c10).2).1, ⟨(((((H.1 c10).2).2).2).2).1, ⟨(H.1 c10).1, (((((H.1 c10).2).2).2).2).2⟩⟩⟩⟩⟩⟩⟩⟩⟩⟩, H.2⟩
set_option maxRecDepth 100000 in
set_option maxHeartbeats 4000000 in
theorem v_Ho_keepersOf (x0 : Nat) (x1 : Nat) (x2 : Int32) (x3 : Int32) (h : MH) (Rt : Value → MH → Prop) (H :
WM k_Ho_keepersOf p_Ho_keepersOf_1 [.ref x0, .ref x1, .int x2, .int x3, .int (0 : Int32), .int (0 : Int32), .int (0 : Int32)] [] h 0 0 Rt) : Sp k_Ho_keepersOf [.ref x0, .ref x1, .int x2, .int x3] h Rt := Sp_intro2 (by decide) (by decide +kernel) rfl (Nat.le_of_ble_eq_true rfl) (WM_at (hs := HH_Ho_keepersOf) G_Ho_keepersOf 43 0 rfl H)
set_option maxRecDepth 100000 in
set_option maxHeartbeats 4000000 in
theorem v_Ho_keepersOf_1 (x0 : Nat) (x1 : Nat) (x2 : Int32) (x3 : Int32) (x4 : Int32) (x5 : Int32) (x6 : Int32) (h : MH) (Rt : Value → MH → Prop) (H :
kd h x1 = 4 ∧
kd h (mr h x1 0) = 9 ∧
(x6.toInt < (mi h (mr h x1 0) 1).toInt →
kd h x0 = 12 ∧
kd h (mr h (mr h x1 0) 0) = 20 ∧
InB x6 (ln h (mr h (mr h x1 0) 0)) ∧
kd h (mr h x0 9) = 7 ∧
SpV k_Motion_open [.ref (mr h x0 9), .int (mi h (mr h (mr h x1 0) 0) (ix x6))] h (fun g8 =>
kd g8 x0 = 12 ∧
kd g8 (mr g8 x0 9) = 7 ∧
SpI k_Motion_move [.ref (mr g8 x0 9), .int x2] g8 (fun r13 g11 =>
(r13 = x2 →
kd g11 x0 = 12 ∧
kd g11 (mr g11 x0 9) = 7 ∧
SpI k_Motion_sort [.ref (mr g11 x0 9)] g11 (fun r17 g15 =>
SpI k_Ho_keyOfSort [.int r17] g15 (fun r19 g18 =>
WM k_Ho_keepersOf p_Ho_keepersOf_1 [.ref x0, .ref x1, .int x2, .int x3, .int (x4 + (1 : Int32)), .int (x5 + r19), .int (x6 + (1 : Int32))] [] g18 0 0 Rt))) ∧
(¬ r13 = x2 →
WM k_Ho_keepersOf p_Ho_keepersOf_1 [.ref x0, .ref x1, .int x2, .int x3, .int x4, .int x5, .int (x6 + (1 : Int32))] [] g11 0 0 Rt)))) ∧
(¬ x6.toInt < (mi h (mr h x1 0) 1).toInt →
(x3 = 0 →
Rt (.int x4) h) ∧
(¬ x3 = 0 →
SpI k_Ho_classOfKey [.int x5] h (fun r4 g3 =>
Rt (.int r4) g3)))) : WM k_Ho_keepersOf p_Ho_keepersOf_1 [.ref x0, .ref x1, .int x2, .int x3, .int x4, .int x5, .int x6] [] h 0 0 Rt := WM_at (hs := HH_Ho_keepersOf) G_Ho_keepersOf 43 6 rfl ⟨H.1, ⟨H.2.1, ⟨fun c20 => ⟨(H.2.2.1 c20).1, ⟨H.1, ⟨H.2.1, (H.2.2.1 c20).2⟩⟩⟩, H.2.2.2⟩⟩⟩
set_option maxRecDepth 100000 in
set_option maxHeartbeats 4000000 in
theorem v_Ho_gatherOrbit (x0 : Nat) (x1 : Nat) (x2 : Int32) (h : MH) (Rt : Value → MH → Prop) (H :
kd h x0 = 12 ∧
kd h (mr h x0 10) = 9 ∧
SpV k_Row_clear [.ref (mr h x0 10)] h (fun g2 =>
WM k_Ho_gatherOrbit p_Ho_gatherOrbit_1 [.ref x0, .ref x1, .int x2, .int (0 : Int32)] [] g2 0 0 Rt)) : Sp k_Ho_gatherOrbit [.ref x0, .ref x1, .int x2] h Rt := Sp_intro2 (by decide) (by decide +kernel) rfl (Nat.le_of_ble_eq_true rfl) (WM_at (hs := HH_Ho_gatherOrbit) G_Ho_gatherOrbit 30 0 rfl H)
set_option maxRecDepth 100000 in
set_option maxHeartbeats 4000000 in
theorem v_Ho_gatherOrbit_1 (x0 : Nat) (x1 : Nat) (x2 : Int32) (x3 : Int32) (h : MH) (Rt : Value → MH → Prop) (H :
kd h x1 = 4 ∧
kd h (mr h x1 0) = 9 ∧
(x3.toInt < (mi h (mr h x1 0) 1).toInt →
kd h x0 = 12 ∧
kd h (mr h (mr h x1 0) 0) = 20 ∧
InB x3 (ln h (mr h (mr h x1 0) 0)) ∧
kd h (mr h x0 9) = 7 ∧
SpV k_Motion_open [.ref (mr h x0 9), .int (mi h (mr h (mr h x1 0) 0) (ix x3))] h (fun g6 =>
kd g6 x0 = 12 ∧
kd g6 (mr g6 x0 9) = 7 ∧
SpI k_Motion_move [.ref (mr g6 x0 9), .int x2] g6 (fun r11 g9 =>
kd g9 (mr g6 x0 10) = 9 ∧
SpI k_Row_put [.ref (mr g6 x0 10), .int r11] g9 (fun r14 g12 =>
WM k_Ho_gatherOrbit p_Ho_gatherOrbit_1 [.ref x0, .ref x1, .int x2, .int (x3 + (1 : Int32))] [] g12 0 0 Rt)))) ∧
(¬ x3.toInt < (mi h (mr h x1 0) 1).toInt →
Rt .null h)) : WM k_Ho_gatherOrbit p_Ho_gatherOrbit_1 [.ref x0, .ref x1, .int x2, .int x3] [] h 0 0 Rt := WM_at (hs := HH_Ho_gatherOrbit) G_Ho_gatherOrbit 30 5 rfl ⟨H.1, ⟨H.2.1, ⟨fun c15 => ⟨(H.2.2.1 c15).1, ⟨H.1, ⟨H.2.1, ⟨((H.2.2.1 c15).2).1, ⟨(((H.2.2.1 c15).2).2).1, ⟨((((H.2.2.1 c15).2).2).2).1, SpV.mono (((((H.2.2.1 c15).2).2).2).2) (fun g6 qg6 => ⟨qg6.1, ⟨qg6.1, qg6.2⟩⟩)⟩⟩⟩⟩⟩⟩, H.2.2.2⟩⟩⟩
set_option maxRecDepth 100000 in
set_option maxHeartbeats 4000000 in
theorem v_Ho_orbit (x0 : Nat) (x1 : Int32) (x2 : Int32) (x3 : Int32) (h : MH) (Rt : Value → MH → Prop) (H :
kd h x0 = 12 ∧
SpR k_Ho_groupAt [.ref x0, .int x1] h (fun r3 g1 =>
(r3 = 0 →
Rt (.int (-1 : Int32)) g1) ∧
(¬ r3 = 0 →
(x2.toInt < 0 →
Rt (.int (-1 : Int32)) g1) ∧
(¬ x2.toInt < 0 →
(x2.toInt < (13824 : Int32).toInt →
(x3 = (-2 : Int32) →
WM k_Ho_orbit p_Ho_orbit_1 [.ref x0, Jv, .int x2, .int x3, .ref r3] [] g1 0 0 Rt) ∧
(¬ x3 = (-2 : Int32) →
(x3 = (-3 : Int32) →
WM k_Ho_orbit p_Ho_orbit_1 [.ref x0, Jv, .int x2, .int x3, .ref r3] [] g1 0 0 Rt) ∧
(¬ x3 = (-3 : Int32) →
kd g1 x0 = 12 ∧
SpV k_Ho_gatherOrbit [.ref x0, .ref r3, .int x2] g1 (fun g4 =>
(x3 = (-1 : Int32) →
kd g4 x0 = 12 ∧
kd g4 (mr g4 x0 10) = 9 ∧
Rt (.int (mi g4 (mr g4 x0 10) 1)) g4) ∧
(¬ x3 = (-1 : Int32) →
(x3.toInt < 0 →
Rt (.int (-1 : Int32)) g4) ∧
(¬ x3.toInt < 0 →
kd g4 x0 = 12 ∧
kd g4 (mr g4 x0 10) = 9 ∧
(x3.toInt < (mi g4 (mr g4 x0 10) 1).toInt →
kd g4 (mr g4 (mr g4 x0 10) 0) = 20 ∧
InB x3 (ln g4 (mr g4 (mr g4 x0 10) 0)) ∧
Rt (.int (mi g4 (mr g4 (mr g4 x0 10) 0) (ix x3))) g4) ∧
(¬ x3.toInt < (mi g4 (mr g4 x0 10) 1).toInt →
Rt (.int (-1 : Int32)) g4))))))) ∧
(¬ x2.toInt < (13824 : Int32).toInt →
Rt (.int (-1 : Int32)) g1))))) : Sp k_Ho_orbit [.ref x0, .int x1, .int x2, .int x3] h Rt := Sp_intro2 (by decide) (by decide +kernel) rfl (Nat.le_of_ble_eq_true rfl) (WM_at (hs := HH_Ho_orbit) G_Ho_orbit 57 0 rfl ⟨H.1, SpR.mono H.2 (fun r3 g1 qg1 => ⟨qg1.1, fun c12 => ⟨(qg1.2 c12).1, fun c13 => ⟨fun c14 => ⟨(((qg1.2 c12).2 c13).1 c14).1, fun c15 => ⟨((((qg1.2 c12).2 c13).1 c14).2 c15).1, fun c16 => ⟨(((((qg1.2 c12).2 c13).1 c14).2 c15).2 c16).1, SpV.mono ((((((qg1.2 c12).2 c13).1 c14).2 c15).2 c16).2) (fun g4 qg4 => ⟨qg4.1, fun c17 => ⟨(qg4.2 c17).1, fun c18 => ⟨((qg4.2 c17).2 c18).1, ⟨(((qg4.2 c17).2 c18).2).1, ⟨fun c19 => ⟨((qg4.2 c17).2 c18).1, ⟨(((qg4.2 c17).2 c18).2).1, (((((qg4.2 c17).2 c18).2).2).1 c19)⟩⟩, ((((qg4.2 c17).2 c18).2).2).2⟩⟩⟩⟩⟩)⟩⟩⟩, ((qg1.2 c12).2 c13).2⟩⟩⟩)⟩)
set_option maxRecDepth 100000 in
set_option maxHeartbeats 4000000 in
theorem v_Ho_orbit_1 (x0 : Nat) (x2 : Int32) (x3 : Int32) (x4 : Nat) (h : MH) (Rt : Value → MH → Prop) (H :
(x3 = (-3 : Int32) →
kd h x0 = 12 ∧
SpI k_Ho_keepersOf [.ref x0, .ref x4, .int x2, .int (1 : Int32)] h (fun r6 g4 =>
Rt (.int r6) g4)) ∧
(¬ x3 = (-3 : Int32) →
kd h x0 = 12 ∧
SpI k_Ho_keepersOf [.ref x0, .ref x4, .int x2, .int (0 : Int32)] h (fun r3 g1 =>
Rt (.int r3) g1))) : WM k_Ho_orbit p_Ho_orbit_1 [.ref x0, Jv, .int x2, .int x3, .ref x4] [] h 0 0 Rt := WM_at (hs := HH_Ho_orbit) G_Ho_orbit 57 19 rfl H
set_option maxRecDepth 100000 in
set_option maxHeartbeats 4000000 in
theorem v_Ref_taken (x0 : Nat) (x1 : Int32) (x2 : Int32) (h : MH) (Rt : Value → MH → Prop) (H :
kd h x0 = 13 ∧
SpV k_Ref_open [.int x1, .ref (mr h x0 3), .ref (mr h x0 4)] h (fun g2 =>
WM k_Ref_taken p_Ref_taken_1 [.ref x0, Jv, Jv, .int (x2 / (576 : Int32)), .int (irm (x2 / (24 : Int32)) (24 : Int32)), .int (irm x2 (24 : Int32)), .int (0 : Int32), .int (0 : Int32), Jv] [] g2 0 0 Rt)) : Sp k_Ref_taken [.ref x0, .int x1, .int x2] h Rt := Sp_intro2 (by decide) (by decide +kernel) rfl (Nat.le_of_ble_eq_true rfl) (WM_at (hs := HH_Ref_taken) G_Ref_taken 80 0 rfl ⟨H.1, ⟨H.1, SpV.mono H.2 (fun g2 qg2 => ⟨(by decide), ⟨(by decide), ⟨(by decide), ⟨(by decide), qg2⟩⟩⟩⟩)⟩⟩)
set_option maxRecDepth 100000 in
set_option maxHeartbeats 4000000 in
theorem v_Ref_taken_1 (x0 : Nat) (x3 : Int32) (x4 : Int32) (x5 : Int32) (x6 : Int32) (x7 : Int32) (h : MH) (Rt : Value → MH → Prop) (H :
(x7.toInt < (3 : Int32).toInt →
kd h x0 = 13 ∧
kd h (mr h x0 3) = 20 ∧
InB ((3 : Int32) * x7) (ln h (mr h x0 3)) ∧
InB (((3 : Int32) * x7) + (1 : Int32)) (ln h (mr h x0 3)) ∧
InB (((3 : Int32) * x7) + (2 : Int32)) (ln h (mr h x0 3)) ∧
kd h (mr h x0 4) = 20 ∧
InB x7 (ln h (mr h x0 4)) ∧
WM k_Ref_taken p_Ref_taken_1 [.ref x0, Jv, Jv, .int x3, .int x4, .int x5, .int (((24 : Int32) * x6) + (irm ((irm (((((mi h (mr h x0 3) (ix ((3 : Int32) * x7))) * x3) + ((mi h (mr h x0 3) (ix (((3 : Int32) * x7) + (1 : Int32)))) * x4)) + ((mi h (mr h x0 3) (ix (((3 : Int32) * x7) + (2 : Int32)))) * x5)) + (mi h (mr h x0 4) (ix x7))) (24 : Int32)) + (24 : Int32)) (24 : Int32))), .int (x7 + (1 : Int32)), Jv] [] h 0 0 Rt) ∧
(¬ x7.toInt < (3 : Int32).toInt →
Rt (.int x6) h)) : WM k_Ref_taken p_Ref_taken_1 [.ref x0, Jv, Jv, .int x3, .int x4, .int x5, .int x6, .int x7, Jv] [] h 0 0 Rt := WM_at (hs := HH_Ref_taken) G_Ref_taken 80 24 rfl ⟨fun c8 => ⟨(H.1 c8).1, ⟨((H.1 c8).2).1, ⟨(((H.1 c8).2).2).1, ⟨(H.1 c8).1, ⟨((H.1 c8).2).1, ⟨((((H.1 c8).2).2).2).1, ⟨(H.1 c8).1, ⟨((H.1 c8).2).1, ⟨(((((H.1 c8).2).2).2).2).1, ⟨(H.1 c8).1, ⟨((((((H.1 c8).2).2).2).2).2).1, ⟨(((((((H.1 c8).2).2).2).2).2).2).1, ⟨(by decide), ⟨(by decide), (((((((H.1 c8).2).2).2).2).2).2).2⟩⟩⟩⟩⟩⟩⟩⟩⟩⟩⟩⟩⟩⟩, H.2⟩
set_option maxRecDepth 100000 in
set_option maxHeartbeats 4000000 in
theorem v_Ref_orbitOf (x0 : Nat) (x1 : Int32) (x2 : Int32) (h : MH) (Rt : Value → MH → Prop) (H :
WM k_Ref_orbitOf p_Ref_orbitOf_1 [.ref x0, .int x1, .int x2, .int (0 : Int32), .int (0 : Int32), Jv, Jv, Jv] [] h 0 0 Rt) : Sp k_Ref_orbitOf [.ref x0, .int x1, .int x2] h Rt := Sp_intro2 (by decide) (by decide +kernel) rfl (Nat.le_of_ble_eq_true rfl) (WM_at (hs := HH_Ref_orbitOf) G_Ref_orbitOf 75 0 rfl H)
set_option maxRecDepth 100000 in
set_option maxHeartbeats 4000000 in
theorem v_Ref_orbitOf_1 (x0 : Nat) (x1 : Int32) (x2 : Int32) (x3 : Int32) (x4 : Int32) (h : MH) (Rt : Value → MH → Prop) (H :
kd h x0 = 13 ∧
kd h (mr h x0 16) = 20 ∧
InB x1 (ln h (mr h x0 16)) ∧
(x4.toInt < (mi h (mr h x0 16) (ix x1)).toInt →
kd h (mr h x0 15) = 20 ∧
InB (((192 : Int32) * x1) + x4) (ln h (mr h x0 15)) ∧
SpI k_Ref_taken [.ref x0, .int (mi h (mr h x0 15) (ix (((192 : Int32) * x1) + x4))), .int x2] h (fun r7 g6 =>
WM k_Ref_orbitOf p_Ref_orbitOf_2 [.ref x0, .int x1, .int x2, .int x3, .int x4, .int r7, .int x3, Jv] [] g6 0 0 Rt)) ∧
(¬ x4.toInt < (mi h (mr h x0 16) (ix x1)).toInt →
Rt (.int x3) h)) : WM k_Ref_orbitOf p_Ref_orbitOf_1 [.ref x0, .int x1, .int x2, .int x3, .int x4, Jv, Jv, Jv] [] h 0 0 Rt := WM_at (hs := HH_Ref_orbitOf) G_Ref_orbitOf 75 4 rfl ⟨H.1, ⟨H.2.1, ⟨H.2.2.1, ⟨fun c8 => ⟨H.1, ⟨(H.2.2.2.1 c8).1, ⟨((H.2.2.2.1 c8).2).1, ⟨H.1, ((H.2.2.2.1 c8).2).2⟩⟩⟩⟩, H.2.2.2.2⟩⟩⟩⟩
set_option maxRecDepth 100000 in
set_option maxHeartbeats 4000000 in
theorem v_Ref_orbitOf_2 (x0 : Nat) (x1 : Int32) (x2 : Int32) (x3 : Int32) (x4 : Int32) (x5 : Int32) (x6 : Int32) (h : MH) (Rt : Value → MH → Prop) (H :
(0 < x6.toInt →
kd h x0 = 13 ∧
kd h (mr h x0 27) = 20 ∧
InB (x6 - (1 : Int32)) (ln h (mr h x0 27)) ∧
(x5.toInt < (mi h (mr h x0 27) (ix (x6 - (1 : Int32)))).toInt →
WM k_Ref_orbitOf p_Ref_orbitOf_2 [.ref x0, .int x1, .int x2, .int x3, .int x4, .int x5, .int (x6 + (-1 : Int32)), Jv] [] h 0 0 Rt) ∧
(¬ x5.toInt < (mi h (mr h x0 27) (ix (x6 - (1 : Int32)))).toInt →
WM k_Ref_orbitOf p_Ref_orbitOf_3 [.ref x0, .int x1, .int x2, .int x3, .int x4, .int x5, .int x6, Jv] [] h 0 0 Rt)) ∧
(¬ 0 < x6.toInt →
WM k_Ref_orbitOf p_Ref_orbitOf_3 [.ref x0, .int x1, .int x2, .int x3, .int x4, .int x5, .int x6, Jv] [] h 0 0 Rt)) : WM k_Ref_orbitOf p_Ref_orbitOf_2 [.ref x0, .int x1, .int x2, .int x3, .int x4, .int x5, .int x6, Jv] [] h 0 0 Rt := WM_at (hs := HH_Ref_orbitOf) G_Ref_orbitOf 75 24 rfl H
set_option maxRecDepth 100000 in
set_option maxHeartbeats 4000000 in
theorem v_Ref_orbitOf_3 (x0 : Nat) (x1 : Int32) (x2 : Int32) (x3 : Int32) (x4 : Int32) (x5 : Int32) (x6 : Int32) (h : MH) (Rt : Value → MH → Prop) (H :
(0 < x6.toInt →
kd h x0 = 13 ∧
kd h (mr h x0 27) = 20 ∧
InB (x6 - (1 : Int32)) (ln h (mr h x0 27)) ∧
((mi h (mr h x0 27) (ix (x6 - (1 : Int32)))) = x5 →
WM k_Ref_orbitOf p_Ref_orbitOf_1 [.ref x0, .int x1, .int x2, .int x3, .int (x4 + (1 : Int32)), Jv, Jv, Jv] [] h 0 0 Rt) ∧
(¬ (mi h (mr h x0 27) (ix (x6 - (1 : Int32)))) = x5 →
WM k_Ref_orbitOf p_Ref_orbitOf_4 [.ref x0, .int x1, .int x2, .int x3, .int x4, .int x5, .int x6, .int x3] [] h 0 0 Rt)) ∧
(¬ 0 < x6.toInt →
WM k_Ref_orbitOf p_Ref_orbitOf_4 [.ref x0, .int x1, .int x2, .int x3, .int x4, .int x5, .int x6, .int x3] [] h 0 0 Rt)) : WM k_Ref_orbitOf p_Ref_orbitOf_3 [.ref x0, .int x1, .int x2, .int x3, .int x4, .int x5, .int x6, Jv] [] h 0 0 Rt := WM_at (hs := HH_Ref_orbitOf) G_Ref_orbitOf 75 36 rfl H
set_option maxRecDepth 100000 in
set_option maxHeartbeats 4000000 in
theorem v_Ref_orbitOf_4 (x0 : Nat) (x1 : Int32) (x2 : Int32) (x3 : Int32) (x4 : Int32) (x5 : Int32) (x6 : Int32) (x7 : Int32) (h : MH) (Rt : Value → MH → Prop) (H :
(x6.toInt < x7.toInt →
kd h x0 = 13 ∧
kd h (mr h x0 27) = 20 ∧
InB (x7 - (1 : Int32)) (ln h (mr h x0 27)) ∧
InB x7 (ln h (mr h x0 27)) ∧
∀ g9 : MH, g9 = wi h (mr h x0 27) (ix x7) (mi h (mr h x0 27) (ix (x7 - (1 : Int32)))) →
WM k_Ref_orbitOf p_Ref_orbitOf_4 [.ref x0, .int x1, .int x2, .int x3, .int x4, .int x5, .int x6, .int (x7 + (-1 : Int32))] [] g9 0 0 Rt) ∧
(¬ x6.toInt < x7.toInt →
kd h x0 = 13 ∧
kd h (mr h x0 27) = 20 ∧
InB x6 (ln h (mr h x0 27)) ∧
∀ g4 : MH, g4 = wi h (mr h x0 27) (ix x6) x5 →
WM k_Ref_orbitOf p_Ref_orbitOf_1 [.ref x0, .int x1, .int x2, .int (x3 + (1 : Int32)), .int (x4 + (1 : Int32)), Jv, Jv, Jv] [] g4 0 0 Rt)) : WM k_Ref_orbitOf p_Ref_orbitOf_4 [.ref x0, .int x1, .int x2, .int x3, .int x4, .int x5, .int x6, .int x7] [] h 0 0 Rt := WM_at (hs := HH_Ref_orbitOf) G_Ref_orbitOf 75 49 rfl ⟨fun c10 => ⟨(H.1 c10).1, ⟨(H.1 c10).1, ⟨((H.1 c10).2).1, ⟨(((H.1 c10).2).2).1, ⟨((H.1 c10).2).1, ⟨((((H.1 c10).2).2).2).1, (((((H.1 c10).2).2).2).2 _ rfl)⟩⟩⟩⟩⟩⟩, fun c10 => ⟨(H.2 c10).1, ⟨((H.2 c10).2).1, ⟨(((H.2 c10).2).2).1, ((((H.2 c10).2).2).2 _ rfl)⟩⟩⟩⟩
set_option maxRecDepth 100000 in
set_option maxHeartbeats 4000000 in
theorem v_Ref_orbit (x0 : Nat) (x1 : Int32) (x2 : Int32) (x3 : Int32) (h : MH) (Rt : Value → MH → Prop) (H :
kd h x0 = 13 ∧
SpI k_Ref_isGroup [.ref x0, .int x1] h (fun r3 g1 =>
(r3 = 0 →
Rt (.int (-1 : Int32)) g1) ∧
(¬ r3 = 0 →
(x2.toInt < 0 →
Rt (.int (-1 : Int32)) g1) ∧
(¬ x2.toInt < 0 →
(x2.toInt < (13824 : Int32).toInt →
(x3 = (-1 : Int32) →
kd g1 x0 = 13 ∧
SpI k_Ref_orbitOf [.ref x0, .int x1, .int x2] g1 (fun r12 g10 =>
Rt (.int r12) g10)) ∧
(¬ x3 = (-1 : Int32) →
(x3 = (-2 : Int32) →
WM k_Ref_orbit p_Ref_orbit_1 [.ref x0, .int x1, .int x2, .int x3, .int (0 : Int32), .int (0 : Int32)] [] g1 0 0 Rt) ∧
(¬ x3 = (-2 : Int32) →
(x3 = (-3 : Int32) →
WM k_Ref_orbit p_Ref_orbit_1 [.ref x0, .int x1, .int x2, .int x3, .int (0 : Int32), .int (0 : Int32)] [] g1 0 0 Rt) ∧
(¬ x3 = (-3 : Int32) →
kd g1 x0 = 13 ∧
SpI k_Ref_orbitOf [.ref x0, .int x1, .int x2] g1 (fun r6 g4 =>
(x3.toInt < 0 →
WM k_Ref_orbit p_Ref_orbit_2 [Jv, Jv, Jv, Jv, Jv, Jv] [] g4 0 0 Rt) ∧
(¬ x3.toInt < 0 →
(x3.toInt < r6.toInt →
kd g4 x0 = 13 ∧
kd g4 (mr g4 x0 27) = 20 ∧
InB x3 (ln g4 (mr g4 x0 27)) ∧
Rt (.int (mi g4 (mr g4 x0 27) (ix x3))) g4) ∧
(¬ x3.toInt < r6.toInt →
WM k_Ref_orbit p_Ref_orbit_2 [Jv, Jv, Jv, Jv, Jv, Jv] [] g4 0 0 Rt))))))) ∧
(¬ x2.toInt < (13824 : Int32).toInt →
Rt (.int (-1 : Int32)) g1))))) : Sp k_Ref_orbit [.ref x0, .int x1, .int x2, .int x3] h Rt := Sp_intro2 (by decide) (by decide +kernel) rfl (Nat.le_of_ble_eq_true rfl) (WM_at (hs := HH_Ref_orbit) G_Ref_orbit 94 0 rfl H)
set_option maxRecDepth 100000 in
set_option maxHeartbeats 4000000 in
theorem v_Ref_orbit_1 (x0 : Nat) (x1 : Int32) (x2 : Int32) (x3 : Int32) (x4 : Int32) (x5 : Int32) (h : MH) (Rt : Value → MH → Prop) (H :
kd h x0 = 13 ∧
kd h (mr h x0 16) = 20 ∧
InB x1 (ln h (mr h x0 16)) ∧
(x5.toInt < (mi h (mr h x0 16) (ix x1)).toInt →
kd h (mr h x0 15) = 20 ∧
InB (((192 : Int32) * x1) + x5) (ln h (mr h x0 15)) ∧
SpI k_Ref_taken [.ref x0, .int (mi h (mr h x0 15) (ix (((192 : Int32) * x1) + x5))), .int x2] h (fun r9 g8 =>
(r9 = x2 →
kd g8 x0 = 13 ∧
kd g8 (mr g8 x0 15) = 20 ∧
InB (((192 : Int32) * x1) + x5) (ln g8 (mr g8 x0 15)) ∧
kd g8 (mr g8 x0 61) = 20 ∧
InB x4 (ln g8 (mr g8 x0 61)) ∧
∀ g15 : MH, g15 = wi g8 (mr g8 x0 61) (ix x4) (mi g8 (mr g8 x0 15) (ix (((192 : Int32) * x1) + x5))) →
WM k_Ref_orbit p_Ref_orbit_1 [.ref x0, .int x1, .int x2, .int x3, .int (x4 + (1 : Int32)), .int (x5 + (1 : Int32))] [] g15 0 0 Rt) ∧
(¬ r9 = x2 →
WM k_Ref_orbit p_Ref_orbit_1 [.ref x0, .int x1, .int x2, .int x3, .int x4, .int (x5 + (1 : Int32))] [] g8 0 0 Rt))) ∧
(¬ x5.toInt < (mi h (mr h x0 16) (ix x1)).toInt →
(x3 = (-2 : Int32) →
Rt (.int x4) h) ∧
(¬ x3 = (-2 : Int32) →
SpI k_Ref_classOf [.ref x0, .ref (mr h x0 61), .int (0 : Int32), .int x4] h (fun r5 g4 =>
Rt (.int r5) g4)))) : WM k_Ref_orbit p_Ref_orbit_1 [.ref x0, .int x1, .int x2, .int x3, .int x4, .int x5] [] h 0 0 Rt := WM_at (hs := HH_Ref_orbit) G_Ref_orbit 94 29 rfl ⟨H.1, ⟨H.2.1, ⟨H.2.2.1, ⟨fun c16 => ⟨H.1, ⟨(H.2.2.2.1 c16).1, ⟨((H.2.2.2.1 c16).2).1, ⟨H.1, SpI.mono (((H.2.2.2.1 c16).2).2) (fun r9 g8 qg8 => ⟨fun c17 => ⟨(qg8.1 c17).1, ⟨(qg8.1 c17).1, ⟨((qg8.1 c17).2).1, ⟨(((qg8.1 c17).2).2).1, ⟨((((qg8.1 c17).2).2).2).1, ⟨(((((qg8.1 c17).2).2).2).2).1, ((((((qg8.1 c17).2).2).2).2).2 _ rfl)⟩⟩⟩⟩⟩⟩, qg8.2⟩)⟩⟩⟩⟩, fun c16 => ⟨(H.2.2.2.2 c16).1, fun c18 => ⟨H.1, ⟨H.1, ((H.2.2.2.2 c16).2 c18)⟩⟩⟩⟩⟩⟩⟩
set_option maxRecDepth 100000 in
set_option maxHeartbeats 4000000 in
theorem v_Ref_orbit_2  (h : MH) (Rt : Value → MH → Prop) (H :
Rt (.int (-1 : Int32)) h) : WM k_Ref_orbit p_Ref_orbit_2 [Jv, Jv, Jv, Jv, Jv, Jv] [] h 0 0 Rt := WM_at (hs := HH_Ref_orbit) G_Ref_orbit 94 91 rfl H
set_option maxRecDepth 100000 in
set_option maxHeartbeats 4000000 in
theorem v_Ho_isWave (x0 : Int32) (x1 : Int32) (x2 : Int32) (h : MH) (Rt : Value → MH → Prop) (H :
(x0.toInt < (-60 : Int32).toInt →
Rt (.int (0 : Int32)) h) ∧
(¬ x0.toInt < (-60 : Int32).toInt →
((60 : Int32).toInt < x0.toInt →
Rt (.int (0 : Int32)) h) ∧
(¬ (60 : Int32).toInt < x0.toInt →
(x1.toInt < (-60 : Int32).toInt →
Rt (.int (0 : Int32)) h) ∧
(¬ x1.toInt < (-60 : Int32).toInt →
((60 : Int32).toInt < x1.toInt →
Rt (.int (0 : Int32)) h) ∧
(¬ (60 : Int32).toInt < x1.toInt →
(x2.toInt < (-60 : Int32).toInt →
Rt (.int (0 : Int32)) h) ∧
(¬ x2.toInt < (-60 : Int32).toInt →
((60 : Int32).toInt < x2.toInt →
Rt (.int (0 : Int32)) h) ∧
(¬ (60 : Int32).toInt < x2.toInt →
Rt (.int (1 : Int32)) h))))))) : Sp k_Ho_isWave [.int x0, .int x1, .int x2] h Rt := Sp_intro2 (by decide) (by decide +kernel) rfl (Nat.le_of_ble_eq_true rfl) (WM_at (hs := HH_Ho_isWave) G_Ho_isWave 23 0 rfl ⟨fun c1 => ⟨(Or.inl rfl), (H.1 c1)⟩, fun c1 => ⟨fun c2 => ⟨(Or.inl rfl), ((H.2 c1).1 c2)⟩, fun c2 => ⟨fun c3 => ⟨(Or.inl rfl), (((H.2 c1).2 c2).1 c3)⟩, fun c3 => ⟨fun c4 => ⟨(Or.inl rfl), ((((H.2 c1).2 c2).2 c3).1 c4)⟩, fun c4 => ⟨fun c5 => ⟨(Or.inl rfl), (((((H.2 c1).2 c2).2 c3).2 c4).1 c5)⟩, fun c5 => ⟨fun c6 => ⟨(Or.inl rfl), ((((((H.2 c1).2 c2).2 c3).2 c4).2 c5).1 c6)⟩, fun c6 => ⟨(Or.inr rfl), ((((((H.2 c1).2 c2).2 c3).2 c4).2 c5).2 c6)⟩⟩⟩⟩⟩⟩⟩)
set_option maxRecDepth 100000 in
set_option maxHeartbeats 4000000 in
theorem v_Ho_waveCode (x0 : Int32) (x1 : Int32) (x2 : Int32) (h : MH) (Rt : Value → MH → Prop) (H :
Rt (.int ((((x0 * (361 : Int32)) + x1) * (361 : Int32)) + x2)) h) : Sp k_Ho_waveCode [.int x0, .int x1, .int x2] h Rt := Sp_intro2 (by decide) (by decide +kernel) rfl (Nat.le_of_ble_eq_true rfl) (WM_at (hs := HH_Ho_waveCode) G_Ho_waveCode 11 0 rfl H)
set_option maxRecDepth 100000 in
set_option maxHeartbeats 4000000 in
theorem v_Motion_column (x0 : Nat) (x1 : Int32) (x2 : Int32) (x3 : Int32) (x4 : Int32) (h : MH) (Rt : Value → MH → Prop) (H :
kd h x0 = 7 ∧
kd h (mr h x0 0) = 20 ∧
InB x1 (ln h (mr h x0 0)) ∧
InB ((3 : Int32) + x1) (ln h (mr h x0 0)) ∧
InB ((6 : Int32) + x1) (ln h (mr h x0 0)) ∧
Rt (.int (((x2 * (mi h (mr h x0 0) (ix x1))) + (x3 * (mi h (mr h x0 0) (ix ((3 : Int32) + x1))))) + (x4 * (mi h (mr h x0 0) (ix ((6 : Int32) + x1)))))) h) : Sp k_Motion_column [.ref x0, .int x1, .int x2, .int x3, .int x4] h Rt := Sp_intro2 (by decide) (by decide +kernel) rfl (Nat.le_of_ble_eq_true rfl) (WM_at (hs := HH_Motion_column) G_Motion_column 26 0 rfl ⟨H.1, ⟨H.2.1, ⟨H.2.2.1, ⟨H.1, ⟨H.2.1, ⟨H.2.2.2.1, ⟨H.1, ⟨H.2.1, H.2.2.2.2⟩⟩⟩⟩⟩⟩⟩⟩)
set_option maxRecDepth 100000 in
set_option maxHeartbeats 4000000 in
theorem v_Motion_turn (x0 : Nat) (x1 : Int32) (x2 : Int32) (x3 : Int32) (h : MH) (Rt : Value → MH → Prop) (H :
kd h x0 = 7 ∧
kd h (mr h x0 1) = 20 ∧
InB (0 : Int32) (ln h (mr h x0 1)) ∧
InB (1 : Int32) (ln h (mr h x0 1)) ∧
InB (2 : Int32) (ln h (mr h x0 1)) ∧
SpI k_Math_floorMod [.int (((x1 * (mi h (mr h x0 1) (ix (0 : Int32)))) + (x2 * (mi h (mr h x0 1) (ix (1 : Int32))))) + (x3 * (mi h (mr h x0 1) (ix (2 : Int32))))), .int (24 : Int32)] h (fun r7 g6 =>
Rt (.int r7) g6)) : Sp k_Motion_turn [.ref x0, .int x1, .int x2, .int x3] h Rt := Sp_intro2 (by decide) (by decide +kernel) rfl (Nat.le_of_ble_eq_true rfl) (WM_at (hs := HH_Motion_turn) G_Motion_turn 24 0 rfl ⟨H.1, ⟨H.2.1, ⟨H.2.2.1, ⟨H.1, ⟨H.2.1, ⟨H.2.2.2.1, ⟨H.1, ⟨H.2.1, H.2.2.2.2⟩⟩⟩⟩⟩⟩⟩⟩)
set_option maxRecDepth 100000 in
set_option maxHeartbeats 4000000 in
theorem v_Ho_wave (x0 : Nat) (x1 : Int32) (x2 : Int32) (x3 : Int32) (x4 : Int32) (x5 : Int32) (h : MH) (Rt : Value → MH → Prop) (H :
kd h x0 = 12 ∧
SpR k_Ho_groupAt [.ref x0, .int x1] h (fun r3 g1 =>
(r3 = 0 →
Rt (.int (-1 : Int32)) g1) ∧
(¬ r3 = 0 →
(x5.toInt < 0 →
Rt (.int (-1 : Int32)) g1) ∧
(¬ x5.toInt < 0 →
((2 : Int32).toInt < x5.toInt →
Rt (.int (-1 : Int32)) g1) ∧
(¬ (2 : Int32).toInt < x5.toInt →
SpI k_Ho_isWave [.int x2, .int x3, .int x4] g1 (fun r5 g4 =>
(r5 = 0 →
Rt (.int (-1 : Int32)) g4) ∧
(¬ r5 = 0 →
SpI k_Ho_waveCode [.int x2, .int x3, .int x4] g4 (fun r7 g6 =>
kd g6 x0 = 12 ∧
kd g6 (mr g6 x0 10) = 9 ∧
SpV k_Row_clear [.ref (mr g6 x0 10)] g6 (fun g9 =>
WM k_Ho_wave p_Ho_wave_1 [.ref x0, Jv, .int x2, .int x3, .int x4, .int x5, .ref r3, .int r7, .int (0 : Int32), .int (-1 : Int32), .int (0 : Int32), Jv, Jv] [] g9 0 0 Rt))))))))) : Sp k_Ho_wave [.ref x0, .int x1, .int x2, .int x3, .int x4, .int x5] h Rt := Sp_intro2 (by decide) (by decide +kernel) rfl (Nat.le_of_ble_eq_true rfl) (WM_at (hs := HH_Ho_wave) G_Ho_wave 118 0 rfl H)
set_option maxRecDepth 100000 in
set_option maxHeartbeats 4000000 in
theorem v_Ho_wave_1 (x0 : Nat) (x2 : Int32) (x3 : Int32) (x4 : Int32) (x5 : Int32) (x6 : Nat) (x7 : Int32) (x8 : Int32) (x9 : Int32) (x10 : Int32) (h : MH) (Rt : Value → MH → Prop) (H :
kd h x6 = 4 ∧
kd h (mr h x6 0) = 9 ∧
(x10.toInt < (mi h (mr h x6 0) 1).toInt →
kd h x0 = 12 ∧
kd h (mr h (mr h x6 0) 0) = 20 ∧
InB x10 (ln h (mr h (mr h x6 0) 0)) ∧
kd h (mr h x0 9) = 7 ∧
SpV k_Motion_open [.ref (mr h x0 9), .int (mi h (mr h (mr h x6 0) 0) (ix x10))] h (fun g8 =>
kd g8 x0 = 12 ∧
kd g8 (mr g8 x0 9) = 7 ∧
SpI k_Motion_column [.ref (mr g8 x0 9), .int (0 : Int32), .int x2, .int x3, .int x4] g8 (fun r13 g11 =>
kd g11 x0 = 12 ∧
kd g11 (mr g11 x0 9) = 7 ∧
SpI k_Motion_column [.ref (mr g11 x0 9), .int (1 : Int32), .int x2, .int x3, .int x4] g11 (fun r17 g15 =>
kd g15 x0 = 12 ∧
kd g15 (mr g15 x0 9) = 7 ∧
SpI k_Motion_column [.ref (mr g15 x0 9), .int (2 : Int32), .int x2, .int x3, .int x4] g15 (fun r21 g19 =>
SpI k_Ho_waveCode [.int r13, .int r17, .int r21] g19 (fun r23 g22 =>
kd g22 x0 = 12 ∧
kd g22 (mr g22 x0 9) = 7 ∧
SpI k_Motion_turn [.ref (mr g22 x0 9), .int x2, .int x3, .int x4] g22 (fun r27 g25 =>
(r23 = x7 →
(r27 = 0 →
WM k_Ho_wave p_Ho_wave_2 [.ref x0, Jv, .int x2, .int x3, .int x4, .int x5, .ref x6, .int x7, .int x8, .int x9, .int x10, .int r23, .int r27] [] g25 0 0 Rt) ∧
(¬ r27 = 0 →
WM k_Ho_wave p_Ho_wave_2 [.ref x0, Jv, .int x2, .int x3, .int x4, .int x5, .ref x6, .int x7, .int (1 : Int32), .int x9, .int x10, .int r23, .int r27] [] g25 0 0 Rt)) ∧
(¬ r23 = x7 →
WM k_Ho_wave p_Ho_wave_2 [.ref x0, Jv, .int x2, .int x3, .int x4, .int x5, .ref x6, .int x7, .int x8, .int x9, .int x10, .int r23, .int r27] [] g25 0 0 Rt)))))))) ∧
(¬ x10.toInt < (mi h (mr h x6 0) 1).toInt →
(x5 = 0 →
Rt (.int x8) h) ∧
(¬ x5 = 0 →
(x5 = (1 : Int32) →
kd h x0 = 12 ∧
kd h (mr h x0 10) = 9 ∧
Rt (.int (mi h (mr h x0 10) 1)) h) ∧
(¬ x5 = (1 : Int32) →
Rt (.int x9) h)))) : WM k_Ho_wave p_Ho_wave_1 [.ref x0, Jv, .int x2, .int x3, .int x4, .int x5, .ref x6, .int x7, .int x8, .int x9, .int x10, Jv, Jv] [] h 0 0 Rt := WM_at (hs := HH_Ho_wave) G_Ho_wave 118 32 rfl ⟨H.1, ⟨H.2.1, ⟨fun c28 => ⟨(H.2.2.1 c28).1, ⟨H.1, ⟨H.2.1, (H.2.2.1 c28).2⟩⟩⟩, H.2.2.2⟩⟩⟩
set_option maxRecDepth 100000 in
set_option maxHeartbeats 4000000 in
theorem v_Ho_wave_2 (x0 : Nat) (x2 : Int32) (x3 : Int32) (x4 : Int32) (x5 : Int32) (x6 : Nat) (x7 : Int32) (x8 : Int32) (x9 : Int32) (x10 : Int32) (x11 : Int32) (x12 : Int32) (h : MH) (Rt : Value → MH → Prop) (H :
(x11 = (-x7) →
(x9 = (-1 : Int32) →
WM k_Ho_wave p_Ho_wave_3 [.ref x0, Jv, .int x2, .int x3, .int x4, .int x5, .ref x6, .int x7, .int x8, .int x12, .int x10, .int x11, Jv] [] h 0 0 Rt) ∧
(¬ x9 = (-1 : Int32) →
WM k_Ho_wave p_Ho_wave_3 [.ref x0, Jv, .int x2, .int x3, .int x4, .int x5, .ref x6, .int x7, .int x8, .int x9, .int x10, .int x11, Jv] [] h 0 0 Rt)) ∧
(¬ x11 = (-x7) →
WM k_Ho_wave p_Ho_wave_3 [.ref x0, Jv, .int x2, .int x3, .int x4, .int x5, .ref x6, .int x7, .int x8, .int x9, .int x10, .int x11, Jv] [] h 0 0 Rt)) : WM k_Ho_wave p_Ho_wave_2 [.ref x0, Jv, .int x2, .int x3, .int x4, .int x5, .ref x6, .int x7, .int x8, .int x9, .int x10, .int x11, .int x12] [] h 0 0 Rt := WM_at (hs := HH_Ho_wave) G_Ho_wave 118 82 rfl H
set_option maxRecDepth 100000 in
set_option maxHeartbeats 4000000 in
theorem v_Ho_wave_3 (x0 : Nat) (x2 : Int32) (x3 : Int32) (x4 : Int32) (x5 : Int32) (x6 : Nat) (x7 : Int32) (x8 : Int32) (x9 : Int32) (x10 : Int32) (x11 : Int32) (h : MH) (Rt : Value → MH → Prop) (H :
kd h x0 = 12 ∧
kd h (mr h x0 10) = 9 ∧
SpI k_Row_put [.ref (mr h x0 10), .int x11] h (fun r4 g2 =>
kd g2 x0 = 12 ∧
kd g2 (mr g2 x0 10) = 9 ∧
SpI k_Row_put [.ref (mr g2 x0 10), .int (-x11)] g2 (fun r8 g6 =>
WM k_Ho_wave p_Ho_wave_1 [.ref x0, Jv, .int x2, .int x3, .int x4, .int x5, .ref x6, .int x7, .int x8, .int x9, .int (x10 + (1 : Int32)), Jv, Jv] [] g6 0 0 Rt))) : WM k_Ho_wave p_Ho_wave_3 [.ref x0, Jv, .int x2, .int x3, .int x4, .int x5, .ref x6, .int x7, .int x8, .int x9, .int x10, .int x11, Jv] [] h 0 0 Rt := WM_at (hs := HH_Ho_wave) G_Ho_wave 118 91 rfl H
set_option maxRecDepth 100000 in
set_option maxHeartbeats 4000000 in
theorem v_Ref_isWave (x0 : Int32) (x1 : Int32) (x2 : Int32) (h : MH) (Rt : Value → MH → Prop) (H :
(x0.toInt < (-60 : Int32).toInt →
Rt (.int (0 : Int32)) h) ∧
(¬ x0.toInt < (-60 : Int32).toInt →
((60 : Int32).toInt < x0.toInt →
Rt (.int (0 : Int32)) h) ∧
(¬ (60 : Int32).toInt < x0.toInt →
(x1.toInt < (-60 : Int32).toInt →
Rt (.int (0 : Int32)) h) ∧
(¬ x1.toInt < (-60 : Int32).toInt →
((60 : Int32).toInt < x1.toInt →
Rt (.int (0 : Int32)) h) ∧
(¬ (60 : Int32).toInt < x1.toInt →
(x2.toInt < (-60 : Int32).toInt →
Rt (.int (0 : Int32)) h) ∧
(¬ x2.toInt < (-60 : Int32).toInt →
((60 : Int32).toInt < x2.toInt →
Rt (.int (0 : Int32)) h) ∧
(¬ (60 : Int32).toInt < x2.toInt →
Rt (.int (1 : Int32)) h))))))) : Sp k_Ref_isWave [.int x0, .int x1, .int x2] h Rt := Sp_intro2 (by decide) (by decide +kernel) rfl (Nat.le_of_ble_eq_true rfl) (WM_at (hs := HH_Ref_isWave) G_Ref_isWave 23 0 rfl ⟨fun c1 => ⟨(Or.inl rfl), (H.1 c1)⟩, fun c1 => ⟨fun c2 => ⟨(Or.inl rfl), ((H.2 c1).1 c2)⟩, fun c2 => ⟨fun c3 => ⟨(Or.inl rfl), (((H.2 c1).2 c2).1 c3)⟩, fun c3 => ⟨fun c4 => ⟨(Or.inl rfl), ((((H.2 c1).2 c2).2 c3).1 c4)⟩, fun c4 => ⟨fun c5 => ⟨(Or.inl rfl), (((((H.2 c1).2 c2).2 c3).2 c4).1 c5)⟩, fun c5 => ⟨fun c6 => ⟨(Or.inl rfl), ((((((H.2 c1).2 c2).2 c3).2 c4).2 c5).1 c6)⟩, fun c6 => ⟨(Or.inr rfl), ((((((H.2 c1).2 c2).2 c3).2 c4).2 c5).2 c6)⟩⟩⟩⟩⟩⟩⟩)
set_option maxRecDepth 100000 in
set_option maxHeartbeats 4000000 in
theorem v_Ref_turned (x0 : Nat) (x1 : Int32) (x2 : Int32) (x3 : Int32) (x4 : Int32) (h : MH) (Rt : Value → MH → Prop) (H :
kd h x0 = 13 ∧
SpV k_Ref_open [.int x1, .ref (mr h x0 3), .ref (mr h x0 4)] h (fun g2 =>
kd g2 x0 = 13 ∧
kd g2 (mr g2 x0 3) = 20 ∧
InB (0 : Int32) (ln g2 (mr g2 x0 3)) ∧
InB (3 : Int32) (ln g2 (mr g2 x0 3)) ∧
InB (6 : Int32) (ln g2 (mr g2 x0 3)) ∧
∀ g8 : MH, g8 = wi g2 x0 62 (((x2 * (mi g2 (mr g2 x0 3) (ix (0 : Int32)))) + (x3 * (mi g2 (mr g2 x0 3) (ix (3 : Int32))))) + (x4 * (mi g2 (mr g2 x0 3) (ix (6 : Int32))))) →
InB (1 : Int32) (ln g2 (mr g2 x0 3)) ∧
InB (4 : Int32) (ln g2 (mr g2 x0 3)) ∧
InB (7 : Int32) (ln g2 (mr g2 x0 3)) ∧
∀ g12 : MH, g12 = wi g8 x0 63 (((x2 * (mi g8 (mr g2 x0 3) (ix (1 : Int32)))) + (x3 * (mi g8 (mr g2 x0 3) (ix (4 : Int32))))) + (x4 * (mi g8 (mr g2 x0 3) (ix (7 : Int32))))) →
InB (2 : Int32) (ln g2 (mr g2 x0 3)) ∧
InB (5 : Int32) (ln g2 (mr g2 x0 3)) ∧
InB (8 : Int32) (ln g2 (mr g2 x0 3)) ∧
∀ g16 : MH, g16 = wi g12 x0 64 (((x2 * (mi g12 (mr g2 x0 3) (ix (2 : Int32)))) + (x3 * (mi g12 (mr g2 x0 3) (ix (5 : Int32))))) + (x4 * (mi g12 (mr g2 x0 3) (ix (8 : Int32))))) →
WM k_Ref_turned p_Ref_turned_1 [.ref x0, Jv, .int x2, .int x3, .int x4] [] g16 0 0 Rt)) : Sp k_Ref_turned [.ref x0, .int x1, .int x2, .int x3, .int x4] h Rt := Sp_intro2 (by decide) (by decide +kernel) rfl (Nat.le_of_ble_eq_true rfl) (WM_at (hs := HH_Ref_turned) G_Ref_turned 102 0 rfl ⟨H.1, ⟨H.1, SpV.mono H.2 (fun g2 qg2 => ⟨qg2.1, ⟨qg2.2.1, ⟨qg2.2.2.1, ⟨qg2.1, ⟨qg2.2.1, ⟨qg2.2.2.2.1, ⟨qg2.1, ⟨qg2.2.1, ⟨qg2.2.2.2.2.1, ⟨qg2.1, ⟨qg2.1, ⟨qg2.2.1, ⟨(qg2.2.2.2.2.2 _ rfl).1, ⟨qg2.1, ⟨qg2.2.1, ⟨((qg2.2.2.2.2.2 _ rfl).2).1, ⟨qg2.1, ⟨qg2.2.1, ⟨(((qg2.2.2.2.2.2 _ rfl).2).2).1, ⟨qg2.1, ⟨qg2.1, ⟨qg2.2.1, ⟨((((qg2.2.2.2.2.2 _ rfl).2).2).2 _ rfl).1, ⟨qg2.1, ⟨qg2.2.1, ⟨(((((qg2.2.2.2.2.2 _ rfl).2).2).2 _ rfl).2).1, ⟨qg2.1, ⟨qg2.2.1, ⟨((((((qg2.2.2.2.2.2 _ rfl).2).2).2 _ rfl).2).2).1, ⟨qg2.1, (((((((qg2.2.2.2.2.2 _ rfl).2).2).2 _ rfl).2).2).2 _ rfl)⟩⟩⟩⟩⟩⟩⟩⟩⟩⟩⟩⟩⟩⟩⟩⟩⟩⟩⟩⟩⟩⟩⟩⟩⟩⟩⟩⟩⟩⟩)⟩⟩)
set_option maxRecDepth 100000 in
set_option maxHeartbeats 4000000 in
theorem v_Ref_turned_1 (x0 : Nat) (x2 : Int32) (x3 : Int32) (x4 : Int32) (h : MH) (Rt : Value → MH → Prop) (H :
kd h x0 = 13 ∧
kd h (mr h x0 4) = 20 ∧
InB (0 : Int32) (ln h (mr h x0 4)) ∧
InB (1 : Int32) (ln h (mr h x0 4)) ∧
InB (2 : Int32) (ln h (mr h x0 4)) ∧
∀ g6 : MH, g6 = wi h x0 65 (irm ((irm (((x2 * (mi h (mr h x0 4) (ix (0 : Int32)))) + (x3 * (mi h (mr h x0 4) (ix (1 : Int32))))) + (x4 * (mi h (mr h x0 4) (ix (2 : Int32))))) (24 : Int32)) + (24 : Int32)) (24 : Int32)) →
Rt .null g6) : WM k_Ref_turned p_Ref_turned_1 [.ref x0, Jv, .int x2, .int x3, .int x4] [] h 0 0 Rt := WM_at (hs := HH_Ref_turned) G_Ref_turned 102 72 rfl ⟨H.1, ⟨H.2.1, ⟨H.2.2.1, ⟨H.1, ⟨H.2.1, ⟨H.2.2.2.1, ⟨H.1, ⟨H.2.1, ⟨H.2.2.2.2.1, ⟨(by decide), ⟨(by decide), ⟨H.1, (H.2.2.2.2.2 _ rfl)⟩⟩⟩⟩⟩⟩⟩⟩⟩⟩⟩⟩
set_option maxRecDepth 100000 in
set_option maxHeartbeats 4000000 in
theorem v_Ref_wave (x0 : Nat) (x1 : Int32) (x2 : Int32) (x3 : Int32) (x4 : Int32) (x5 : Int32) (h : MH) (Rt : Value → MH → Prop) (H :
kd h x0 = 13 ∧
SpI k_Ref_isGroup [.ref x0, .int x1] h (fun r3 g1 =>
(r3 = 0 →
Rt (.int (-1 : Int32)) g1) ∧
(¬ r3 = 0 →
SpI k_Ref_isWave [.int x2, .int x3, .int x4] g1 (fun r5 g4 =>
(r5 = 0 →
Rt (.int (-1 : Int32)) g4) ∧
(¬ r5 = 0 →
(x5.toInt < 0 →
Rt (.int (-1 : Int32)) g4) ∧
(¬ x5.toInt < 0 →
((2 : Int32).toInt < x5.toInt →
Rt (.int (-1 : Int32)) g4) ∧
(¬ (2 : Int32).toInt < x5.toInt →
WM k_Ref_wave p_Ref_wave_1 [.ref x0, .int x1, .int x2, .int x3, .int x4, .int x5, .int (0 : Int32), .int (-1 : Int32), .int (0 : Int32), .int (0 : Int32), Jv, Jv, Jv, Jv] [] g4 0 0 Rt))))))) : Sp k_Ref_wave [.ref x0, .int x1, .int x2, .int x3, .int x4, .int x5] h Rt := Sp_intro2 (by decide) (by decide +kernel) rfl (Nat.le_of_ble_eq_true rfl) (WM_at (hs := HH_Ref_wave) G_Ref_wave 157 0 rfl H)
set_option maxRecDepth 100000 in
set_option maxHeartbeats 4000000 in
theorem v_Ref_wave_1 (x0 : Nat) (x1 : Int32) (x2 : Int32) (x3 : Int32) (x4 : Int32) (x5 : Int32) (x6 : Int32) (x7 : Int32) (x8 : Int32) (x9 : Int32) (h : MH) (Rt : Value → MH → Prop) (H :
kd h x0 = 13 ∧
kd h (mr h x0 16) = 20 ∧
InB x1 (ln h (mr h x0 16)) ∧
(x9.toInt < (mi h (mr h x0 16) (ix x1)).toInt →
kd h (mr h x0 15) = 20 ∧
InB (((192 : Int32) * x1) + x9) (ln h (mr h x0 15)) ∧
SpV k_Ref_turned [.ref x0, .int (mi h (mr h x0 15) (ix (((192 : Int32) * x1) + x9))), .int x2, .int x3, .int x4] h (fun g6 =>
kd g6 x0 = 13 ∧
((mi g6 x0 62) = x2 →
((mi g6 x0 63) = x3 →
((mi g6 x0 64) = x4 →
((mi g6 x0 65) = 0 →
WM k_Ref_wave p_Ref_wave_2 [.ref x0, .int x1, .int x2, .int x3, .int x4, .int x5, .int x6, .int x7, .int x8, .int x9, Jv, Jv, Jv, Jv] [] g6 0 0 Rt) ∧
(¬ (mi g6 x0 65) = 0 →
WM k_Ref_wave p_Ref_wave_2 [.ref x0, .int x1, .int x2, .int x3, .int x4, .int x5, .int x6, .int x7, .int (1 : Int32), .int x9, Jv, Jv, Jv, Jv] [] g6 0 0 Rt)) ∧
(¬ (mi g6 x0 64) = x4 →
WM k_Ref_wave p_Ref_wave_2 [.ref x0, .int x1, .int x2, .int x3, .int x4, .int x5, .int x6, .int x7, .int x8, .int x9, Jv, Jv, Jv, Jv] [] g6 0 0 Rt)) ∧
(¬ (mi g6 x0 63) = x3 →
WM k_Ref_wave p_Ref_wave_2 [.ref x0, .int x1, .int x2, .int x3, .int x4, .int x5, .int x6, .int x7, .int x8, .int x9, Jv, Jv, Jv, Jv] [] g6 0 0 Rt)) ∧
(¬ (mi g6 x0 62) = x2 →
WM k_Ref_wave p_Ref_wave_2 [.ref x0, .int x1, .int x2, .int x3, .int x4, .int x5, .int x6, .int x7, .int x8, .int x9, Jv, Jv, Jv, Jv] [] g6 0 0 Rt))) ∧
(¬ x9.toInt < (mi h (mr h x0 16) (ix x1)).toInt →
(x5 = 0 →
Rt (.int x8) h) ∧
(¬ x5 = 0 →
(x5 = (1 : Int32) →
Rt (.int x6) h) ∧
(¬ x5 = (1 : Int32) →
Rt (.int x7) h)))) : WM k_Ref_wave p_Ref_wave_1 [.ref x0, .int x1, .int x2, .int x3, .int x4, .int x5, .int x6, .int x7, .int x8, .int x9, Jv, Jv, Jv, Jv] [] h 0 0 Rt := WM_at (hs := HH_Ref_wave) G_Ref_wave 157 24 rfl ⟨H.1, ⟨H.2.1, ⟨H.2.2.1, ⟨fun c8 => ⟨H.1, ⟨(H.2.2.2.1 c8).1, ⟨((H.2.2.2.1 c8).2).1, ⟨H.1, SpV.mono (((H.2.2.2.1 c8).2).2) (fun g6 qg6 => ⟨qg6.1, ⟨fun c9 => ⟨qg6.1, ⟨fun c10 => ⟨qg6.1, ⟨fun c11 => ⟨qg6.1, (((qg6.2.1 c9).1 c10).1 c11)⟩, ((qg6.2.1 c9).1 c10).2⟩⟩, (qg6.2.1 c9).2⟩⟩, qg6.2.2⟩⟩)⟩⟩⟩⟩, H.2.2.2.2⟩⟩⟩⟩
set_option maxRecDepth 100000 in
set_option maxHeartbeats 4000000 in
theorem v_Ref_wave_2 (x0 : Nat) (x1 : Int32) (x2 : Int32) (x3 : Int32) (x4 : Int32) (x5 : Int32) (x6 : Int32) (x7 : Int32) (x8 : Int32) (x9 : Int32) (h : MH) (Rt : Value → MH → Prop) (H :
kd h x0 = 13 ∧
((mi h x0 62) = (-x2) →
((mi h x0 63) = (-x3) →
((mi h x0 64) = (-x4) →
(x7 = (-1 : Int32) →
WM k_Ref_wave p_Ref_wave_3 [.ref x0, .int x1, .int x2, .int x3, .int x4, .int x5, .int x6, .int (mi h x0 65), .int x8, .int x9, .int (1 : Int32), Jv, Jv, Jv] [] h 0 0 Rt) ∧
(¬ x7 = (-1 : Int32) →
WM k_Ref_wave p_Ref_wave_3 [.ref x0, .int x1, .int x2, .int x3, .int x4, .int x5, .int x6, .int x7, .int x8, .int x9, .int (1 : Int32), Jv, Jv, Jv] [] h 0 0 Rt)) ∧
(¬ (mi h x0 64) = (-x4) →
WM k_Ref_wave p_Ref_wave_3 [.ref x0, .int x1, .int x2, .int x3, .int x4, .int x5, .int x6, .int x7, .int x8, .int x9, .int (1 : Int32), Jv, Jv, Jv] [] h 0 0 Rt)) ∧
(¬ (mi h x0 63) = (-x3) →
WM k_Ref_wave p_Ref_wave_3 [.ref x0, .int x1, .int x2, .int x3, .int x4, .int x5, .int x6, .int x7, .int x8, .int x9, .int (1 : Int32), Jv, Jv, Jv] [] h 0 0 Rt)) ∧
(¬ (mi h x0 62) = (-x2) →
WM k_Ref_wave p_Ref_wave_3 [.ref x0, .int x1, .int x2, .int x3, .int x4, .int x5, .int x6, .int x7, .int x8, .int x9, .int (1 : Int32), Jv, Jv, Jv] [] h 0 0 Rt)) : WM k_Ref_wave p_Ref_wave_2 [.ref x0, .int x1, .int x2, .int x3, .int x4, .int x5, .int x6, .int x7, .int x8, .int x9, Jv, Jv, Jv, Jv] [] h 0 0 Rt := WM_at (hs := HH_Ref_wave) G_Ref_wave 157 60 rfl ⟨H.1, ⟨fun c2 => ⟨H.1, ⟨fun c3 => ⟨H.1, ⟨fun c4 => ⟨fun c5 => ⟨H.1, ((((H.2.1 c2).1 c3).1 c4).1 c5)⟩, (((H.2.1 c2).1 c3).1 c4).2⟩, ((H.2.1 c2).1 c3).2⟩⟩, (H.2.1 c2).2⟩⟩, H.2.2⟩⟩
set_option maxRecDepth 100000 in
set_option maxHeartbeats 4000000 in
theorem v_Ref_wave_3 (x0 : Nat) (x1 : Int32) (x2 : Int32) (x3 : Int32) (x4 : Int32) (x5 : Int32) (x6 : Int32) (x7 : Int32) (x8 : Int32) (x9 : Int32) (x10 : Int32) (h : MH) (Rt : Value → MH → Prop) (H :
(x10.toInt < (-1 : Int32).toInt →
WM k_Ref_wave p_Ref_wave_1 [.ref x0, .int x1, .int x2, .int x3, .int x4, .int x5, .int x6, .int x7, .int x8, .int (x9 + (1 : Int32)), Jv, Jv, Jv, Jv] [] h 0 0 Rt) ∧
(¬ x10.toInt < (-1 : Int32).toInt →
kd h x0 = 13 ∧
WM k_Ref_wave p_Ref_wave_4 [.ref x0, .int x1, .int x2, .int x3, .int x4, .int x5, .int x6, .int x7, .int x8, .int x9, .int x10, .int ((((((x10 * (mi h x0 62)) + (200 : Int32)) * (160801 : Int32)) + (((x10 * (mi h x0 63)) + (200 : Int32)) * (401 : Int32))) + (x10 * (mi h x0 64))) + (200 : Int32)), .int (0 : Int32), .int (0 : Int32)] [] h 0 0 Rt)) : WM k_Ref_wave p_Ref_wave_3 [.ref x0, .int x1, .int x2, .int x3, .int x4, .int x5, .int x6, .int x7, .int x8, .int x9, .int x10, Jv, Jv, Jv] [] h 0 0 Rt := WM_at (hs := HH_Ref_wave) G_Ref_wave 157 83 rfl ⟨H.1, fun c2 => ⟨(H.2 c2).1, ⟨(H.2 c2).1, ⟨(H.2 c2).1, (H.2 c2).2⟩⟩⟩⟩
set_option maxRecDepth 100000 in
set_option maxHeartbeats 4000000 in
theorem v_Ref_wave_4 (x0 : Nat) (x1 : Int32) (x2 : Int32) (x3 : Int32) (x4 : Int32) (x5 : Int32) (x6 : Int32) (x7 : Int32) (x8 : Int32) (x9 : Int32) (x10 : Int32) (x11 : Int32) (x12 : Int32) (x13 : Int32) (h : MH) (Rt : Value → MH → Prop) (H :
(x13.toInt < x6.toInt →
(x12 = 0 →
kd h x0 = 13 ∧
kd h (mr h x0 66) = 20 ∧
InB x13 (ln h (mr h x0 66)) ∧
((mi h (mr h x0 66) (ix x13)) = x11 →
WM k_Ref_wave p_Ref_wave_4 [.ref x0, .int x1, .int x2, .int x3, .int x4, .int x5, .int x6, .int x7, .int x8, .int x9, .int x10, .int x11, .int (1 : Int32), .int (x13 + (1 : Int32))] [] h 0 0 Rt) ∧
(¬ (mi h (mr h x0 66) (ix x13)) = x11 →
WM k_Ref_wave p_Ref_wave_4 [.ref x0, .int x1, .int x2, .int x3, .int x4, .int x5, .int x6, .int x7, .int x8, .int x9, .int x10, .int x11, .int (0 : Int32), .int (x13 + (1 : Int32))] [] h 0 0 Rt)) ∧
(¬ x12 = 0 →
WM k_Ref_wave p_Ref_wave_5 [.ref x0, .int x1, .int x2, .int x3, .int x4, .int x5, .int x6, .int x7, .int x8, .int x9, .int x10, .int x11, .int x12, Jv] [] h 0 0 Rt)) ∧
(¬ x13.toInt < x6.toInt →
WM k_Ref_wave p_Ref_wave_5 [.ref x0, .int x1, .int x2, .int x3, .int x4, .int x5, .int x6, .int x7, .int x8, .int x9, .int x10, .int x11, .int x12, Jv] [] h 0 0 Rt)) : WM k_Ref_wave p_Ref_wave_4 [.ref x0, .int x1, .int x2, .int x3, .int x4, .int x5, .int x6, .int x7, .int x8, .int x9, .int x10, .int x11, .int x12, .int x13] [] h 0 0 Rt := WM_at (hs := HH_Ref_wave) G_Ref_wave 157 115 rfl H
set_option maxRecDepth 100000 in
set_option maxHeartbeats 4000000 in
theorem v_Ref_wave_5 (x0 : Nat) (x1 : Int32) (x2 : Int32) (x3 : Int32) (x4 : Int32) (x5 : Int32) (x6 : Int32) (x7 : Int32) (x8 : Int32) (x9 : Int32) (x10 : Int32) (x11 : Int32) (x12 : Int32) (h : MH) (Rt : Value → MH → Prop) (H :
(x12 = 0 →
kd h x0 = 13 ∧
kd h (mr h x0 66) = 20 ∧
InB x6 (ln h (mr h x0 66)) ∧
∀ g4 : MH, g4 = wi h (mr h x0 66) (ix x6) x11 →
WM k_Ref_wave p_Ref_wave_3 [.ref x0, .int x1, .int x2, .int x3, .int x4, .int x5, .int (x6 + (1 : Int32)), .int x7, .int x8, .int x9, .int (x10 + (-2 : Int32)), Jv, Jv, Jv] [] g4 0 0 Rt) ∧
(¬ x12 = 0 →
WM k_Ref_wave p_Ref_wave_3 [.ref x0, .int x1, .int x2, .int x3, .int x4, .int x5, .int x6, .int x7, .int x8, .int x9, .int (x10 + (-2 : Int32)), Jv, Jv, Jv] [] h 0 0 Rt)) : WM k_Ref_wave p_Ref_wave_5 [.ref x0, .int x1, .int x2, .int x3, .int x4, .int x5, .int x6, .int x7, .int x8, .int x9, .int x10, .int x11, .int x12, Jv] [] h 0 0 Rt := WM_at (hs := HH_Ref_wave) G_Ref_wave 157 132 rfl ⟨fun c5 => ⟨(H.1 c5).1, ⟨((H.1 c5).2).1, ⟨(((H.1 c5).2).2).1, ((((H.1 c5).2).2).2 _ rfl)⟩⟩⟩, H.2⟩
set_option maxRecDepth 100000 in
set_option maxHeartbeats 4000000 in
theorem v_Ho_isSquare (x0 : Int32) (h : MH) (Rt : Value → MH → Prop) (H :
(x0.toInt < (1 : Int32).toInt →
Rt (.int (0 : Int32)) h) ∧
(¬ x0.toInt < (1 : Int32).toInt →
((10000 : Int32).toInt < x0.toInt →
Rt (.int (0 : Int32)) h) ∧
(¬ (10000 : Int32).toInt < x0.toInt →
Rt (.int (1 : Int32)) h))) : Sp k_Ho_isSquare [.int x0] h Rt := Sp_intro2 (by decide) (by decide +kernel) rfl (Nat.le_of_ble_eq_true rfl) (WM_at (hs := HH_Ho_isSquare) G_Ho_isSquare 11 0 rfl ⟨fun c1 => ⟨(Or.inl rfl), (H.1 c1)⟩, fun c1 => ⟨fun c2 => ⟨(Or.inl rfl), ((H.2 c1).1 c2)⟩, fun c2 => ⟨(Or.inr rfl), ((H.2 c1).2 c2)⟩⟩⟩)
set_option maxRecDepth 100000 in
set_option maxHeartbeats 4000000 in
theorem v_Ho_isMixed (x0 : Int32) (h : MH) (Rt : Value → MH → Prop) (H :
(x0.toInt < (-10000 : Int32).toInt →
Rt (.int (0 : Int32)) h) ∧
(¬ x0.toInt < (-10000 : Int32).toInt →
((10000 : Int32).toInt < x0.toInt →
Rt (.int (0 : Int32)) h) ∧
(¬ (10000 : Int32).toInt < x0.toInt →
Rt (.int (1 : Int32)) h))) : Sp k_Ho_isMixed [.int x0] h Rt := Sp_intro2 (by decide) (by decide +kernel) rfl (Nat.le_of_ble_eq_true rfl) (WM_at (hs := HH_Ho_isMixed) G_Ho_isMixed 11 0 rfl ⟨fun c1 => ⟨(Or.inl rfl), (H.1 c1)⟩, fun c1 => ⟨fun c2 => ⟨(Or.inl rfl), ((H.2 c1).1 c2)⟩, fun c2 => ⟨(Or.inr rfl), ((H.2 c1).2 c2)⟩⟩⟩)
set_option maxRecDepth 100000 in
set_option maxHeartbeats 4000000 in
theorem v_Form_determinantOf (x0 : Int64) (x2 : Int64) (x4 : Int64) (x6 : Int64) (x8 : Int64) (x10 : Int64) (h : MH) (Rt : Value → MH → Prop) (H :
Rt (.long (((x0 * ((x2 * x4) - (x6 * x6))) - (x10 * ((x10 * x4) - (x6 * x8)))) + (x8 * ((x10 * x6) - (x2 * x8))))) h) : Sp k_Form_determinantOf [.long x0, .long x2, .long x4, .long x6, .long x8, .long x10] h Rt := Sp_intro2 (by decide) (by decide +kernel) rfl (Nat.le_of_ble_eq_true rfl) (WM_at (hs := HH_Form_determinantOf) G_Form_determinantOf 31 0 rfl H)
set_option maxRecDepth 100000 in
set_option maxHeartbeats 4000000 in
theorem v_Form_init (x0 : Nat) (h : MH) (Rt : Value → MH → Prop) (H :
x0 ≠ 0 ∧
kd h x0 = 3 ∧
∀ g3 : MH, g3 = wl h x0 0 (0 : Int64) →
WM k_Form_init p_Form_init_1 [.ref x0] [] g3 0 0 Rt) : Sp k_Form_init [.ref x0] h Rt := Sp_intro2 (by decide) (by decide +kernel) rfl (Nat.le_of_ble_eq_true rfl) (WM_at (hs := HH_Form_init) G_Form_init 22 0 rfl ⟨H.1, ⟨H.2.1, (H.2.2 _ rfl)⟩⟩)
set_option maxRecDepth 100000 in
set_option maxHeartbeats 4000000 in
theorem v_Form_init_1 (x0 : Nat) (h : MH) (Rt : Value → MH → Prop) (H :
kd h x0 = 3 ∧
∀ g2 : MH, g2 = wl h x0 1 (0 : Int64) →
∀ g3 : MH, g3 = wl g2 x0 2 (0 : Int64) →
WM k_Form_init p_Form_init_2 [.ref x0] [] g3 0 0 Rt) : WM k_Form_init p_Form_init_1 [.ref x0] [] h 0 0 Rt := WM_at (hs := HH_Form_init) G_Form_init 22 5 rfl ⟨H.1, ⟨H.1, ((H.2 _ rfl) _ rfl)⟩⟩
set_option maxRecDepth 100000 in
set_option maxHeartbeats 4000000 in
theorem v_Form_init_2 (x0 : Nat) (h : MH) (Rt : Value → MH → Prop) (H :
kd h x0 = 3 ∧
∀ g2 : MH, g2 = wl h x0 3 (0 : Int64) →
∀ g3 : MH, g3 = wl g2 x0 4 (0 : Int64) →
WM k_Form_init p_Form_init_3 [.ref x0] [] g3 0 0 Rt) : WM k_Form_init p_Form_init_2 [.ref x0] [] h 0 0 Rt := WM_at (hs := HH_Form_init) G_Form_init 22 11 rfl ⟨H.1, ⟨H.1, ((H.2 _ rfl) _ rfl)⟩⟩
set_option maxRecDepth 100000 in
set_option maxHeartbeats 4000000 in
theorem v_Form_init_3 (x0 : Nat) (h : MH) (Rt : Value → MH → Prop) (H :
kd h x0 = 3 ∧
∀ g2 : MH, g2 = wl h x0 5 (0 : Int64) →
Rt .null g2) : WM k_Form_init p_Form_init_3 [.ref x0] [] h 0 0 Rt := WM_at (hs := HH_Form_init) G_Form_init 22 17 rfl ⟨H.1, (H.2 _ rfl)⟩
set_option maxRecDepth 100000 in
set_option maxHeartbeats 4000000 in
theorem v_Cell_init (x0 : Nat) (h : MH) (Rt : Value → MH → Prop) (H :
x0 ≠ 0 ∧
∀ g2 : MH, g2 = nw h 3 0 →
kd g2 (hn h) = 3 ∧
SpV k_Form_init [.ref (hn h)] g2 (fun g3 =>
kd g3 x0 = 1 ∧
∀ g6 : MH, g6 = wr g3 x0 0 (hn h) →
WM k_Cell_init p_Cell_init_1 [.ref x0] [] g6 1 6 Rt)) : Sp k_Cell_init [.ref x0] h Rt := Sp_intro2 (by decide) (by decide +kernel) rfl (Nat.le_of_ble_eq_true rfl) (WM_at (hs := HH_Cell_init) G_Cell_init 30 0 rfl ⟨H.1, ⟨(H.2 _ rfl).1, SpV.mono ((H.2 _ rfl).2) (fun g3 qg3 => ⟨qg3.1, (qg3.2 _ rfl)⟩)⟩⟩)
set_option maxRecDepth 100000 in
set_option maxHeartbeats 4000000 in
theorem v_Cell_init_1 (x0 : Nat) (cc ss : Nat) (h : MH) (Rt : Value → MH → Prop) (H :
gd (cc + 1) 5 (
gd (ss + 6) 44 (
∀ g1 : MH, g1 = nw h 3 0 →
kd g1 (hn h) = 3 ∧
gd ((cc + 1) + 0) 5 (
gd ((ss + 6) + 0) 44 (
SpV k_Form_init [.ref (hn h)] g1 (fun g2 =>
kd g2 x0 = 1 ∧
∀ g5 : MH, g5 = wr g2 x0 1 (hn h) →
WM k_Cell_init p_Cell_init_2 [.ref x0] [] g5 ((cc + 1) + 0) ((ss + 6) + 0) Rt)))))) : WM k_Cell_init p_Cell_init_1 [.ref x0] [] h cc ss Rt := WM_at (hs := HH_Cell_init) G_Cell_init 30 7 rfl (gd_mono (a := (cc + 1)) (b := 5) (fun q => gd_mono (a := (ss + 6)) (b := 44) (fun q => ⟨(q _ rfl).1, gd_mono (a := ((cc + 1) + 0)) (b := 5) (fun q => gd_mono (a := ((ss + 6) + 0)) (b := 44) (fun q => SpV.mono q (fun g2 qg2 => ⟨qg2.1, (qg2.2 _ rfl)⟩)) q) ((q _ rfl).2)⟩) q) H)
set_option maxRecDepth 100000 in
set_option maxHeartbeats 4000000 in
theorem v_Cell_init_2 (x0 : Nat) (cc ss : Nat) (h : MH) (Rt : Value → MH → Prop) (H :
gd (cc + 1) 5 (
gd (ss + 6) 44 (
∀ g1 : MH, g1 = nw h 3 0 →
kd g1 (hn h) = 3 ∧
gd ((cc + 1) + 0) 5 (
gd ((ss + 6) + 0) 44 (
SpV k_Form_init [.ref (hn h)] g1 (fun g2 =>
kd g2 x0 = 1 ∧
∀ g5 : MH, g5 = wr g2 x0 2 (hn h) →
WM k_Cell_init p_Cell_init_3 [.ref x0] [] g5 ((cc + 1) + 0) ((ss + 6) + 0) Rt)))))) : WM k_Cell_init p_Cell_init_2 [.ref x0] [] h cc ss Rt := WM_at (hs := HH_Cell_init) G_Cell_init 30 12 rfl (gd_mono (a := (cc + 1)) (b := 5) (fun q => gd_mono (a := (ss + 6)) (b := 44) (fun q => ⟨(q _ rfl).1, gd_mono (a := ((cc + 1) + 0)) (b := 5) (fun q => gd_mono (a := ((ss + 6) + 0)) (b := 44) (fun q => SpV.mono q (fun g2 qg2 => ⟨qg2.1, (qg2.2 _ rfl)⟩)) q) ((q _ rfl).2)⟩) q) H)
set_option maxRecDepth 100000 in
set_option maxHeartbeats 4000000 in
theorem v_Cell_init_3 (x0 : Nat) (cc ss : Nat) (h : MH) (Rt : Value → MH → Prop) (H :
gd (cc + 1) 5 (
gd (ss + ix (13 : Int32)) 44 (
∀ g1 : MH, g1 = nw h 28 (ix (13 : Int32)) →
kd g1 x0 = 1 ∧
∀ g3 : MH, g3 = wr g1 x0 3 (hn h) →
WM k_Cell_init p_Cell_init_4 [.ref x0] [] g3 (cc + 1) (ss + ix (13 : Int32)) Rt))) : WM k_Cell_init p_Cell_init_3 [.ref x0] [] h cc ss Rt := WM_at (hs := HH_Cell_init) G_Cell_init 30 17 rfl ⟨(by decide), gd_mono (a := (cc + 1)) (b := 5) (fun q => gd_mono (a := (ss + ix (13 : Int32))) (b := 44) (fun q => ⟨(q _ rfl).1, ((q _ rfl).2 _ rfl)⟩) q) H⟩
set_option maxRecDepth 100000 in
set_option maxHeartbeats 4000000 in
theorem v_Cell_init_4 (x0 : Nat) (cc ss : Nat) (h : MH) (Rt : Value → MH → Prop) (H :
gd (cc + 1) 5 (
gd (ss + ix (13 : Int32)) 44 (
∀ g1 : MH, g1 = nw h 20 (ix (13 : Int32)) →
kd g1 x0 = 1 ∧
∀ g3 : MH, g3 = wr g1 x0 4 (hn h) →
WM k_Cell_init p_Cell_init_5 [.ref x0] [] g3 (cc + 1) (ss + ix (13 : Int32)) Rt))) : WM k_Cell_init p_Cell_init_4 [.ref x0] [] h cc ss Rt := WM_at (hs := HH_Cell_init) G_Cell_init 30 21 rfl ⟨(by decide), gd_mono (a := (cc + 1)) (b := 5) (fun q => gd_mono (a := (ss + ix (13 : Int32))) (b := 44) (fun q => ⟨(q _ rfl).1, ((q _ rfl).2 _ rfl)⟩) q) H⟩
set_option maxRecDepth 100000 in
set_option maxHeartbeats 4000000 in
theorem v_Cell_init_5 (x0 : Nat) (cc ss : Nat) (h : MH) (Rt : Value → MH → Prop) (H :
kd h x0 = 1 ∧
∀ g2 : MH, g2 = wi h x0 5 (-1 : Int32) →
gd cc 5 (
gd ss 44 (
Rt .null g2))) : WM k_Cell_init p_Cell_init_5 [.ref x0] [] h cc ss Rt := WM_at (hs := HH_Cell_init) G_Cell_init 30 25 rfl ⟨H.1, (H.2 _ rfl)⟩
set_option maxRecDepth 100000 in
set_option maxHeartbeats 4000000 in
theorem v_Form_set (x0 : Nat) (x1 : Int64) (x3 : Int64) (x5 : Int64) (x7 : Int64) (x9 : Int64) (x11 : Int64) (h : MH) (Rt : Value → MH → Prop) (H :
kd h x0 = 3 ∧
∀ g2 : MH, g2 = wl h x0 0 x1 →
∀ g3 : MH, g3 = wl g2 x0 1 x3 →
∀ g4 : MH, g4 = wl g3 x0 2 x5 →
∀ g5 : MH, g5 = wl g4 x0 3 x7 →
WM k_Form_set p_Form_set_1 [.ref x0, Jv, Jv, Jv, Jv, Jv, Jv, Jv, Jv, .long x9, Jv, .long x11, Jv] [] g5 0 0 Rt) : Sp k_Form_set [.ref x0, .long x1, .long x3, .long x5, .long x7, .long x9, .long x11] h Rt := Sp_intro2 (by decide) (by decide +kernel) rfl (Nat.le_of_ble_eq_true rfl) (WM_at (hs := HH_Form_set) G_Form_set 20 0 rfl ⟨H.1, ⟨H.1, ⟨H.1, ⟨H.1, ((((H.2 _ rfl) _ rfl) _ rfl) _ rfl)⟩⟩⟩⟩)
set_option maxRecDepth 100000 in
set_option maxHeartbeats 4000000 in
theorem v_Form_set_1 (x0 : Nat) (x9 : Int64) (x11 : Int64) (h : MH) (Rt : Value → MH → Prop) (H :
kd h x0 = 3 ∧
∀ g2 : MH, g2 = wl h x0 4 x9 →
∀ g3 : MH, g3 = wl g2 x0 5 x11 →
Rt .null g3) : WM k_Form_set p_Form_set_1 [.ref x0, Jv, Jv, Jv, Jv, Jv, Jv, Jv, Jv, .long x9, Jv, .long x11, Jv] [] h 0 0 Rt := WM_at (hs := HH_Form_set) G_Form_set 20 12 rfl ⟨H.1, ⟨H.1, ((H.2 _ rfl) _ rfl)⟩⟩
set_option maxRecDepth 100000 in
set_option maxHeartbeats 4000000 in
theorem v_Form_copy (x0 : Nat) (x1 : Nat) (h : MH) (Rt : Value → MH → Prop) (H :
kd h x1 = 3 ∧
kd h x0 = 3 ∧
SpV k_Form_set [.ref x0, .long (ml h x1 0), .long (ml h x1 1), .long (ml h x1 2), .long (ml h x1 3), .long (ml h x1 4), .long (ml h x1 5)] h (fun g2 =>
Rt .null g2)) : Sp k_Form_copy [.ref x0, .ref x1] h Rt := Sp_intro2 (by decide) (by decide +kernel) rfl (Nat.le_of_ble_eq_true rfl) (WM_at (hs := HH_Form_copy) G_Form_copy 16 0 rfl ⟨H.1, ⟨H.1, ⟨H.1, ⟨H.1, ⟨H.1, ⟨H.1, H.2⟩⟩⟩⟩⟩⟩)
set_option maxRecDepth 100000 in
set_option maxHeartbeats 4000000 in
theorem v_Math_absJJ (x0 : Int64) (h : MH) (Rt : Value → MH → Prop) (H :
((lg_cmp x0 (0 : Int64)).toInt < 0 →
Rt (.long (-x0)) h) ∧
(¬ (lg_cmp x0 (0 : Int64)).toInt < 0 →
Rt (.long x0) h)) : Sp k_Math_absJJ [.long x0] h Rt := Sp_intro2 (by decide) (by decide +kernel) rfl (Nat.le_of_ble_eq_true rfl) (WM_at (hs := HH_Math_absJJ) G_Math_absJJ 10 0 rfl H)
set_option maxRecDepth 100000 in
set_option maxHeartbeats 4000000 in
theorem v_Form_swapFirst (x0 : Nat) (h : MH) (Rt : Value → MH → Prop) (H :
kd h x0 = 3 ∧
(0 < (lg_cmp (ml h x0 0) (ml h x0 1)).toInt →
WM k_Form_swapFirst p_Form_swapFirst_1 [.ref x0] [] h 0 0 Rt) ∧
(¬ 0 < (lg_cmp (ml h x0 0) (ml h x0 1)).toInt →
((lg_cmp (ml h x0 0) (ml h x0 1)) = 0 →
SpL k_Math_absJJ [.long (ml h x0 3)] h (fun r3 g2 =>
kd g2 x0 = 3 ∧
SpL k_Math_absJJ [.long (ml g2 x0 4)] g2 (fun r6 g5 =>
(0 < (lg_cmp r3 r6).toInt →
WM k_Form_swapFirst p_Form_swapFirst_1 [.ref x0] [] g5 0 0 Rt) ∧
(¬ 0 < (lg_cmp r3 r6).toInt →
Rt .null g5)))) ∧
(¬ (lg_cmp (ml h x0 0) (ml h x0 1)) = 0 →
Rt .null h))) : Sp k_Form_swapFirst [.ref x0] h Rt := Sp_intro2 (by decide) (by decide +kernel) rfl (Nat.le_of_ble_eq_true rfl) (WM_at (hs := HH_Form_swapFirst) G_Form_swapFirst 36 0 rfl ⟨H.1, ⟨H.1, ⟨H.2.1, fun c7 => ⟨H.1, ⟨H.1, ⟨fun c8 => ⟨H.1, ((H.2.2 c7).1 c8)⟩, (H.2.2 c7).2⟩⟩⟩⟩⟩⟩)
set_option maxRecDepth 100000 in
set_option maxHeartbeats 4000000 in
theorem v_Form_swapFirst_1 (x0 : Nat) (h : MH) (Rt : Value → MH → Prop) (H :
kd h x0 = 3 ∧
SpV k_Form_set [.ref x0, .long (ml h x0 1), .long (ml h x0 0), .long (ml h x0 2), .long (ml h x0 4), .long (ml h x0 3), .long (ml h x0 5)] h (fun g2 =>
Rt .null g2)) : WM k_Form_swapFirst p_Form_swapFirst_1 [.ref x0] [] h 0 0 Rt := WM_at (hs := HH_Form_swapFirst) G_Form_swapFirst 36 20 rfl ⟨H.1, ⟨H.1, ⟨H.1, ⟨H.1, ⟨H.1, ⟨H.1, ⟨H.1, H.2⟩⟩⟩⟩⟩⟩⟩
set_option maxRecDepth 100000 in
set_option maxHeartbeats 4000000 in
theorem v_Form_swapLast (x0 : Nat) (h : MH) (Rt : Value → MH → Prop) (H :
kd h x0 = 3 ∧
(0 < (lg_cmp (ml h x0 1) (ml h x0 2)).toInt →
WM k_Form_swapLast p_Form_swapLast_1 [.ref x0] [] h 0 0 Rt) ∧
(¬ 0 < (lg_cmp (ml h x0 1) (ml h x0 2)).toInt →
((lg_cmp (ml h x0 1) (ml h x0 2)) = 0 →
SpL k_Math_absJJ [.long (ml h x0 4)] h (fun r3 g2 =>
kd g2 x0 = 3 ∧
SpL k_Math_absJJ [.long (ml g2 x0 5)] g2 (fun r6 g5 =>
(0 < (lg_cmp r3 r6).toInt →
WM k_Form_swapLast p_Form_swapLast_1 [.ref x0] [] g5 0 0 Rt) ∧
(¬ 0 < (lg_cmp r3 r6).toInt →
Rt (.int (0 : Int32)) g5)))) ∧
(¬ (lg_cmp (ml h x0 1) (ml h x0 2)) = 0 →
Rt (.int (0 : Int32)) h))) : Sp k_Form_swapLast [.ref x0] h Rt := Sp_intro2 (by decide) (by decide +kernel) rfl (Nat.le_of_ble_eq_true rfl) (WM_at (hs := HH_Form_swapLast) G_Form_swapLast 39 0 rfl ⟨H.1, ⟨H.1, ⟨H.2.1, fun c7 => ⟨H.1, ⟨H.1, ⟨fun c8 => ⟨H.1, SpL.mono ((H.2.2 c7).1 c8) (fun r3 g2 qg2 => ⟨qg2.1, SpL.mono qg2.2 (fun r6 g5 qg5 => ⟨qg5.1, fun c9 => ⟨(Or.inl rfl), (qg5.2 c9)⟩⟩)⟩)⟩, fun c8 => ⟨(Or.inl rfl), ((H.2.2 c7).2 c8)⟩⟩⟩⟩⟩⟩⟩)
set_option maxRecDepth 100000 in
set_option maxHeartbeats 4000000 in
theorem v_Form_swapLast_1 (x0 : Nat) (h : MH) (Rt : Value → MH → Prop) (H :
kd h x0 = 3 ∧
SpV k_Form_set [.ref x0, .long (ml h x0 0), .long (ml h x0 2), .long (ml h x0 1), .long (ml h x0 3), .long (ml h x0 5), .long (ml h x0 4)] h (fun g2 =>
Rt (.int (1 : Int32)) g2)) : WM k_Form_swapLast p_Form_swapLast_1 [.ref x0] [] h 0 0 Rt := WM_at (hs := HH_Form_swapLast) G_Form_swapLast 39 20 rfl ⟨H.1, ⟨H.1, ⟨H.1, ⟨H.1, ⟨H.1, ⟨H.1, ⟨H.1, SpV.mono H.2 (fun g2 qg2 => ⟨(Or.inr rfl), qg2⟩)⟩⟩⟩⟩⟩⟩⟩
set_option maxRecDepth 100000 in
set_option maxHeartbeats 4000000 in
theorem v_Form_alignSigns (x0 : Nat) (h : MH) (Rt : Value → MH → Prop) (H :
kd h x0 = 3 ∧
((lg_cmp (ml h x0 3) (0 : Int64)).toInt < 0 →
((lg_cmp (ml h x0 4) (0 : Int64)).toInt < 0 →
WM k_Form_alignSigns p_Form_alignSigns_1 [.ref x0, Jv, Jv, Jv] [.int (1 : Int32), .int (1 : Int32)] h 0 0 Rt) ∧
(¬ (lg_cmp (ml h x0 4) (0 : Int64)).toInt < 0 →
WM k_Form_alignSigns p_Form_alignSigns_1 [.ref x0, Jv, Jv, Jv] [.int (0 : Int32), .int (1 : Int32)] h 0 0 Rt)) ∧
(¬ (lg_cmp (ml h x0 3) (0 : Int64)).toInt < 0 →
((lg_cmp (ml h x0 4) (0 : Int64)).toInt < 0 →
WM k_Form_alignSigns p_Form_alignSigns_1 [.ref x0, Jv, Jv, Jv] [.int (1 : Int32), .int (0 : Int32)] h 0 0 Rt) ∧
(¬ (lg_cmp (ml h x0 4) (0 : Int64)).toInt < 0 →
WM k_Form_alignSigns p_Form_alignSigns_1 [.ref x0, Jv, Jv, Jv] [.int (0 : Int32), .int (0 : Int32)] h 0 0 Rt))) : Sp k_Form_alignSigns [.ref x0] h Rt := Sp_intro2 (by decide) (by decide +kernel) rfl (Nat.le_of_ble_eq_true rfl) (WM_at (hs := HH_Form_alignSigns) G_Form_alignSigns 71 0 rfl ⟨H.1, ⟨fun c2 => ⟨H.1, (H.2.1 c2)⟩, fun c2 => ⟨H.1, (H.2.2 c2)⟩⟩⟩)
set_option maxRecDepth 100000 in
set_option maxHeartbeats 4000000 in
theorem v_Form_alignSigns_1 (x0 : Nat) (s0 : Int32) (s1 : Int32) (h : MH) (Rt : Value → MH → Prop) (H :
kd h x0 = 3 ∧
((lg_cmp (ml h x0 5) (0 : Int64)).toInt < 0 →
WM k_Form_alignSigns p_Form_alignSigns_2 [.ref x0, Jv, Jv, Jv] [.int (1 : Int32), .int (s0 ^^^ s1)] h 0 0 Rt) ∧
(¬ (lg_cmp (ml h x0 5) (0 : Int64)).toInt < 0 →
WM k_Form_alignSigns p_Form_alignSigns_2 [.ref x0, Jv, Jv, Jv] [.int (0 : Int32), .int (s0 ^^^ s1)] h 0 0 Rt)) : WM k_Form_alignSigns p_Form_alignSigns_1 [.ref x0, Jv, Jv, Jv] [.int s1, .int s0] h 0 0 Rt := WM_at (hs := HH_Form_alignSigns) G_Form_alignSigns 71 16 rfl H
set_option maxRecDepth 100000 in
set_option maxHeartbeats 4000000 in
theorem v_Form_alignSigns_2 (x0 : Nat) (s0 : Int32) (s1 : Int32) (h : MH) (Rt : Value → MH → Prop) (H :
kd h x0 = 3 ∧
((lg_cmp (ml h x0 3) (0 : Int64)) = 0 →
WM k_Form_alignSigns p_Form_alignSigns_3 [.ref x0, Jv, Jv, Jv] [.long (-1 : Int64)] h 0 0 Rt) ∧
(¬ (lg_cmp (ml h x0 3) (0 : Int64)) = 0 →
((lg_cmp (ml h x0 4) (0 : Int64)) = 0 →
WM k_Form_alignSigns p_Form_alignSigns_3 [.ref x0, Jv, Jv, Jv] [.long (-1 : Int64)] h 0 0 Rt) ∧
(¬ (lg_cmp (ml h x0 4) (0 : Int64)) = 0 →
((lg_cmp (ml h x0 5) (0 : Int64)) = 0 →
WM k_Form_alignSigns p_Form_alignSigns_3 [.ref x0, Jv, Jv, Jv] [.long (-1 : Int64)] h 0 0 Rt) ∧
(¬ (lg_cmp (ml h x0 5) (0 : Int64)) = 0 →
((s0 ^^^ s1) = 0 →
WM k_Form_alignSigns p_Form_alignSigns_3 [.ref x0, Jv, Jv, Jv] [.long (1 : Int64)] h 0 0 Rt) ∧
(¬ (s0 ^^^ s1) = 0 →
WM k_Form_alignSigns p_Form_alignSigns_3 [.ref x0, Jv, Jv, Jv] [.long (-1 : Int64)] h 0 0 Rt))))) : WM k_Form_alignSigns p_Form_alignSigns_2 [.ref x0, Jv, Jv, Jv] [.int s1, .int s0] h 0 0 Rt := WM_at (hs := HH_Form_alignSigns) G_Form_alignSigns 71 25 rfl ⟨H.1, ⟨H.2.1, fun c2 => ⟨H.1, ⟨(H.2.2 c2).1, fun c3 => ⟨H.1, ((H.2.2 c2).2 c3)⟩⟩⟩⟩⟩
set_option maxRecDepth 100000 in
set_option maxHeartbeats 4000000 in
theorem v_Form_alignSigns_3 (x0 : Nat) (s0 : Int64) (h : MH) (Rt : Value → MH → Prop) (H :
kd h x0 = 3 ∧
SpL k_Math_absJJ [.long (ml h x0 3)] h (fun r3 g2 =>
kd g2 x0 = 3 ∧
∀ g5 : MH, g5 = wl g2 x0 3 (s0 * r3) →
SpL k_Math_absJJ [.long (ml g5 x0 4)] g5 (fun r7 g6 =>
kd g6 x0 = 3 ∧
∀ g9 : MH, g9 = wl g6 x0 4 (s0 * r7) →
SpL k_Math_absJJ [.long (ml g9 x0 5)] g9 (fun r11 g10 =>
kd g10 x0 = 3 ∧
∀ g13 : MH, g13 = wl g10 x0 5 (s0 * r11) →
Rt .null g13)))) : WM k_Form_alignSigns p_Form_alignSigns_3 [.ref x0, Jv, Jv, Jv] [.long s0] h 0 0 Rt := WM_at (hs := HH_Form_alignSigns) G_Form_alignSigns 71 47 rfl ⟨H.1, SpL.mono H.2 (fun r3 g2 qg2 => ⟨qg2.1, ⟨qg2.1, SpL.mono (qg2.2 _ rfl) (fun r7 g6 qg6 => ⟨qg6.1, ⟨qg6.1, SpL.mono (qg6.2 _ rfl) (fun r11 g10 qg10 => ⟨qg10.1, (qg10.2 _ rfl)⟩)⟩⟩)⟩⟩)⟩
set_option maxRecDepth 100000 in
set_option maxHeartbeats 4000000 in
theorem v_Form_lessenX (x0 : Nat) (h : MH) (Rt : Value → MH → Prop) (H :
kd h x0 = 3 ∧
SpL k_Math_absJJ [.long (ml h x0 3)] h (fun r3 g2 =>
kd g2 x0 = 3 ∧
(0 < (lg_cmp r3 (ml g2 x0 1)).toInt →
(0 < (lg_cmp (ml g2 x0 3) (0 : Int64)).toInt →
WM k_Form_lessenX p_Form_lessenX_2 [.ref x0, Jv, Jv] [.long (1 : Int64)] g2 0 0 Rt) ∧
(¬ 0 < (lg_cmp (ml g2 x0 3) (0 : Int64)).toInt →
WM k_Form_lessenX p_Form_lessenX_2 [.ref x0, Jv, Jv] [.long (-1 : Int64)] g2 0 0 Rt)) ∧
(¬ 0 < (lg_cmp r3 (ml g2 x0 1)).toInt →
((lg_cmp (ml g2 x0 3) (ml g2 x0 1)) = 0 →
((lg_cmp ((2 : Int64) * (ml g2 x0 4)) (ml g2 x0 5)).toInt < 0 →
(0 < (lg_cmp (ml g2 x0 3) (0 : Int64)).toInt →
WM k_Form_lessenX p_Form_lessenX_2 [.ref x0, Jv, Jv] [.long (1 : Int64)] g2 0 0 Rt) ∧
(¬ 0 < (lg_cmp (ml g2 x0 3) (0 : Int64)).toInt →
WM k_Form_lessenX p_Form_lessenX_2 [.ref x0, Jv, Jv] [.long (-1 : Int64)] g2 0 0 Rt)) ∧
(¬ (lg_cmp ((2 : Int64) * (ml g2 x0 4)) (ml g2 x0 5)).toInt < 0 →
WM k_Form_lessenX p_Form_lessenX_1 [.ref x0, Jv, Jv] [] g2 0 0 Rt)) ∧
(¬ (lg_cmp (ml g2 x0 3) (ml g2 x0 1)) = 0 →
WM k_Form_lessenX p_Form_lessenX_1 [.ref x0, Jv, Jv] [] g2 0 0 Rt)))) : Sp k_Form_lessenX [.ref x0] h Rt := Sp_intro2 (by decide) (by decide +kernel) rfl (Nat.le_of_ble_eq_true rfl) (WM_at (hs := HH_Form_lessenX) G_Form_lessenX 81 0 rfl ⟨H.1, SpL.mono H.2 (fun r3 g2 qg2 => ⟨qg2.1, ⟨fun c5 => ⟨qg2.1, (qg2.2.1 c5)⟩, fun c5 => ⟨qg2.1, ⟨qg2.1, ⟨fun c6 => ⟨qg2.1, ⟨qg2.1, ⟨fun c7 => ⟨qg2.1, (((qg2.2.2 c5).1 c6).1 c7)⟩, ((qg2.2.2 c5).1 c6).2⟩⟩⟩, (qg2.2.2 c5).2⟩⟩⟩⟩⟩)⟩)
set_option maxRecDepth 100000 in
set_option maxHeartbeats 4000000 in
theorem v_Form_lessenX_1 (x0 : Nat) (h : MH) (Rt : Value → MH → Prop) (H :
kd h x0 = 3 ∧
((lg_cmp (ml h x0 3) (-(ml h x0 1))) = 0 →
((lg_cmp (ml h x0 5) (0 : Int64)).toInt < 0 →
(0 < (lg_cmp (ml h x0 3) (0 : Int64)).toInt →
WM k_Form_lessenX p_Form_lessenX_2 [.ref x0, Jv, Jv] [.long (1 : Int64)] h 0 0 Rt) ∧
(¬ 0 < (lg_cmp (ml h x0 3) (0 : Int64)).toInt →
WM k_Form_lessenX p_Form_lessenX_2 [.ref x0, Jv, Jv] [.long (-1 : Int64)] h 0 0 Rt)) ∧
(¬ (lg_cmp (ml h x0 5) (0 : Int64)).toInt < 0 →
Rt (.int (0 : Int32)) h)) ∧
(¬ (lg_cmp (ml h x0 3) (-(ml h x0 1))) = 0 →
Rt (.int (0 : Int32)) h)) : WM k_Form_lessenX p_Form_lessenX_1 [.ref x0, Jv, Jv] [] h 0 0 Rt := WM_at (hs := HH_Form_lessenX) G_Form_lessenX 81 21 rfl ⟨H.1, ⟨H.1, ⟨fun c2 => ⟨H.1, ⟨fun c3 => ⟨H.1, ((H.2.1 c2).1 c3)⟩, fun c3 => ⟨(Or.inl rfl), ((H.2.1 c2).2 c3)⟩⟩⟩, fun c2 => ⟨(Or.inl rfl), (H.2.2 c2)⟩⟩⟩⟩
set_option maxRecDepth 100000 in
set_option maxHeartbeats 4000000 in
theorem v_Form_lessenX_2 (x0 : Nat) (s0 : Int64) (h : MH) (Rt : Value → MH → Prop) (H :
kd h x0 = 3 ∧
SpV k_Form_set [.ref x0, .long (ml h x0 0), .long (ml h x0 1), .long (((ml h x0 1) + (ml h x0 2)) - (s0 * (ml h x0 3))), .long ((ml h x0 3) - (((2 : Int64) * s0) * (ml h x0 1))), .long ((ml h x0 4) - (s0 * (ml h x0 5))), .long (ml h x0 5)] h (fun g2 =>
Rt (.int (1 : Int32)) g2)) : WM k_Form_lessenX p_Form_lessenX_2 [.ref x0, Jv, Jv] [.long s0] h 0 0 Rt := WM_at (hs := HH_Form_lessenX) G_Form_lessenX 81 41 rfl ⟨H.1, ⟨H.1, ⟨H.1, ⟨H.1, ⟨H.1, ⟨H.1, ⟨H.1, ⟨H.1, ⟨H.1, ⟨H.1, ⟨H.1, SpV.mono H.2 (fun g2 qg2 => ⟨(Or.inr rfl), qg2⟩)⟩⟩⟩⟩⟩⟩⟩⟩⟩⟩⟩
set_option maxRecDepth 100000 in
set_option maxHeartbeats 4000000 in
theorem v_Form_lessenY (x0 : Nat) (h : MH) (Rt : Value → MH → Prop) (H :
kd h x0 = 3 ∧
SpL k_Math_absJJ [.long (ml h x0 4)] h (fun r3 g2 =>
kd g2 x0 = 3 ∧
(0 < (lg_cmp r3 (ml g2 x0 0)).toInt →
(0 < (lg_cmp (ml g2 x0 4) (0 : Int64)).toInt →
WM k_Form_lessenY p_Form_lessenY_2 [.ref x0, Jv, Jv] [.long (1 : Int64)] g2 0 0 Rt) ∧
(¬ 0 < (lg_cmp (ml g2 x0 4) (0 : Int64)).toInt →
WM k_Form_lessenY p_Form_lessenY_2 [.ref x0, Jv, Jv] [.long (-1 : Int64)] g2 0 0 Rt)) ∧
(¬ 0 < (lg_cmp r3 (ml g2 x0 0)).toInt →
((lg_cmp (ml g2 x0 4) (ml g2 x0 0)) = 0 →
((lg_cmp ((2 : Int64) * (ml g2 x0 3)) (ml g2 x0 5)).toInt < 0 →
(0 < (lg_cmp (ml g2 x0 4) (0 : Int64)).toInt →
WM k_Form_lessenY p_Form_lessenY_2 [.ref x0, Jv, Jv] [.long (1 : Int64)] g2 0 0 Rt) ∧
(¬ 0 < (lg_cmp (ml g2 x0 4) (0 : Int64)).toInt →
WM k_Form_lessenY p_Form_lessenY_2 [.ref x0, Jv, Jv] [.long (-1 : Int64)] g2 0 0 Rt)) ∧
(¬ (lg_cmp ((2 : Int64) * (ml g2 x0 3)) (ml g2 x0 5)).toInt < 0 →
WM k_Form_lessenY p_Form_lessenY_1 [.ref x0, Jv, Jv] [] g2 0 0 Rt)) ∧
(¬ (lg_cmp (ml g2 x0 4) (ml g2 x0 0)) = 0 →
WM k_Form_lessenY p_Form_lessenY_1 [.ref x0, Jv, Jv] [] g2 0 0 Rt)))) : Sp k_Form_lessenY [.ref x0] h Rt := Sp_intro2 (by decide) (by decide +kernel) rfl (Nat.le_of_ble_eq_true rfl) (WM_at (hs := HH_Form_lessenY) G_Form_lessenY 81 0 rfl ⟨H.1, SpL.mono H.2 (fun r3 g2 qg2 => ⟨qg2.1, ⟨fun c5 => ⟨qg2.1, (qg2.2.1 c5)⟩, fun c5 => ⟨qg2.1, ⟨qg2.1, ⟨fun c6 => ⟨qg2.1, ⟨qg2.1, ⟨fun c7 => ⟨qg2.1, (((qg2.2.2 c5).1 c6).1 c7)⟩, ((qg2.2.2 c5).1 c6).2⟩⟩⟩, (qg2.2.2 c5).2⟩⟩⟩⟩⟩)⟩)
set_option maxRecDepth 100000 in
set_option maxHeartbeats 4000000 in
theorem v_Form_lessenY_1 (x0 : Nat) (h : MH) (Rt : Value → MH → Prop) (H :
kd h x0 = 3 ∧
((lg_cmp (ml h x0 4) (-(ml h x0 0))) = 0 →
((lg_cmp (ml h x0 5) (0 : Int64)).toInt < 0 →
(0 < (lg_cmp (ml h x0 4) (0 : Int64)).toInt →
WM k_Form_lessenY p_Form_lessenY_2 [.ref x0, Jv, Jv] [.long (1 : Int64)] h 0 0 Rt) ∧
(¬ 0 < (lg_cmp (ml h x0 4) (0 : Int64)).toInt →
WM k_Form_lessenY p_Form_lessenY_2 [.ref x0, Jv, Jv] [.long (-1 : Int64)] h 0 0 Rt)) ∧
(¬ (lg_cmp (ml h x0 5) (0 : Int64)).toInt < 0 →
Rt (.int (0 : Int32)) h)) ∧
(¬ (lg_cmp (ml h x0 4) (-(ml h x0 0))) = 0 →
Rt (.int (0 : Int32)) h)) : WM k_Form_lessenY p_Form_lessenY_1 [.ref x0, Jv, Jv] [] h 0 0 Rt := WM_at (hs := HH_Form_lessenY) G_Form_lessenY 81 21 rfl ⟨H.1, ⟨H.1, ⟨fun c2 => ⟨H.1, ⟨fun c3 => ⟨H.1, ((H.2.1 c2).1 c3)⟩, fun c3 => ⟨(Or.inl rfl), ((H.2.1 c2).2 c3)⟩⟩⟩, fun c2 => ⟨(Or.inl rfl), (H.2.2 c2)⟩⟩⟩⟩
set_option maxRecDepth 100000 in
set_option maxHeartbeats 4000000 in
theorem v_Form_lessenY_2 (x0 : Nat) (s0 : Int64) (h : MH) (Rt : Value → MH → Prop) (H :
kd h x0 = 3 ∧
SpV k_Form_set [.ref x0, .long (ml h x0 0), .long (ml h x0 1), .long (((ml h x0 0) + (ml h x0 2)) - (s0 * (ml h x0 4))), .long ((ml h x0 3) - (s0 * (ml h x0 5))), .long ((ml h x0 4) - (((2 : Int64) * s0) * (ml h x0 0))), .long (ml h x0 5)] h (fun g2 =>
Rt (.int (1 : Int32)) g2)) : WM k_Form_lessenY p_Form_lessenY_2 [.ref x0, Jv, Jv] [.long s0] h 0 0 Rt := WM_at (hs := HH_Form_lessenY) G_Form_lessenY 81 41 rfl ⟨H.1, ⟨H.1, ⟨H.1, ⟨H.1, ⟨H.1, ⟨H.1, ⟨H.1, ⟨H.1, ⟨H.1, ⟨H.1, ⟨H.1, SpV.mono H.2 (fun g2 qg2 => ⟨(Or.inr rfl), qg2⟩)⟩⟩⟩⟩⟩⟩⟩⟩⟩⟩⟩
set_option maxRecDepth 100000 in
set_option maxHeartbeats 4000000 in
theorem v_Form_lessenZ (x0 : Nat) (h : MH) (Rt : Value → MH → Prop) (H :
kd h x0 = 3 ∧
SpL k_Math_absJJ [.long (ml h x0 5)] h (fun r3 g2 =>
kd g2 x0 = 3 ∧
(0 < (lg_cmp r3 (ml g2 x0 0)).toInt →
(0 < (lg_cmp (ml g2 x0 5) (0 : Int64)).toInt →
WM k_Form_lessenZ p_Form_lessenZ_2 [.ref x0, Jv, Jv] [.long (1 : Int64)] g2 0 0 Rt) ∧
(¬ 0 < (lg_cmp (ml g2 x0 5) (0 : Int64)).toInt →
WM k_Form_lessenZ p_Form_lessenZ_2 [.ref x0, Jv, Jv] [.long (-1 : Int64)] g2 0 0 Rt)) ∧
(¬ 0 < (lg_cmp r3 (ml g2 x0 0)).toInt →
((lg_cmp (ml g2 x0 5) (ml g2 x0 0)) = 0 →
((lg_cmp ((2 : Int64) * (ml g2 x0 3)) (ml g2 x0 4)).toInt < 0 →
(0 < (lg_cmp (ml g2 x0 5) (0 : Int64)).toInt →
WM k_Form_lessenZ p_Form_lessenZ_2 [.ref x0, Jv, Jv] [.long (1 : Int64)] g2 0 0 Rt) ∧
(¬ 0 < (lg_cmp (ml g2 x0 5) (0 : Int64)).toInt →
WM k_Form_lessenZ p_Form_lessenZ_2 [.ref x0, Jv, Jv] [.long (-1 : Int64)] g2 0 0 Rt)) ∧
(¬ (lg_cmp ((2 : Int64) * (ml g2 x0 3)) (ml g2 x0 4)).toInt < 0 →
WM k_Form_lessenZ p_Form_lessenZ_1 [.ref x0, Jv, Jv] [] g2 0 0 Rt)) ∧
(¬ (lg_cmp (ml g2 x0 5) (ml g2 x0 0)) = 0 →
WM k_Form_lessenZ p_Form_lessenZ_1 [.ref x0, Jv, Jv] [] g2 0 0 Rt)))) : Sp k_Form_lessenZ [.ref x0] h Rt := Sp_intro2 (by decide) (by decide +kernel) rfl (Nat.le_of_ble_eq_true rfl) (WM_at (hs := HH_Form_lessenZ) G_Form_lessenZ 81 0 rfl ⟨H.1, SpL.mono H.2 (fun r3 g2 qg2 => ⟨qg2.1, ⟨fun c5 => ⟨qg2.1, (qg2.2.1 c5)⟩, fun c5 => ⟨qg2.1, ⟨qg2.1, ⟨fun c6 => ⟨qg2.1, ⟨qg2.1, ⟨fun c7 => ⟨qg2.1, (((qg2.2.2 c5).1 c6).1 c7)⟩, ((qg2.2.2 c5).1 c6).2⟩⟩⟩, (qg2.2.2 c5).2⟩⟩⟩⟩⟩)⟩)
set_option maxRecDepth 100000 in
set_option maxHeartbeats 4000000 in
theorem v_Form_lessenZ_1 (x0 : Nat) (h : MH) (Rt : Value → MH → Prop) (H :
kd h x0 = 3 ∧
((lg_cmp (ml h x0 5) (-(ml h x0 0))) = 0 →
((lg_cmp (ml h x0 4) (0 : Int64)).toInt < 0 →
(0 < (lg_cmp (ml h x0 5) (0 : Int64)).toInt →
WM k_Form_lessenZ p_Form_lessenZ_2 [.ref x0, Jv, Jv] [.long (1 : Int64)] h 0 0 Rt) ∧
(¬ 0 < (lg_cmp (ml h x0 5) (0 : Int64)).toInt →
WM k_Form_lessenZ p_Form_lessenZ_2 [.ref x0, Jv, Jv] [.long (-1 : Int64)] h 0 0 Rt)) ∧
(¬ (lg_cmp (ml h x0 4) (0 : Int64)).toInt < 0 →
Rt (.int (0 : Int32)) h)) ∧
(¬ (lg_cmp (ml h x0 5) (-(ml h x0 0))) = 0 →
Rt (.int (0 : Int32)) h)) : WM k_Form_lessenZ p_Form_lessenZ_1 [.ref x0, Jv, Jv] [] h 0 0 Rt := WM_at (hs := HH_Form_lessenZ) G_Form_lessenZ 81 21 rfl ⟨H.1, ⟨H.1, ⟨fun c2 => ⟨H.1, ⟨fun c3 => ⟨H.1, ((H.2.1 c2).1 c3)⟩, fun c3 => ⟨(Or.inl rfl), ((H.2.1 c2).2 c3)⟩⟩⟩, fun c2 => ⟨(Or.inl rfl), (H.2.2 c2)⟩⟩⟩⟩
set_option maxRecDepth 100000 in
set_option maxHeartbeats 4000000 in
theorem v_Form_lessenZ_2 (x0 : Nat) (s0 : Int64) (h : MH) (Rt : Value → MH → Prop) (H :
kd h x0 = 3 ∧
SpV k_Form_set [.ref x0, .long (ml h x0 0), .long (((ml h x0 0) + (ml h x0 1)) - (s0 * (ml h x0 5))), .long (ml h x0 2), .long ((ml h x0 3) - (s0 * (ml h x0 4))), .long (ml h x0 4), .long ((ml h x0 5) - (((2 : Int64) * s0) * (ml h x0 0)))] h (fun g2 =>
Rt (.int (1 : Int32)) g2)) : WM k_Form_lessenZ p_Form_lessenZ_2 [.ref x0, Jv, Jv] [.long s0] h 0 0 Rt := WM_at (hs := HH_Form_lessenZ) G_Form_lessenZ 81 41 rfl ⟨H.1, ⟨H.1, ⟨H.1, ⟨H.1, ⟨H.1, ⟨H.1, ⟨H.1, ⟨H.1, ⟨H.1, ⟨H.1, ⟨H.1, SpV.mono H.2 (fun g2 qg2 => ⟨(Or.inr rfl), qg2⟩)⟩⟩⟩⟩⟩⟩⟩⟩⟩⟩⟩
set_option maxRecDepth 100000 in
set_option maxHeartbeats 4000000 in
theorem v_Form_lessenSum (x0 : Nat) (h : MH) (Rt : Value → MH → Prop) (H :
kd h x0 = 3 ∧
((lg_cmp (((((ml h x0 3) + (ml h x0 4)) + (ml h x0 5)) + (ml h x0 0)) + (ml h x0 1)) (0 : Int64)).toInt < 0 →
WM k_Form_lessenSum p_Form_lessenSum_1 [.ref x0, .long (((((ml h x0 3) + (ml h x0 4)) + (ml h x0 5)) + (ml h x0 0)) + (ml h x0 1)), Jv] [] h 0 0 Rt) ∧
(¬ (lg_cmp (((((ml h x0 3) + (ml h x0 4)) + (ml h x0 5)) + (ml h x0 0)) + (ml h x0 1)) (0 : Int64)).toInt < 0 →
((lg_cmp (((((ml h x0 3) + (ml h x0 4)) + (ml h x0 5)) + (ml h x0 0)) + (ml h x0 1)) (0 : Int64)) = 0 →
(0 < (lg_cmp (((2 : Int64) * ((ml h x0 0) + (ml h x0 4))) + (ml h x0 5)) (0 : Int64)).toInt →
WM k_Form_lessenSum p_Form_lessenSum_1 [.ref x0, .long (((((ml h x0 3) + (ml h x0 4)) + (ml h x0 5)) + (ml h x0 0)) + (ml h x0 1)), Jv] [] h 0 0 Rt) ∧
(¬ 0 < (lg_cmp (((2 : Int64) * ((ml h x0 0) + (ml h x0 4))) + (ml h x0 5)) (0 : Int64)).toInt →
Rt (.int (0 : Int32)) h)) ∧
(¬ (lg_cmp (((((ml h x0 3) + (ml h x0 4)) + (ml h x0 5)) + (ml h x0 0)) + (ml h x0 1)) (0 : Int64)) = 0 →
Rt (.int (0 : Int32)) h))) : Sp k_Form_lessenSum [.ref x0] h Rt := Sp_intro2 (by decide) (by decide +kernel) rfl (Nat.le_of_ble_eq_true rfl) (WM_at (hs := HH_Form_lessenSum) G_Form_lessenSum 73 0 rfl ⟨H.1, ⟨H.1, ⟨H.1, ⟨H.1, ⟨H.1, ⟨H.2.1, fun c2 => ⟨fun c3 => ⟨H.1, ⟨H.1, ⟨H.1, ⟨((H.2.2 c2).1 c3).1, fun c4 => ⟨(Or.inl rfl), (((H.2.2 c2).1 c3).2 c4)⟩⟩⟩⟩⟩, fun c3 => ⟨(Or.inl rfl), ((H.2.2 c2).2 c3)⟩⟩⟩⟩⟩⟩⟩⟩)
set_option maxRecDepth 100000 in
set_option maxHeartbeats 4000000 in
theorem v_Form_lessenSum_1 (x0 : Nat) (x1 : Int64) (h : MH) (Rt : Value → MH → Prop) (H :
kd h x0 = 3 ∧
SpV k_Form_set [.ref x0, .long (ml h x0 0), .long (ml h x0 1), .long ((ml h x0 2) + x1), .long ((((2 : Int64) * (ml h x0 1)) + (ml h x0 3)) + (ml h x0 5)), .long ((((2 : Int64) * (ml h x0 0)) + (ml h x0 4)) + (ml h x0 5)), .long (ml h x0 5)] h (fun g2 =>
Rt (.int (1 : Int32)) g2)) : WM k_Form_lessenSum p_Form_lessenSum_1 [.ref x0, .long x1, Jv] [] h 0 0 Rt := WM_at (hs := HH_Form_lessenSum) G_Form_lessenSum 73 36 rfl ⟨H.1, ⟨H.1, ⟨H.1, ⟨H.1, ⟨H.1, ⟨H.1, ⟨H.1, ⟨H.1, ⟨H.1, ⟨H.1, ⟨H.1, SpV.mono H.2 (fun g2 qg2 => ⟨(Or.inr rfl), qg2⟩)⟩⟩⟩⟩⟩⟩⟩⟩⟩⟩⟩
set_option maxRecDepth 100000 in
set_option maxHeartbeats 4000000 in
theorem v_Form_reduce (x0 : Nat) (h : MH) (Rt : Value → MH → Prop) (H :
WM k_Form_reduce p_Form_reduce_1 [.ref x0, .int (0 : Int32)] [] h 0 0 Rt) : Sp k_Form_reduce [.ref x0] h Rt := Sp_intro2 (by decide) (by decide +kernel) rfl (Nat.le_of_ble_eq_true rfl) (WM_at (hs := HH_Form_reduce) G_Form_reduce 29 0 rfl H)
set_option maxRecDepth 100000 in
set_option maxHeartbeats 4000000 in
theorem v_Form_reduce_1 (x0 : Nat) (x1 : Int32) (h : MH) (Rt : Value → MH → Prop) (H :
(x1.toInt < (1000000 : Int32).toInt →
kd h x0 = 3 ∧
SpV k_Form_swapFirst [.ref x0] h (fun g1 =>
kd g1 x0 = 3 ∧
SpI k_Form_swapLast [.ref x0] g1 (fun r5 g3 =>
(r5 = 0 →
kd g3 x0 = 3 ∧
SpV k_Form_alignSigns [.ref x0] g3 (fun g6 =>
kd g6 x0 = 3 ∧
SpI k_Form_lessenX [.ref x0] g6 (fun r10 g8 =>
(r10 = 0 →
kd g8 x0 = 3 ∧
SpI k_Form_lessenY [.ref x0] g8 (fun r13 g11 =>
(r13 = 0 →
kd g11 x0 = 3 ∧
SpI k_Form_lessenZ [.ref x0] g11 (fun r16 g14 =>
(r16 = 0 →
kd g14 x0 = 3 ∧
SpI k_Form_lessenSum [.ref x0] g14 (fun r19 g17 =>
(r19 = 0 →
Rt .null g17) ∧
(¬ r19 = 0 →
WM k_Form_reduce p_Form_reduce_1 [.ref x0, .int (x1 + (1 : Int32))] [] g17 0 0 Rt))) ∧
(¬ r16 = 0 →
WM k_Form_reduce p_Form_reduce_1 [.ref x0, .int (x1 + (1 : Int32))] [] g14 0 0 Rt))) ∧
(¬ r13 = 0 →
WM k_Form_reduce p_Form_reduce_1 [.ref x0, .int (x1 + (1 : Int32))] [] g11 0 0 Rt))) ∧
(¬ r10 = 0 →
WM k_Form_reduce p_Form_reduce_1 [.ref x0, .int (x1 + (1 : Int32))] [] g8 0 0 Rt)))) ∧
(¬ r5 = 0 →
WM k_Form_reduce p_Form_reduce_1 [.ref x0, .int (x1 + (1 : Int32))] [] g3 0 0 Rt)))) ∧
(¬ x1.toInt < (1000000 : Int32).toInt →
Rt .null h)) : WM k_Form_reduce p_Form_reduce_1 [.ref x0, .int x1] [] h 0 0 Rt := WM_at (hs := HH_Form_reduce) G_Form_reduce 29 2 rfl H
set_option maxRecDepth 100000 in
set_option maxHeartbeats 4000000 in
theorem v_Ho_cell (x0 : Nat) (x1 : Int32) (x2 : Int32) (x3 : Int32) (x4 : Int32) (x5 : Int32) (x6 : Int32) (h : MH) (Rt : Value → MH → Prop) (H :
kd h x0 = 12 ∧
((mi h x0 14).toInt < (40 : Int32).toInt →
SpI k_Ho_isSquare [.int x1] h (fun r3 g2 =>
(r3 = 0 →
Rt (.int (-1 : Int32)) g2) ∧
(¬ r3 = 0 →
SpI k_Ho_isSquare [.int x2] g2 (fun r5 g4 =>
(r5 = 0 →
Rt (.int (-1 : Int32)) g4) ∧
(¬ r5 = 0 →
SpI k_Ho_isSquare [.int x3] g4 (fun r7 g6 =>
(r7 = 0 →
Rt (.int (-1 : Int32)) g6) ∧
(¬ r7 = 0 →
SpI k_Ho_isMixed [.int x4] g6 (fun r9 g8 =>
(r9 = 0 →
Rt (.int (-1 : Int32)) g8) ∧
(¬ r9 = 0 →
SpI k_Ho_isMixed [.int x5] g8 (fun r11 g10 =>
(r11 = 0 →
Rt (.int (-1 : Int32)) g10) ∧
(¬ r11 = 0 →
SpI k_Ho_isMixed [.int x6] g10 (fun r13 g12 =>
(r13 = 0 →
Rt (.int (-1 : Int32)) g12) ∧
(¬ r13 = 0 →
(0 < ((x1 * x2) - (x6 * x6)).toInt →
SpL k_Form_determinantOf [.long x1.toInt64, .long x2.toInt64, .long x3.toInt64, .long x4.toInt64, .long x5.toInt64, .long x6.toInt64] g12 (fun r15 g14 =>
(0 < (lg_cmp r15 (0 : Int64)).toInt →
∀ g16 : MH, g16 = nw g14 1 0 →
kd g16 (hn g14) = 1 ∧
SpV k_Cell_init [.ref (hn g14)] g16 (fun g17 =>
kd g17 (hn g14) = 1 ∧
kd g17 (mr g17 (hn g14) 0) = 3 ∧
SpV k_Form_set [.ref (mr g17 (hn g14) 0), .long x1.toInt64, .long x2.toInt64, .long x3.toInt64, .long (((2 : Int32) * x4).toInt64), .long (((2 : Int32) * x5).toInt64), .long (((2 : Int32) * x6).toInt64)] g17 (fun g20 =>
WM k_Ho_cell p_Ho_cell_1 [.ref x0, Jv, Jv, Jv, Jv, Jv, Jv, .ref (hn g14), Jv] [] g20 6 50 Rt))) ∧
(¬ 0 < (lg_cmp r15 (0 : Int64)).toInt →
Rt (.int (-1 : Int32)) g14))) ∧
(¬ 0 < ((x1 * x2) - (x6 * x6)).toInt →
Rt (.int (-1 : Int32)) g12)))))))))))))) ∧
(¬ (mi h x0 14).toInt < (40 : Int32).toInt →
Rt (.int (-1 : Int32)) h)) : Sp k_Ho_cell [.ref x0, .int x1, .int x2, .int x3, .int x4, .int x5, .int x6] h Rt := Sp_intro2 (by decide) (by decide +kernel) rfl (Nat.le_of_ble_eq_true rfl) (WM_at (hs := HH_Ho_cell) G_Ho_cell 100 0 rfl ⟨H.1, ⟨fun c22 => SpI.mono (H.2.1 c22) (fun r3 g2 qg2 => ⟨qg2.1, fun c23 => SpI.mono (qg2.2 c23) (fun r5 g4 qg4 => ⟨qg4.1, fun c24 => SpI.mono (qg4.2 c24) (fun r7 g6 qg6 => ⟨qg6.1, fun c25 => SpI.mono (qg6.2 c25) (fun r9 g8 qg8 => ⟨qg8.1, fun c26 => SpI.mono (qg8.2 c26) (fun r11 g10 qg10 => ⟨qg10.1, fun c27 => SpI.mono (qg10.2 c27) (fun r13 g12 qg12 => ⟨qg12.1, fun c28 => ⟨fun c29 => SpL.mono ((qg12.2 c28).1 c29) (fun r15 g14 qg14 => ⟨fun c30 => ((qg14.1 c30) _ rfl), qg14.2⟩), (qg12.2 c28).2⟩⟩)⟩)⟩)⟩)⟩)⟩), H.2.2⟩⟩)
set_option maxRecDepth 100000 in
set_option maxHeartbeats 4000000 in
theorem v_Ho_cell_1 (x0 : Nat) (x7 : Nat) (cc ss : Nat) (h : MH) (Rt : Value → MH → Prop) (H :
kd h x7 = 1 ∧
kd h (mr h x7 1) = 3 ∧
gd (cc + 0) 6 (
gd (ss + 0) 50 (
SpV k_Form_copy [.ref (mr h x7 1), .ref (mr h x7 0)] h (fun g2 =>
kd g2 x7 = 1 ∧
kd g2 (mr g2 x7 1) = 3 ∧
gd ((cc + 0) + 0) 6 (
gd ((ss + 0) + 0) 50 (
SpV k_Form_reduce [.ref (mr g2 x7 1)] g2 (fun g5 =>
kd g5 x0 = 12 ∧
kd g5 (mr g5 x0 13) = 25 ∧
InB (mi g5 x0 14) (ln g5 (mr g5 x0 13)) ∧
kd g5 x7 = 1 ∧
∀ g11 : MH, g11 = wr g5 (mr g5 x0 13) (ix (mi g5 x0 14)) x7 →
∀ g12 : MH, g12 = wi g11 x0 14 ((mi g5 x0 14) + (1 : Int32)) →
gd ((cc + 0) + 0) 6 (
gd ((ss + 0) + 0) 50 (
Rt (.int (mi g5 x0 14)) g12))))))))) : WM k_Ho_cell p_Ho_cell_1 [.ref x0, Jv, Jv, Jv, Jv, Jv, Jv, .ref x7, Jv] [] h cc ss Rt := WM_at (hs := HH_Ho_cell) G_Ho_cell 100 75 rfl ⟨H.1, ⟨H.1, ⟨H.2.1, gd_mono (a := (cc + 0)) (b := 6) (fun q => gd_mono (a := (ss + 0)) (b := 50) (fun q => SpV.mono q (fun g2 qg2 => ⟨qg2.1, ⟨qg2.2.1, gd_mono (a := ((cc + 0) + 0)) (b := 6) (fun q => gd_mono (a := ((ss + 0) + 0)) (b := 50) (fun q => SpV.mono q (fun g5 qg5 => ⟨qg5.1, ⟨qg5.1, ⟨qg5.2.1, ⟨qg5.2.2.1, ⟨qg5.2.2.2.1, ⟨qg5.1, ⟨qg5.1, ((qg5.2.2.2.2 _ rfl) _ rfl)⟩⟩⟩⟩⟩⟩⟩)) q) qg2.2.2⟩⟩)) q) H.2.2⟩⟩⟩
set_option maxRecDepth 100000 in
set_option maxHeartbeats 4000000 in
theorem v_Ref_between (x0 : Int64) (x2 : Int64) (x4 : Int64) (h : MH) (Rt : Value → MH → Prop) (H :
((lg_cmp x0 x2).toInt < 0 →
Rt (.int (0 : Int32)) h) ∧
(¬ (lg_cmp x0 x2).toInt < 0 →
(0 < (lg_cmp x0 x4).toInt →
Rt (.int (0 : Int32)) h) ∧
(¬ 0 < (lg_cmp x0 x4).toInt →
Rt (.int (1 : Int32)) h))) : Sp k_Ref_between [.long x0, .long x2, .long x4] h Rt := Sp_intro2 (by decide) (by decide +kernel) rfl (Nat.le_of_ble_eq_true rfl) (WM_at (hs := HH_Ref_between) G_Ref_between 13 0 rfl ⟨fun c1 => ⟨(Or.inl rfl), (H.1 c1)⟩, fun c1 => ⟨fun c2 => ⟨(Or.inl rfl), ((H.2 c1).1 c2)⟩, fun c2 => ⟨(Or.inr rfl), ((H.2 c1).2 c2)⟩⟩⟩)
set_option maxRecDepth 100000 in
set_option maxHeartbeats 4000000 in
theorem v_Ref_determinantOf (x0 : Nat) (x1 : Int32) (h : MH) (Rt : Value → MH → Prop) (H :
kd h x0 = 21 ∧
InB x1 (ln h x0) ∧
InB (x1 + (1 : Int32)) (ln h x0) ∧
InB (x1 + (2 : Int32)) (ln h x0) ∧
InB (x1 + (3 : Int32)) (ln h x0) ∧
InB (x1 + (4 : Int32)) (ln h x0) ∧
InB (x1 + (5 : Int32)) (ln h x0) ∧
Rt (.long ((((ml h x0 (ix x1)) * (((ml h x0 (ix (x1 + (1 : Int32)))) * (ml h x0 (ix (x1 + (2 : Int32))))) - ((ml h x0 (ix (x1 + (3 : Int32)))) * (ml h x0 (ix (x1 + (3 : Int32))))))) - ((ml h x0 (ix (x1 + (5 : Int32)))) * (((ml h x0 (ix (x1 + (5 : Int32)))) * (ml h x0 (ix (x1 + (2 : Int32))))) - ((ml h x0 (ix (x1 + (3 : Int32)))) * (ml h x0 (ix (x1 + (4 : Int32)))))))) + ((ml h x0 (ix (x1 + (4 : Int32)))) * (((ml h x0 (ix (x1 + (5 : Int32)))) * (ml h x0 (ix (x1 + (3 : Int32))))) - ((ml h x0 (ix (x1 + (1 : Int32)))) * (ml h x0 (ix (x1 + (4 : Int32))))))))) h) : Sp k_Ref_determinantOf [.ref x0, .int x1] h Rt := Sp_intro2 (by decide) (by decide +kernel) rfl (Nat.le_of_ble_eq_true rfl) (WM_at (hs := HH_Ref_determinantOf) G_Ref_determinantOf 65 0 rfl ⟨H.1, ⟨H.2.1, ⟨H.1, ⟨H.2.2.1, ⟨H.1, ⟨H.2.2.2.1, ⟨H.1, ⟨H.2.2.2.2.1, ⟨H.1, ⟨H.2.2.2.2.2.1, ⟨H.1, H.2.2.2.2.2.2⟩⟩⟩⟩⟩⟩⟩⟩⟩⟩⟩)
set_option maxRecDepth 100000 in
set_option maxHeartbeats 4000000 in
theorem v_Ref_size (x0 : Int64) (h : MH) (Rt : Value → MH → Prop) (H :
((lg_cmp x0 (0 : Int64)).toInt < 0 →
Rt (.long (-x0)) h) ∧
(¬ (lg_cmp x0 (0 : Int64)).toInt < 0 →
Rt (.long x0) h)) : Sp k_Ref_size [.long x0] h Rt := Sp_intro2 (by decide) (by decide +kernel) rfl (Nat.le_of_ble_eq_true rfl) (WM_at (hs := HH_Ref_size) G_Ref_size 10 0 rfl H)
set_option maxRecDepth 100000 in
set_option maxHeartbeats 4000000 in
theorem v_Ref_exchange (x0 : Nat) (x1 : Int32) (x2 : Int32) (h : MH) (Rt : Value → MH → Prop) (H :
kd h x0 = 13 ∧
kd h (mr h x0 33) = 21 ∧
InB x1 (ln h (mr h x0 33)) ∧
InB x2 (ln h (mr h x0 33)) ∧
∀ g5 : MH, g5 = wl h (mr h x0 33) (ix x1) (ml h (mr h x0 33) (ix x2)) →
∀ g6 : MH, g6 = wl g5 (mr h x0 33) (ix x2) (ml h (mr h x0 33) (ix x1)) →
Rt .null g6) : Sp k_Ref_exchange [.ref x0, .int x1, .int x2] h Rt := Sp_intro2 (by decide) (by decide +kernel) rfl (Nat.le_of_ble_eq_true rfl) (WM_at (hs := HH_Ref_exchange) G_Ref_exchange 20 0 rfl ⟨H.1, ⟨H.2.1, ⟨H.2.2.1, ⟨H.1, ⟨H.1, ⟨H.2.1, ⟨H.2.2.2.1, ⟨H.2.1, ⟨H.2.2.1, ⟨H.1, ⟨H.2.1, ⟨H.2.2.2.1, ((H.2.2.2.2 _ rfl) _ rfl)⟩⟩⟩⟩⟩⟩⟩⟩⟩⟩⟩⟩)
