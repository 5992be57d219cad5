set_option maxRecDepth 100000 in
set_option maxHeartbeats 4000000 in
theorem v_Ref_placed (x0 : Nat) (x1 : Int32) (x2 : Int32) (x3 : Int32) (h : MH) (Rt : Value → MH → Prop) (H :
kd h x0 = 13 ∧
SpI k_Ref_isPlaced [.ref x0, .int x1, .int x2] h (fun r3 g1 =>
(r3 = 0 →
Rt (.int (-1 : Int32)) g1) ∧
(¬ r3 = 0 →
(x3 = 0 →
kd g1 x0 = 13 ∧
kd g1 (mr g1 x0 42) = 20 ∧
InB (((300 : Int32) * x1) + x2) (ln g1 (mr g1 x0 42)) ∧
Rt (.int (mi g1 (mr g1 x0 42) (ix (((300 : Int32) * x1) + x2)))) g1) ∧
(¬ x3 = 0 →
(x3 = (1 : Int32) →
kd g1 x0 = 13 ∧
kd g1 (mr g1 x0 43) = 20 ∧
InB (((300 : Int32) * x1) + x2) (ln g1 (mr g1 x0 43)) ∧
Rt (.int (mi g1 (mr g1 x0 43) (ix (((300 : Int32) * x1) + x2)))) g1) ∧
(¬ x3 = (1 : Int32) →
(x3 = (2 : Int32) →
kd g1 x0 = 13 ∧
kd g1 (mr g1 x0 44) = 20 ∧
InB (((300 : Int32) * x1) + x2) (ln g1 (mr g1 x0 44)) ∧
Rt (.int (mi g1 (mr g1 x0 44) (ix (((300 : Int32) * x1) + x2)))) g1) ∧
(¬ x3 = (2 : Int32) →
Rt (.int (-1 : Int32)) g1)))))) : Sp k_Ref_placed [.ref x0, .int x1, .int x2, .int x3] h Rt := Sp_intro2 (by decide) (by decide +kernel) rfl (Nat.le_of_ble_eq_true rfl) (WM_at (hs := HH_Ref_placed) G_Ref_placed 39 0 rfl H)
set_option maxRecDepth 100000 in
set_option maxHeartbeats 4000000 in
theorem v_Arrays_fillaJJ (x0 : Nat) (x1 : Int64) (h : MH) (Rt : Value → MH → Prop) (H :
kd h x0 = 21 ∧
WM k_Arrays_fillaJJ p_Arrays_fillaJJ_1 [.ref x0, .long x1, Jv, .int (0 : Int32), .int (Int32.ofNat (ln h x0))] [] h 0 0 Rt) : Sp k_Arrays_fillaJJ [.ref x0, .long x1] h Rt := Sp_intro2 (by decide) (by decide +kernel) rfl (Nat.le_of_ble_eq_true rfl) (WM_at (hs := HH_Arrays_fillaJJ) G_Arrays_fillaJJ 16 0 rfl H)
set_option maxRecDepth 100000 in
set_option maxHeartbeats 4000000 in
theorem v_Arrays_fillaJJ_1 (x0 : Nat) (x1 : Int64) (x3 : Int32) (x4 : Int32) (h : MH) (Rt : Value → MH → Prop) (H :
(x3.toInt < x4.toInt →
kd h x0 = 21 ∧
InB x3 (ln h x0) ∧
WM k_Arrays_fillaJJ p_Arrays_fillaJJ_1 [.ref x0, .long x1, Jv, .int (x3 + (1 : Int32)), .int x4] [] (wl h x0 (ix x3) x1) 0 0 Rt) ∧
(¬ x3.toInt < x4.toInt →
Rt .null h)) : WM k_Arrays_fillaJJ p_Arrays_fillaJJ_1 [.ref x0, .long x1, Jv, .int x3, .int x4] [] h 0 0 Rt := WM_at (hs := HH_Arrays_fillaJJ) G_Arrays_fillaJJ 16 5 rfl H
set_option maxRecDepth 100000 in
set_option maxHeartbeats 4000000 in
theorem v_Wave_addHeaps (x0 : Nat) (x1 : Nat) (x2 : Int32) (h : MH) (Rt : Value → MH → Prop) (H :
SpV k_Arrays_fillaJJ [.ref x1, .long (0 : Int64)] h (fun g1 =>
WM k_Wave_addHeaps p_Wave_addHeaps_1 [.ref x0, .ref x1, .int x2, .int (0 : Int32), Jv, Jv, Jv, Jv] [] g1 0 0 Rt)) : Sp k_Wave_addHeaps [.ref x0, .ref x1, .int x2] h Rt := Sp_intro2 (by decide) (by decide +kernel) rfl (Nat.le_of_ble_eq_true rfl) (WM_at (hs := HH_Wave_addHeaps) G_Wave_addHeaps 51 0 rfl H)
set_option maxRecDepth 100000 in
set_option maxHeartbeats 4000000 in
theorem v_Wave_addHeaps_1 (x0 : Nat) (x1 : Nat) (x2 : Int32) (x3 : Int32) (h : MH) (Rt : Value → MH → Prop) (H :
(x3.toInt < (24 : Int32).toInt →
kd h x0 = 11 ∧
kd h (mr h x0 3) = 20 ∧
InB x3 (ln h (mr h x0 3)) ∧
((lg_cmp ((mi h (mr h x0 3) (ix x3)).toInt64) (0 : Int64)) = 0 →
WM k_Wave_addHeaps p_Wave_addHeaps_1 [.ref x0, .ref x1, .int x2, .int (x3 + (1 : Int32)), Jv, Jv, Jv, Jv] [] h 0 0 Rt) ∧
(¬ (lg_cmp ((mi h (mr h x0 3) (ix x3)).toInt64) (0 : Int64)) = 0 →
WM k_Wave_addHeaps p_Wave_addHeaps_2 [.ref x0, .ref x1, .int x2, .int x3, .long ((mi h (mr h x0 3) (ix x3)).toInt64), Jv, .int ((4 : Int32) * (irm (x3 + x2) (24 : Int32))), .int (0 : Int32)] [] h 0 0 Rt)) ∧
(¬ x3.toInt < (24 : Int32).toInt →
Rt .null h)) : WM k_Wave_addHeaps p_Wave_addHeaps_1 [.ref x0, .ref x1, .int x2, .int x3, Jv, Jv, Jv, Jv] [] h 0 0 Rt := WM_at (hs := HH_Wave_addHeaps) G_Wave_addHeaps 51 5 rfl ⟨fun c4 => ⟨(H.1 c4).1, ⟨((H.1 c4).2).1, ⟨(((H.1 c4).2).2).1, ⟨((((H.1 c4).2).2).2).1, fun c5 => ⟨(by decide), (((((H.1 c4).2).2).2).2 c5)⟩⟩⟩⟩⟩, H.2⟩
set_option maxRecDepth 100000 in
set_option maxHeartbeats 4000000 in
theorem v_Wave_addHeaps_2 (x0 : Nat) (x1 : Nat) (x2 : Int32) (x3 : Int32) (x4 : Int64) (x6 : Int32) (x7 : Int32) (h : MH) (Rt : Value → MH → Prop) (H :
(x7.toInt < (4 : Int32).toInt →
kd h x1 = 21 ∧
InB x7 (ln h x1) ∧
kd h 3 = 19 ∧
InB (x6 + x7) (ln h 3) ∧
WM k_Wave_addHeaps p_Wave_addHeaps_2 [.ref x0, .ref x1, .int x2, .int x3, .long x4, Jv, .int x6, .int (x7 + (1 : Int32))] [] (wl h x1 (ix x7) ((ml h x1 (ix x7)) + (x4 * (mi h 3 (ix (x6 + x7))).toInt64))) 0 0 Rt) ∧
(¬ x7.toInt < (4 : Int32).toInt →
WM k_Wave_addHeaps p_Wave_addHeaps_1 [.ref x0, .ref x1, .int x2, .int (x3 + (1 : Int32)), Jv, Jv, Jv, Jv] [] h 0 0 Rt)) : WM k_Wave_addHeaps p_Wave_addHeaps_2 [.ref x0, .ref x1, .int x2, .int x3, .long x4, Jv, .int x6, .int x7] [] h 0 0 Rt := WM_at (hs := HH_Wave_addHeaps) G_Wave_addHeaps 51 28 rfl ⟨fun c5 => ⟨(H.1 c5).1, ⟨((H.1 c5).2).1, ⟨(((H.1 c5).2).2).1, ⟨((((H.1 c5).2).2).2).1, ⟨(H.1 c5).1, ⟨((H.1 c5).2).1, ((((H.1 c5).2).2).2).2⟩⟩⟩⟩⟩⟩, H.2⟩
set_option maxRecDepth 100000 in
set_option maxHeartbeats 4000000 in
theorem v_Wave_addSquare (x0 : Nat) (x1 : Nat) (h : MH) (Rt : Value → MH → Prop) (H :
kd h x0 = 11 ∧
kd h (mr h x0 2) = 21 ∧
InB (0 : Int32) (ln h (mr h x0 2)) ∧
kd h x1 = 21 ∧
InB (0 : Int32) (ln h x1) ∧
InB (1 : Int32) (ln h x1) ∧
InB (2 : Int32) (ln h x1) ∧
InB (3 : Int32) (ln h x1) ∧
InB (1 : Int32) (ln h (mr h x0 2)) ∧
WM k_Wave_addSquare p_Wave_addSquare_1 [.ref x0, .ref x1] [] (wl (wl h (mr h x0 2) (ix (0 : Int32)) ((ml h (mr h x0 2) (ix (0 : Int32))) + (((((ml h x1 (ix (0 : Int32))) * (ml h x1 (ix (0 : Int32)))) + (((2 : Int64) * (ml h x1 (ix (1 : Int32)))) * (ml h x1 (ix (1 : Int32))))) + (((3 : Int64) * (ml h x1 (ix (2 : Int32)))) * (ml h x1 (ix (2 : Int32))))) + (((6 : Int64) * (ml h x1 (ix (3 : Int32)))) * (ml h x1 (ix (3 : Int32))))))) (mr h x0 2) (ix (1 : Int32)) ((ml (wl h (mr h x0 2) (ix (0 : Int32)) ((ml h (mr h x0 2) (ix (0 : Int32))) + (((((ml h x1 (ix (0 : Int32))) * (ml h x1 (ix (0 : Int32)))) + (((2 : Int64) * (ml h x1 (ix (1 : Int32)))) * (ml h x1 (ix (1 : Int32))))) + (((3 : Int64) * (ml h x1 (ix (2 : Int32)))) * (ml h x1 (ix (2 : Int32))))) + (((6 : Int64) * (ml h x1 (ix (3 : Int32)))) * (ml h x1 (ix (3 : Int32))))))) (mr h x0 2) (ix (1 : Int32))) + ((((2 : Int64) * (ml (wl h (mr h x0 2) (ix (0 : Int32)) ((ml h (mr h x0 2) (ix (0 : Int32))) + (((((ml h x1 (ix (0 : Int32))) * (ml h x1 (ix (0 : Int32)))) + (((2 : Int64) * (ml h x1 (ix (1 : Int32)))) * (ml h x1 (ix (1 : Int32))))) + (((3 : Int64) * (ml h x1 (ix (2 : Int32)))) * (ml h x1 (ix (2 : Int32))))) + (((6 : Int64) * (ml h x1 (ix (3 : Int32)))) * (ml h x1 (ix (3 : Int32))))))) x1 (ix (0 : Int32)))) * (ml (wl h (mr h x0 2) (ix (0 : Int32)) ((ml h (mr h x0 2) (ix (0 : Int32))) + (((((ml h x1 (ix (0 : Int32))) * (ml h x1 (ix (0 : Int32)))) + (((2 : Int64) * (ml h x1 (ix (1 : Int32)))) * (ml h x1 (ix (1 : Int32))))) + (((3 : Int64) * (ml h x1 (ix (2 : Int32)))) * (ml h x1 (ix (2 : Int32))))) + (((6 : Int64) * (ml h x1 (ix (3 : Int32)))) * (ml h x1 (ix (3 : Int32))))))) x1 (ix (1 : Int32)))) + (((6 : Int64) * (ml (wl h (mr h x0 2) (ix (0 : Int32)) ((ml h (mr h x0 2) (ix (0 : Int32))) + (((((ml h x1 (ix (0 : Int32))) * (ml h x1 (ix (0 : Int32)))) + (((2 : Int64) * (ml h x1 (ix (1 : Int32)))) * (ml h x1 (ix (1 : Int32))))) + (((3 : Int64) * (ml h x1 (ix (2 : Int32)))) * (ml h x1 (ix (2 : Int32))))) + (((6 : Int64) * (ml h x1 (ix (3 : Int32)))) * (ml h x1 (ix (3 : Int32))))))) x1 (ix (2 : Int32)))) * (ml (wl h (mr h x0 2) (ix (0 : Int32)) ((ml h (mr h x0 2) (ix (0 : Int32))) + (((((ml h x1 (ix (0 : Int32))) * (ml h x1 (ix (0 : Int32)))) + (((2 : Int64) * (ml h x1 (ix (1 : Int32)))) * (ml h x1 (ix (1 : Int32))))) + (((3 : Int64) * (ml h x1 (ix (2 : Int32)))) * (ml h x1 (ix (2 : Int32))))) + (((6 : Int64) * (ml h x1 (ix (3 : Int32)))) * (ml h x1 (ix (3 : Int32))))))) x1 (ix (3 : Int32))))))) 0 0 Rt) : Sp k_Wave_addSquare [.ref x0, .ref x1] h Rt := Sp_intro2 (by decide) (by decide +kernel) rfl (Nat.le_of_ble_eq_true rfl) (WM_at (hs := HH_Wave_addSquare) G_Wave_addSquare 124 0 rfl ⟨H.1, ⟨H.2.1, ⟨H.2.2.1, ⟨H.2.2.2.1, ⟨H.2.2.2.2.1, ⟨H.2.2.2.1, ⟨H.2.2.2.2.1, ⟨H.2.2.2.1, ⟨H.2.2.2.2.2.1, ⟨H.2.2.2.1, ⟨H.2.2.2.2.2.1, ⟨H.2.2.2.1, ⟨H.2.2.2.2.2.2.1, ⟨H.2.2.2.1, ⟨H.2.2.2.2.2.2.1, ⟨H.2.2.2.1, ⟨H.2.2.2.2.2.2.2.1, ⟨H.2.2.2.1, ⟨H.2.2.2.2.2.2.2.1, ⟨H.2.1, ⟨H.2.2.1, ⟨H.1, ⟨H.2.1, ⟨H.2.2.2.2.2.2.2.2.1, ⟨H.2.2.2.1, ⟨H.2.2.2.2.1, ⟨H.2.2.2.1, ⟨H.2.2.2.2.2.1, ⟨H.2.2.2.1, ⟨H.2.2.2.2.2.2.1, ⟨H.2.2.2.1, ⟨H.2.2.2.2.2.2.2.1, ⟨H.2.1, ⟨H.2.2.2.2.2.2.2.2.1, H.2.2.2.2.2.2.2.2.2⟩⟩⟩⟩⟩⟩⟩⟩⟩⟩⟩⟩⟩⟩⟩⟩⟩⟩⟩⟩⟩⟩⟩⟩⟩⟩⟩⟩⟩⟩⟩⟩⟩⟩)
set_option maxRecDepth 100000 in
set_option maxHeartbeats 4000000 in
theorem v_Wave_addSquare_1 (x0 : Nat) (x1 : Nat) (h : MH) (Rt : Value → MH → Prop) (H :
kd h x0 = 11 ∧
kd h (mr h x0 2) = 21 ∧
InB (2 : Int32) (ln h (mr h x0 2)) ∧
kd h x1 = 21 ∧
InB (0 : Int32) (ln h x1) ∧
InB (2 : Int32) (ln h x1) ∧
InB (1 : Int32) (ln h x1) ∧
InB (3 : Int32) (ln h x1) ∧
InB (3 : Int32) (ln h (mr h x0 2)) ∧
Rt .null (wl (wl h (mr h x0 2) (ix (2 : Int32)) ((ml h (mr h x0 2) (ix (2 : Int32))) + ((((2 : Int64) * (ml h x1 (ix (0 : Int32)))) * (ml h x1 (ix (2 : Int32)))) + (((4 : Int64) * (ml h x1 (ix (1 : Int32)))) * (ml h x1 (ix (3 : Int32))))))) (mr h x0 2) (ix (3 : Int32)) ((ml (wl h (mr h x0 2) (ix (2 : Int32)) ((ml h (mr h x0 2) (ix (2 : Int32))) + ((((2 : Int64) * (ml h x1 (ix (0 : Int32)))) * (ml h x1 (ix (2 : Int32)))) + (((4 : Int64) * (ml h x1 (ix (1 : Int32)))) * (ml h x1 (ix (3 : Int32))))))) (mr h x0 2) (ix (3 : Int32))) + ((((2 : Int64) * (ml (wl h (mr h x0 2) (ix (2 : Int32)) ((ml h (mr h x0 2) (ix (2 : Int32))) + ((((2 : Int64) * (ml h x1 (ix (0 : Int32)))) * (ml h x1 (ix (2 : Int32)))) + (((4 : Int64) * (ml h x1 (ix (1 : Int32)))) * (ml h x1 (ix (3 : Int32))))))) x1 (ix (0 : Int32)))) * (ml (wl h (mr h x0 2) (ix (2 : Int32)) ((ml h (mr h x0 2) (ix (2 : Int32))) + ((((2 : Int64) * (ml h x1 (ix (0 : Int32)))) * (ml h x1 (ix (2 : Int32)))) + (((4 : Int64) * (ml h x1 (ix (1 : Int32)))) * (ml h x1 (ix (3 : Int32))))))) x1 (ix (3 : Int32)))) + (((2 : Int64) * (ml (wl h (mr h x0 2) (ix (2 : Int32)) ((ml h (mr h x0 2) (ix (2 : Int32))) + ((((2 : Int64) * (ml h x1 (ix (0 : Int32)))) * (ml h x1 (ix (2 : Int32)))) + (((4 : Int64) * (ml h x1 (ix (1 : Int32)))) * (ml h x1 (ix (3 : Int32))))))) x1 (ix (1 : Int32)))) * (ml (wl h (mr h x0 2) (ix (2 : Int32)) ((ml h (mr h x0 2) (ix (2 : Int32))) + ((((2 : Int64) * (ml h x1 (ix (0 : Int32)))) * (ml h x1 (ix (2 : Int32)))) + (((4 : Int64) * (ml h x1 (ix (1 : Int32)))) * (ml h x1 (ix (3 : Int32))))))) x1 (ix (2 : Int32)))))))) : WM k_Wave_addSquare p_Wave_addSquare_1 [.ref x0, .ref x1] [] h 0 0 Rt := WM_at (hs := HH_Wave_addSquare) G_Wave_addSquare 124 70 rfl ⟨H.1, ⟨H.2.1, ⟨H.2.2.1, ⟨H.2.2.2.1, ⟨H.2.2.2.2.1, ⟨H.2.2.2.1, ⟨H.2.2.2.2.2.1, ⟨H.2.2.2.1, ⟨H.2.2.2.2.2.2.1, ⟨H.2.2.2.1, ⟨H.2.2.2.2.2.2.2.1, ⟨H.2.1, ⟨H.2.2.1, ⟨H.1, ⟨H.2.1, ⟨H.2.2.2.2.2.2.2.2.1, ⟨H.2.2.2.1, ⟨H.2.2.2.2.1, ⟨H.2.2.2.1, ⟨H.2.2.2.2.2.2.2.1, ⟨H.2.2.2.1, ⟨H.2.2.2.2.2.2.1, ⟨H.2.2.2.1, ⟨H.2.2.2.2.2.1, ⟨H.2.1, ⟨H.2.2.2.2.2.2.2.2.1, H.2.2.2.2.2.2.2.2.2⟩⟩⟩⟩⟩⟩⟩⟩⟩⟩⟩⟩⟩⟩⟩⟩⟩⟩⟩⟩⟩⟩⟩⟩⟩⟩
set_option maxRecDepth 100000 in
set_option maxHeartbeats 4000000 in
theorem v_Wave_sum (x0 : Nat) (x1 : Nat) (x2 : Int32) (x3 : Int32) (x4 : Int32) (h : MH) (Rt : Value → MH → Prop) (H :
kd h x0 = 11 ∧
SpV k_Arrays_fillaII [.ref (mr h x0 3), .int (0 : Int32)] h (fun g2 =>
WM k_Wave_sum p_Wave_sum_1 [.ref x0, .ref x1, .int x2, .int x3, .int x4, .int (0 : Int32), Jv] [] g2 0 0 Rt)) : Sp k_Wave_sum [.ref x0, .ref x1, .int x2, .int x3, .int x4] h Rt := Sp_intro2 (by decide) (by decide +kernel) rfl (Nat.le_of_ble_eq_true rfl) (WM_at (hs := HH_Wave_sum) G_Wave_sum 79 0 rfl H)
set_option maxRecDepth 100000 in
set_option maxHeartbeats 4000000 in
theorem v_Wave_sum_1 (x0 : Nat) (x1 : Nat) (x2 : Int32) (x3 : Int32) (x4 : Int32) (x5 : Int32) (h : MH) (Rt : Value → MH → Prop) (H :
kd h x1 = 6 ∧
(x5.toInt < (mi h x1 4).toInt →
kd h (mr h x1 2) = 20 ∧
InB ((3 : Int32) * x5) (ln h (mr h x1 2)) ∧
InB (((3 : Int32) * x5) + (1 : Int32)) (ln h (mr h x1 2)) ∧
InB (((3 : Int32) * x5) + (2 : Int32)) (ln h (mr h x1 2)) ∧
kd h x0 = 11 ∧
SpI k_Math_floorMod [.int (((x2 * (mi h (mr h x1 2) (ix ((3 : Int32) * x5)))) + (x3 * (mi h (mr h x1 2) (ix (((3 : Int32) * x5) + (1 : Int32)))))) + (x4 * (mi h (mr h x1 2) (ix (((3 : Int32) * x5) + (2 : Int32)))))), .int (24 : Int32)] h (fun r18 g17 =>
kd g17 (mr h x0 3) = 20 ∧
InB r18 (ln g17 (mr h x0 3)) ∧
kd g17 x1 = 6 ∧
SpI k_Model_weightOf [.ref x1, .int x5] g17 (fun r23 g21 =>
kd g21 (mr h x0 3) = 20 ∧
InB r18 (ln g21 (mr h x0 3)) ∧
WM k_Wave_sum p_Wave_sum_1 [.ref x0, .ref x1, .int x2, .int x3, .int x4, .int (x5 + (1 : Int32)), Jv] [] (wi g21 (mr h x0 3) (ix r18) ((mi g17 (mr h x0 3) (ix r18)) + r23)) 0 0 Rt))) ∧
(¬ x5.toInt < (mi h x1 4).toInt →
kd h x0 = 11 ∧
SpV k_Wave_addHeaps [.ref x0, .ref (mr h x0 0), .int (0 : Int32)] h (fun g3 =>
kd g3 x0 = 11 ∧
SpV k_Wave_addHeaps [.ref x0, .ref (mr g3 x0 1), .int (18 : Int32)] g3 (fun g5 =>
kd g5 x0 = 11 ∧
SpV k_Arrays_fillaJJ [.ref (mr g5 x0 2), .long (0 : Int64)] g5 (fun g7 =>
kd g7 x0 = 11 ∧
SpV k_Wave_addSquare [.ref x0, .ref (mr g7 x0 0)] g7 (fun g9 =>
kd g9 x0 = 11 ∧
SpV k_Wave_addSquare [.ref x0, .ref (mr g9 x0 1)] g9 (fun g11 =>
WM k_Wave_sum p_Wave_sum_2 [Jv, Jv, Jv, Jv, Jv, Jv, Jv] [] g11 0 0 Rt))))))) : WM k_Wave_sum p_Wave_sum_1 [.ref x0, .ref x1, .int x2, .int x3, .int x4, .int x5, Jv] [] h 0 0 Rt := WM_at (hs := HH_Wave_sum) G_Wave_sum 79 6 rfl ⟨H.1, ⟨fun c26 => ⟨H.1, ⟨(H.2.1 c26).1, ⟨((H.2.1 c26).2).1, ⟨H.1, ⟨(H.2.1 c26).1, ⟨(((H.2.1 c26).2).2).1, ⟨H.1, ⟨(H.2.1 c26).1, (((H.2.1 c26).2).2).2⟩⟩⟩⟩⟩⟩⟩⟩, fun c26 => ⟨(H.2.2 c26).1, ⟨(H.2.2 c26).1, SpV.mono ((H.2.2 c26).2) (fun g3 qg3 => ⟨qg3.1, ⟨qg3.1, SpV.mono qg3.2 (fun g5 qg5 => ⟨qg5.1, SpV.mono qg5.2 (fun g7 qg7 => ⟨qg7.1, ⟨qg7.1, SpV.mono qg7.2 (fun g9 qg9 => ⟨qg9.1, ⟨qg9.1, qg9.2⟩⟩)⟩⟩)⟩)⟩⟩)⟩⟩⟩⟩
set_option maxRecDepth 100000 in
set_option maxHeartbeats 4000000 in
theorem v_Wave_sum_2  (h : MH) (Rt : Value → MH → Prop) (H :
Rt .null h) : WM k_Wave_sum p_Wave_sum_2 [Jv, Jv, Jv, Jv, Jv, Jv, Jv] [] h 0 0 Rt := WM_at (hs := HH_Wave_sum) G_Wave_sum 79 77 rfl H
set_option maxRecDepth 100000 in
set_option maxHeartbeats 4000000 in
theorem v_Ho_amplitude (x0 : Nat) (x1 : Int32) (x2 : Int32) (x3 : Int32) (x4 : Int32) (x5 : Int32) (h : MH) (Rt : Value → MH → Prop) (H :
kd h x0 = 12 ∧
SpR k_Ho_modelAt [.ref x0, .int x1] h (fun r3 g1 =>
(r3 = 0 →
Rt (.long (0 : Int64)) g1) ∧
(¬ r3 = 0 →
(x5.toInt < 0 →
Rt (.long (0 : Int64)) g1) ∧
(¬ x5.toInt < 0 →
((11 : Int32).toInt < x5.toInt →
Rt (.long (0 : Int64)) g1) ∧
(¬ (11 : Int32).toInt < x5.toInt →
SpI k_Ho_isWave [.int x2, .int x3, .int x4] g1 (fun r5 g4 =>
(r5 = 0 →
Rt (.long (0 : Int64)) g4) ∧
(¬ r5 = 0 →
kd g4 x0 = 12 ∧
kd g4 (mr g4 x0 17) = 11 ∧
SpV k_Wave_sum [.ref (mr g4 x0 17), .ref r3, .int x2, .int x3, .int x4] g4 (fun g7 =>
(x5.toInt < (4 : Int32).toInt →
kd g7 x0 = 12 ∧
kd g7 (mr g7 x0 17) = 11 ∧
kd g7 (mr g7 (mr g7 x0 17) 0) = 21 ∧
InB x5 (ln g7 (mr g7 (mr g7 x0 17) 0)) ∧
Rt (.long (ml g7 (mr g7 (mr g7 x0 17) 0) (ix x5))) g7) ∧
(¬ x5.toInt < (4 : Int32).toInt →
(x5.toInt < (8 : Int32).toInt →
kd g7 x0 = 12 ∧
kd g7 (mr g7 x0 17) = 11 ∧
kd g7 (mr g7 (mr g7 x0 17) 1) = 21 ∧
InB (x5 - (4 : Int32)) (ln g7 (mr g7 (mr g7 x0 17) 1)) ∧
Rt (.long (ml g7 (mr g7 (mr g7 x0 17) 1) (ix (x5 - (4 : Int32))))) g7) ∧
(¬ x5.toInt < (8 : Int32).toInt →
kd g7 x0 = 12 ∧
kd g7 (mr g7 x0 17) = 11 ∧
kd g7 (mr g7 (mr g7 x0 17) 2) = 21 ∧
InB (x5 - (8 : Int32)) (ln g7 (mr g7 (mr g7 x0 17) 2)) ∧
Rt (.long (ml g7 (mr g7 (mr g7 x0 17) 2) (ix (x5 - (8 : Int32))))) g7)))))))))) : Sp k_Ho_amplitude [.ref x0, .int x1, .int x2, .int x3, .int x4, .int x5] h Rt := Sp_intro2 (by decide) (by decide +kernel) rfl (Nat.le_of_ble_eq_true rfl) (WM_at (hs := HH_Ho_amplitude) G_Ho_amplitude 54 0 rfl H)
set_option maxRecDepth 100000 in
set_option maxHeartbeats 4000000 in
theorem v_Ref_addCosine (x0 : Nat) (x1 : Int32) (x2 : Int32) (x3 : Int64) (h : MH) (Rt : Value → MH → Prop) (H :
((12 : Int32).toInt < x2.toInt →
((6 : Int32).toInt < ((24 : Int32) - x2).toInt →
WM k_Ref_addCosine p_Ref_addCosine_1 [.ref x0, .int x1, Jv, Jv, Jv, .int ((24 : Int32) - x2), Jv, Jv, Jv] [.long (-x3)] h 0 0 Rt) ∧
(¬ (6 : Int32).toInt < ((24 : Int32) - x2).toInt →
WM k_Ref_addCosine p_Ref_addCosine_1 [.ref x0, .int x1, Jv, Jv, Jv, .int ((24 : Int32) - x2), Jv, Jv, Jv] [.long x3] h 0 0 Rt)) ∧
(¬ (12 : Int32).toInt < x2.toInt →
((6 : Int32).toInt < x2.toInt →
WM k_Ref_addCosine p_Ref_addCosine_1 [.ref x0, .int x1, Jv, Jv, Jv, .int x2, Jv, Jv, Jv] [.long (-x3)] h 0 0 Rt) ∧
(¬ (6 : Int32).toInt < x2.toInt →
WM k_Ref_addCosine p_Ref_addCosine_1 [.ref x0, .int x1, Jv, Jv, Jv, .int x2, Jv, Jv, Jv] [.long x3] h 0 0 Rt))) : Sp k_Ref_addCosine [.ref x0, .int x1, .int x2, .long x3] h Rt := Sp_intro2 (by decide) (by decide +kernel) rfl (Nat.le_of_ble_eq_true rfl) (WM_at (hs := HH_Ref_addCosine) G_Ref_addCosine 128 0 rfl H)
set_option maxRecDepth 100000 in
set_option maxHeartbeats 4000000 in
theorem v_Ref_addCosine_1 (x0 : Nat) (x1 : Int32) (x5 : Int32) (s0 : Int64) (h : MH) (Rt : Value → MH → Prop) (H :
((6 : Int32).toInt < x5.toInt →
WM k_Ref_addCosine p_Ref_addCosine_2 [.ref x0, .int x1, Jv, Jv, Jv, Jv, .long s0, Jv, Jv] [.int ((12 : Int32) - x5)] h 0 0 Rt) ∧
(¬ (6 : Int32).toInt < x5.toInt →
WM k_Ref_addCosine p_Ref_addCosine_2 [.ref x0, .int x1, Jv, Jv, Jv, Jv, .long s0, Jv, Jv] [.int x5] h 0 0 Rt)) : WM k_Ref_addCosine p_Ref_addCosine_1 [.ref x0, .int x1, Jv, Jv, Jv, .int x5, Jv, Jv, Jv] [.long s0] h 0 0 Rt := WM_at (hs := HH_Ref_addCosine) G_Ref_addCosine 128 16 rfl H
set_option maxRecDepth 100000 in
set_option maxHeartbeats 4000000 in
theorem v_Ref_addCosine_2 (x0 : Nat) (x1 : Int32) (x6 : Int64) (s0 : Int32) (h : MH) (Rt : Value → MH → Prop) (H :
(s0 = (0 : Int32) →
kd h x0 = 13 ∧
kd h (mr h x0 46) = 21 ∧
InB x1 (ln h (mr h x0 46)) ∧
Rt .null (wl h (mr h x0 46) (ix x1) ((ml h (mr h x0 46) (ix x1)) + ((4 : Int64) * x6)))) ∧
(¬ s0 = (0 : Int32) →
(s0 = (1 : Int32) →
kd h x0 = 13 ∧
kd h (mr h x0 46) = 21 ∧
InB (x1 + (1 : Int32)) (ln h (mr h x0 46)) ∧
InB (x1 + (3 : Int32)) (ln h (mr h x0 46)) ∧
Rt .null (wl (wl h (mr h x0 46) (ix (x1 + (1 : Int32))) ((ml h (mr h x0 46) (ix (x1 + (1 : Int32)))) + x6)) (mr h x0 46) (ix (x1 + (3 : Int32))) ((ml (wl h (mr h x0 46) (ix (x1 + (1 : Int32))) ((ml h (mr h x0 46) (ix (x1 + (1 : Int32)))) + x6)) (mr h x0 46) (ix (x1 + (3 : Int32)))) + x6))) ∧
(¬ s0 = (1 : Int32) →
(s0 = (2 : Int32) →
kd h x0 = 13 ∧
kd h (mr h x0 46) = 21 ∧
InB (x1 + (2 : Int32)) (ln h (mr h x0 46)) ∧
Rt .null (wl h (mr h x0 46) (ix (x1 + (2 : Int32))) ((ml h (mr h x0 46) (ix (x1 + (2 : Int32)))) + ((2 : Int64) * x6)))) ∧
(¬ s0 = (2 : Int32) →
(s0 = (3 : Int32) →
kd h x0 = 13 ∧
kd h (mr h x0 46) = 21 ∧
InB (x1 + (1 : Int32)) (ln h (mr h x0 46)) ∧
Rt .null (wl h (mr h x0 46) (ix (x1 + (1 : Int32))) ((ml h (mr h x0 46) (ix (x1 + (1 : Int32)))) + ((2 : Int64) * x6)))) ∧
(¬ s0 = (3 : Int32) →
(s0 = (4 : Int32) →
kd h x0 = 13 ∧
kd h (mr h x0 46) = 21 ∧
InB x1 (ln h (mr h x0 46)) ∧
WM k_Ref_addCosine p_Ref_addCosine_3 [Jv, Jv, Jv, Jv, Jv, Jv, Jv, Jv, Jv] [] (wl h (mr h x0 46) (ix x1) ((ml h (mr h x0 46) (ix x1)) + ((2 : Int64) * x6))) 0 0 Rt) ∧
(¬ s0 = (4 : Int32) →
(s0 = (5 : Int32) →
kd h x0 = 13 ∧
kd h (mr h x0 46) = 21 ∧
InB (x1 + (1 : Int32)) (ln h (mr h x0 46)) ∧
InB (x1 + (3 : Int32)) (ln h (mr h x0 46)) ∧
Rt .null (wl (wl h (mr h x0 46) (ix (x1 + (1 : Int32))) ((ml h (mr h x0 46) (ix (x1 + (1 : Int32)))) - x6)) (mr h x0 46) (ix (x1 + (3 : Int32))) ((ml (wl h (mr h x0 46) (ix (x1 + (1 : Int32))) ((ml h (mr h x0 46) (ix (x1 + (1 : Int32)))) - x6)) (mr h x0 46) (ix (x1 + (3 : Int32)))) + x6))) ∧
(¬ s0 = (5 : Int32) →
kd h x0 = 13 ∧
kd h (mr h x0 46) = 21 ∧
InB x1 (ln h (mr h x0 46)) ∧
Rt .null (wl h (mr h x0 46) (ix x1) ((ml h (mr h x0 46) (ix x1)) + (0 : Int64)))))))))) : WM k_Ref_addCosine p_Ref_addCosine_2 [.ref x0, .int x1, Jv, Jv, Jv, Jv, .long x6, Jv, Jv] [.int s0] h 0 0 Rt := WM_at (hs := HH_Ref_addCosine) G_Ref_addCosine 128 25 rfl ⟨fun c24 => ⟨(H.1 c24).1, ⟨((H.1 c24).2).1, ⟨(((H.1 c24).2).2).1, ⟨((H.1 c24).2).1, ⟨(((H.1 c24).2).2).1, (((H.1 c24).2).2).2⟩⟩⟩⟩⟩, fun c24 => ⟨fun c25 => ⟨((H.2 c24).1 c25).1, ⟨(((H.2 c24).1 c25).2).1, ⟨((((H.2 c24).1 c25).2).2).1, ⟨(((H.2 c24).1 c25).2).1, ⟨((((H.2 c24).1 c25).2).2).1, ⟨((H.2 c24).1 c25).1, ⟨(((H.2 c24).1 c25).2).1, ⟨(((((H.2 c24).1 c25).2).2).2).1, ⟨(((H.2 c24).1 c25).2).1, ⟨(((((H.2 c24).1 c25).2).2).2).1, (((((H.2 c24).1 c25).2).2).2).2⟩⟩⟩⟩⟩⟩⟩⟩⟩⟩, fun c25 => ⟨fun c26 => ⟨(((H.2 c24).2 c25).1 c26).1, ⟨((((H.2 c24).2 c25).1 c26).2).1, ⟨(((((H.2 c24).2 c25).1 c26).2).2).1, ⟨((((H.2 c24).2 c25).1 c26).2).1, ⟨(((((H.2 c24).2 c25).1 c26).2).2).1, (((((H.2 c24).2 c25).1 c26).2).2).2⟩⟩⟩⟩⟩, fun c26 => ⟨fun c27 => ⟨((((H.2 c24).2 c25).2 c26).1 c27).1, ⟨(((((H.2 c24).2 c25).2 c26).1 c27).2).1, ⟨((((((H.2 c24).2 c25).2 c26).1 c27).2).2).1, ⟨(((((H.2 c24).2 c25).2 c26).1 c27).2).1, ⟨((((((H.2 c24).2 c25).2 c26).1 c27).2).2).1, ((((((H.2 c24).2 c25).2 c26).1 c27).2).2).2⟩⟩⟩⟩⟩, fun c27 => ⟨fun c28 => ⟨(((((H.2 c24).2 c25).2 c26).2 c27).1 c28).1, ⟨((((((H.2 c24).2 c25).2 c26).2 c27).1 c28).2).1, ⟨(((((((H.2 c24).2 c25).2 c26).2 c27).1 c28).2).2).1, ⟨((((((H.2 c24).2 c25).2 c26).2 c27).1 c28).2).1, ⟨(((((((H.2 c24).2 c25).2 c26).2 c27).1 c28).2).2).1, (((((((H.2 c24).2 c25).2 c26).2 c27).1 c28).2).2).2⟩⟩⟩⟩⟩, fun c28 => ⟨fun c29 => ⟨((((((H.2 c24).2 c25).2 c26).2 c27).2 c28).1 c29).1, ⟨(((((((H.2 c24).2 c25).2 c26).2 c27).2 c28).1 c29).2).1, ⟨((((((((H.2 c24).2 c25).2 c26).2 c27).2 c28).1 c29).2).2).1, ⟨(((((((H.2 c24).2 c25).2 c26).2 c27).2 c28).1 c29).2).1, ⟨((((((((H.2 c24).2 c25).2 c26).2 c27).2 c28).1 c29).2).2).1, ⟨((((((H.2 c24).2 c25).2 c26).2 c27).2 c28).1 c29).1, ⟨(((((((H.2 c24).2 c25).2 c26).2 c27).2 c28).1 c29).2).1, ⟨(((((((((H.2 c24).2 c25).2 c26).2 c27).2 c28).1 c29).2).2).2).1, ⟨(((((((H.2 c24).2 c25).2 c26).2 c27).2 c28).1 c29).2).1, ⟨(((((((((H.2 c24).2 c25).2 c26).2 c27).2 c28).1 c29).2).2).2).1, (((((((((H.2 c24).2 c25).2 c26).2 c27).2 c28).1 c29).2).2).2).2⟩⟩⟩⟩⟩⟩⟩⟩⟩⟩, fun c29 => ⟨((((((H.2 c24).2 c25).2 c26).2 c27).2 c28).2 c29).1, ⟨(((((((H.2 c24).2 c25).2 c26).2 c27).2 c28).2 c29).2).1, ⟨((((((((H.2 c24).2 c25).2 c26).2 c27).2 c28).2 c29).2).2).1, ⟨(((((((H.2 c24).2 c25).2 c26).2 c27).2 c28).2 c29).2).1, ⟨((((((((H.2 c24).2 c25).2 c26).2 c27).2 c28).2 c29).2).2).1, ((((((((H.2 c24).2 c25).2 c26).2 c27).2 c28).2 c29).2).2).2⟩⟩⟩⟩⟩⟩⟩⟩⟩⟩⟩
set_option maxRecDepth 100000 in
set_option maxHeartbeats 4000000 in
theorem v_Ref_addCosine_3  (h : MH) (Rt : Value → MH → Prop) (H :
Rt .null h) : WM k_Ref_addCosine p_Ref_addCosine_3 [Jv, Jv, Jv, Jv, Jv, Jv, Jv, Jv, Jv] [] h 0 0 Rt := WM_at (hs := HH_Ref_addCosine) G_Ref_addCosine 128 96 rfl H
set_option maxRecDepth 100000 in
set_option maxHeartbeats 4000000 in
theorem v_Ref_addSquare (x0 : Nat) (x1 : Int32) (h : MH) (Rt : Value → MH → Prop) (H :
kd h x0 = 13 ∧
kd h (mr h x0 46) = 21 ∧
InB x1 (ln h (mr h x0 46)) ∧
InB (x1 + (1 : Int32)) (ln h (mr h x0 46)) ∧
InB (x1 + (2 : Int32)) (ln h (mr h x0 46)) ∧
InB (x1 + (3 : Int32)) (ln h (mr h x0 46)) ∧
InB (8 : Int32) (ln h (mr h x0 46)) ∧
InB (9 : Int32) (ln h (mr h x0 46)) ∧
WM k_Ref_addSquare p_Ref_addSquare_1 [.ref x0, Jv, .long (ml h (mr h x0 46) (ix x1)), Jv, .long (ml h (mr h x0 46) (ix (x1 + (1 : Int32)))), Jv, .long (ml h (mr h x0 46) (ix (x1 + (2 : Int32)))), Jv, .long (ml h (mr h x0 46) (ix (x1 + (3 : Int32)))), Jv] [] (wl (wl h (mr h x0 46) (ix (8 : Int32)) ((ml h (mr h x0 46) (ix (8 : Int32))) + (((((ml h (mr h x0 46) (ix x1)) * (ml h (mr h x0 46) (ix x1))) + (((2 : Int64) * (ml h (mr h x0 46) (ix (x1 + (1 : Int32))))) * (ml h (mr h x0 46) (ix (x1 + (1 : Int32)))))) + (((3 : Int64) * (ml h (mr h x0 46) (ix (x1 + (2 : Int32))))) * (ml h (mr h x0 46) (ix (x1 + (2 : Int32)))))) + (((6 : Int64) * (ml h (mr h x0 46) (ix (x1 + (3 : Int32))))) * (ml h (mr h x0 46) (ix (x1 + (3 : Int32)))))))) (mr h x0 46) (ix (9 : Int32)) ((ml (wl h (mr h x0 46) (ix (8 : Int32)) ((ml h (mr h x0 46) (ix (8 : Int32))) + (((((ml h (mr h x0 46) (ix x1)) * (ml h (mr h x0 46) (ix x1))) + (((2 : Int64) * (ml h (mr h x0 46) (ix (x1 + (1 : Int32))))) * (ml h (mr h x0 46) (ix (x1 + (1 : Int32)))))) + (((3 : Int64) * (ml h (mr h x0 46) (ix (x1 + (2 : Int32))))) * (ml h (mr h x0 46) (ix (x1 + (2 : Int32)))))) + (((6 : Int64) * (ml h (mr h x0 46) (ix (x1 + (3 : Int32))))) * (ml h (mr h x0 46) (ix (x1 + (3 : Int32)))))))) (mr h x0 46) (ix (9 : Int32))) + ((((2 : Int64) * (ml h (mr h x0 46) (ix x1))) * (ml h (mr h x0 46) (ix (x1 + (1 : Int32))))) + (((6 : Int64) * (ml h (mr h x0 46) (ix (x1 + (2 : Int32))))) * (ml h (mr h x0 46) (ix (x1 + (3 : Int32)))))))) 0 0 Rt) : Sp k_Ref_addSquare [.ref x0, .int x1] h Rt := Sp_intro2 (by decide) (by decide +kernel) rfl (Nat.le_of_ble_eq_true rfl) (WM_at (hs := HH_Ref_addSquare) G_Ref_addSquare 110 0 rfl ⟨H.1, ⟨H.2.1, ⟨H.2.2.1, ⟨H.1, ⟨H.2.1, ⟨H.2.2.2.1, ⟨H.1, ⟨H.2.1, ⟨H.2.2.2.2.1, ⟨H.1, ⟨H.2.1, ⟨H.2.2.2.2.2.1, ⟨H.1, ⟨H.2.1, ⟨H.2.2.2.2.2.2.1, ⟨H.2.1, ⟨H.2.2.2.2.2.2.1, ⟨H.1, ⟨H.2.1, ⟨H.2.2.2.2.2.2.2.1, ⟨H.2.1, ⟨H.2.2.2.2.2.2.2.1, H.2.2.2.2.2.2.2.2⟩⟩⟩⟩⟩⟩⟩⟩⟩⟩⟩⟩⟩⟩⟩⟩⟩⟩⟩⟩⟩⟩)
set_option maxRecDepth 100000 in
set_option maxHeartbeats 4000000 in
theorem v_Ref_addSquare_1 (x0 : Nat) (x2 : Int64) (x4 : Int64) (x6 : Int64) (x8 : Int64) (h : MH) (Rt : Value → MH → Prop) (H :
kd h x0 = 13 ∧
kd h (mr h x0 46) = 21 ∧
InB (10 : Int32) (ln h (mr h x0 46)) ∧
InB (11 : Int32) (ln h (mr h x0 46)) ∧
Rt .null (wl (wl h (mr h x0 46) (ix (10 : Int32)) ((ml h (mr h x0 46) (ix (10 : Int32))) + ((((2 : Int64) * x2) * x6) + (((4 : Int64) * x4) * x8)))) (mr h x0 46) (ix (11 : Int32)) ((ml (wl h (mr h x0 46) (ix (10 : Int32)) ((ml h (mr h x0 46) (ix (10 : Int32))) + ((((2 : Int64) * x2) * x6) + (((4 : Int64) * x4) * x8)))) (mr h x0 46) (ix (11 : Int32))) + ((((2 : Int64) * x2) * x8) + (((2 : Int64) * x4) * x6))))) : WM k_Ref_addSquare p_Ref_addSquare_1 [.ref x0, Jv, .long x2, Jv, .long x4, Jv, .long x6, Jv, .long x8, Jv] [] h 0 0 Rt := WM_at (hs := HH_Ref_addSquare) G_Ref_addSquare 110 72 rfl ⟨H.1, ⟨H.2.1, ⟨H.2.2.1, ⟨H.2.1, ⟨H.2.2.1, ⟨H.1, ⟨H.2.1, ⟨H.2.2.2.1, ⟨H.2.1, ⟨H.2.2.2.1, H.2.2.2.2⟩⟩⟩⟩⟩⟩⟩⟩⟩⟩
set_option maxRecDepth 100000 in
set_option maxHeartbeats 4000000 in
theorem v_Ref_waveOf (x0 : Nat) (x1 : Int32) (x2 : Int32) (x3 : Int32) (x4 : Int32) (h : MH) (Rt : Value → MH → Prop) (H :
WM k_Ref_waveOf p_Ref_waveOf_1 [.ref x0, .int x1, .int x2, .int x3, .int x4, .int (0 : Int32), Jv, Jv] [] h 0 0 Rt) : Sp k_Ref_waveOf [.ref x0, .int x1, .int x2, .int x3, .int x4] h Rt := Sp_intro2 (by decide) (by decide +kernel) rfl (Nat.le_of_ble_eq_true rfl) (WM_at (hs := HH_Ref_waveOf) G_Ref_waveOf 95 0 rfl H)
set_option maxRecDepth 100000 in
set_option maxHeartbeats 4000000 in
theorem v_Ref_waveOf_1 (x0 : Nat) (x1 : Int32) (x2 : Int32) (x3 : Int32) (x4 : Int32) (x5 : Int32) (h : MH) (Rt : Value → MH → Prop) (H :
(x5.toInt < (12 : Int32).toInt →
kd h x0 = 13 ∧
kd h (mr h x0 46) = 21 ∧
InB x5 (ln h (mr h x0 46)) ∧
WM k_Ref_waveOf p_Ref_waveOf_1 [.ref x0, .int x1, .int x2, .int x3, .int x4, .int (x5 + (1 : Int32)), Jv, Jv] [] (wl h (mr h x0 46) (ix x5) (0 : Int64)) 0 0 Rt) ∧
(¬ x5.toInt < (12 : Int32).toInt →
WM k_Ref_waveOf p_Ref_waveOf_2 [.ref x0, .int x1, .int x2, .int x3, .int x4, .int (0 : Int32), Jv, Jv] [] h 0 0 Rt)) : WM k_Ref_waveOf p_Ref_waveOf_1 [.ref x0, .int x1, .int x2, .int x3, .int x4, .int x5, Jv, Jv] [] h 0 0 Rt := WM_at (hs := HH_Ref_waveOf) G_Ref_waveOf 95 2 rfl H
set_option maxRecDepth 100000 in
set_option maxHeartbeats 4000000 in
theorem v_Ref_waveOf_2 (x0 : Nat) (x1 : Int32) (x2 : Int32) (x3 : Int32) (x4 : Int32) (x5 : Int32) (h : MH) (Rt : Value → MH → Prop) (H :
kd h x0 = 13 ∧
kd h (mr h x0 41) = 20 ∧
InB x1 (ln h (mr h x0 41)) ∧
(x5.toInt < (mi h (mr h x0 41) (ix x1)).toInt →
kd h (mr h x0 42) = 20 ∧
InB (((300 : Int32) * x1) + x5) (ln h (mr h x0 42)) ∧
kd h (mr h x0 43) = 20 ∧
InB (((300 : Int32) * x1) + x5) (ln h (mr h x0 43)) ∧
SpV k_Ref_addCosine [.ref x0, .int (0 : Int32), .int (irm ((irm (((x2 * ((mi h (mr h x0 42) (ix (((300 : Int32) * x1) + x5))) / (576 : Int32))) + (x3 * (irm ((mi h (mr h x0 42) (ix (((300 : Int32) * x1) + x5))) / (24 : Int32)) (24 : Int32)))) + (x4 * (irm (mi h (mr h x0 42) (ix (((300 : Int32) * x1) + x5))) (24 : Int32)))) (24 : Int32)) + (24 : Int32)) (24 : Int32)), .long ((mi h (mr h x0 43) (ix (((300 : Int32) * x1) + x5))).toInt64)] h (fun g11 =>
kd g11 x0 = 13 ∧
kd g11 (mr g11 x0 43) = 20 ∧
InB (((300 : Int32) * x1) + x5) (ln g11 (mr g11 x0 43)) ∧
SpV k_Ref_addCosine [.ref x0, .int (4 : Int32), .int (irm ((irm ((irm (((x2 * ((mi h (mr h x0 42) (ix (((300 : Int32) * x1) + x5))) / (576 : Int32))) + (x3 * (irm ((mi h (mr h x0 42) (ix (((300 : Int32) * x1) + x5))) / (24 : Int32)) (24 : Int32)))) + (x4 * (irm (mi h (mr h x0 42) (ix (((300 : Int32) * x1) + x5))) (24 : Int32)))) (24 : Int32)) + (24 : Int32)) (24 : Int32)) + (18 : Int32)) (24 : Int32)), .long ((mi g11 (mr g11 x0 43) (ix (((300 : Int32) * x1) + x5))).toInt64)] g11 (fun g15 =>
WM k_Ref_waveOf p_Ref_waveOf_3 [.ref x0, .int x1, .int x2, .int x3, .int x4, .int x5, Jv, Jv] [] g15 0 0 Rt))) ∧
(¬ x5.toInt < (mi h (mr h x0 41) (ix x1)).toInt →
SpV k_Ref_addSquare [.ref x0, .int (0 : Int32)] h (fun g4 =>
kd g4 x0 = 13 ∧
SpV k_Ref_addSquare [.ref x0, .int (4 : Int32)] g4 (fun g5 =>
Rt .null g5)))) : WM k_Ref_waveOf p_Ref_waveOf_2 [.ref x0, .int x1, .int x2, .int x3, .int x4, .int x5, Jv, Jv] [] h 0 0 Rt := WM_at (hs := HH_Ref_waveOf) G_Ref_waveOf 95 14 rfl ⟨H.1, ⟨H.2.1, ⟨H.2.2.1, ⟨fun c16 => ⟨H.1, ⟨(H.2.2.2.1 c16).1, ⟨((H.2.2.2.1 c16).2).1, ⟨(by decide), ⟨(by decide), ⟨(by decide), ⟨(by decide), ⟨(by decide), ⟨(by decide), ⟨H.1, ⟨(((H.2.2.2.1 c16).2).2).1, ⟨((((H.2.2.2.1 c16).2).2).2).1, ⟨H.1, SpV.mono (((((H.2.2.2.1 c16).2).2).2).2) (fun g11 qg11 => ⟨(by decide), ⟨qg11.1, ⟨qg11.2.1, ⟨qg11.2.2.1, ⟨qg11.1, qg11.2.2.2⟩⟩⟩⟩⟩)⟩⟩⟩⟩⟩⟩⟩⟩⟩⟩⟩⟩⟩, fun c16 => ⟨H.1, (H.2.2.2.2 c16)⟩⟩⟩⟩⟩
set_option maxRecDepth 100000 in
set_option maxHeartbeats 4000000 in
theorem v_Ref_waveOf_3 (x0 : Nat) (x1 : Int32) (x2 : Int32) (x3 : Int32) (x4 : Int32) (x5 : Int32) (h : MH) (Rt : Value → MH → Prop) (H :
WM k_Ref_waveOf p_Ref_waveOf_2 [.ref x0, .int x1, .int x2, .int x3, .int x4, .int (x5 + (1 : Int32)), Jv, Jv] [] h 0 0 Rt) : WM k_Ref_waveOf p_Ref_waveOf_3 [.ref x0, .int x1, .int x2, .int x3, .int x4, .int x5, Jv, Jv] [] h 0 0 Rt := WM_at (hs := HH_Ref_waveOf) G_Ref_waveOf 95 85 rfl H
set_option maxRecDepth 100000 in
set_option maxHeartbeats 4000000 in
theorem v_Ref_amplitude (x0 : Nat) (x1 : Int32) (x2 : Int32) (x3 : Int32) (x4 : Int32) (x5 : Int32) (h : MH) (Rt : Value → MH → Prop) (H :
kd h x0 = 13 ∧
SpI k_Ref_isModel [.ref x0, .int x1] h (fun r3 g1 =>
(r3 = 0 →
Rt (.long (0 : Int64)) g1) ∧
(¬ r3 = 0 →
SpI k_Ref_isWave [.int x2, .int x3, .int x4] g1 (fun r5 g4 =>
(r5 = 0 →
Rt (.long (0 : Int64)) g4) ∧
(¬ r5 = 0 →
(x5.toInt < 0 →
Rt (.long (0 : Int64)) g4) ∧
(¬ x5.toInt < 0 →
((11 : Int32).toInt < x5.toInt →
Rt (.long (0 : Int64)) g4) ∧
(¬ (11 : Int32).toInt < x5.toInt →
kd g4 x0 = 13 ∧
SpV k_Ref_waveOf [.ref x0, .int x1, .int x2, .int x3, .int x4] g4 (fun g6 =>
kd g6 x0 = 13 ∧
kd g6 (mr g6 x0 46) = 21 ∧
InB x5 (ln g6 (mr g6 x0 46)) ∧
Rt (.long (ml g6 (mr g6 x0 46) (ix x5))) g6)))))))) : Sp k_Ref_amplitude [.ref x0, .int x1, .int x2, .int x3, .int x4, .int x5] h Rt := Sp_intro2 (by decide) (by decide +kernel) rfl (Nat.le_of_ble_eq_true rfl) (WM_at (hs := HH_Ref_amplitude) G_Ref_amplitude 28 0 rfl H)
set_option maxRecDepth 100000 in
set_option maxHeartbeats 4000000 in
theorem v_Model_isSelf (x0 : Nat) (x1 : Int32) (x2 : Int32) (x3 : Int32) (h : MH) (Rt : Value → MH → Prop) (H :
(x1 = x2 →
(x3 = (13 : Int32) →
Rt (.int (1 : Int32)) h) ∧
(¬ x3 = (13 : Int32) →
Rt (.int (0 : Int32)) h)) ∧
(¬ x1 = x2 →
Rt (.int (0 : Int32)) h)) : Sp k_Model_isSelf [.ref x0, .int x1, .int x2, .int x3] h Rt := Sp_intro2 (by decide) (by decide +kernel) rfl (Nat.le_of_ble_eq_true rfl) (WM_at (hs := HH_Model_isSelf) G_Model_isSelf 11 0 rfl ⟨fun c1 => ⟨fun c2 => ⟨(Or.inr rfl), ((H.1 c1).1 c2)⟩, fun c2 => ⟨(Or.inl rfl), ((H.1 c1).2 c2)⟩⟩, fun c1 => ⟨(Or.inl rfl), (H.2 c1)⟩⟩)
set_option maxRecDepth 100000 in
set_option maxHeartbeats 4000000 in
theorem v_Model_squareBetween (x0 : Nat) (x1 : Int32) (x2 : Int32) (x3 : Int32) (h : MH) (Rt : Value → MH → Prop) (H :
kd h x0 = 6 ∧
kd h (mr h x0 2) = 20 ∧
InB ((3 : Int32) * x2) (ln h (mr h x0 2)) ∧
InB ((3 : Int32) * x1) (ln h (mr h x0 2)) ∧
SpI k_Ho_part [.int x3, .int (9 : Int32)] h (fun r6 g5 =>
kd g5 x0 = 6 ∧
kd g5 (mr g5 x0 2) = 20 ∧
InB (((3 : Int32) * x2) + (1 : Int32)) (ln g5 (mr g5 x0 2)) ∧
InB (((3 : Int32) * x1) + (1 : Int32)) (ln g5 (mr g5 x0 2)) ∧
SpI k_Ho_part [.int x3, .int (3 : Int32)] g5 (fun r12 g11 =>
kd g11 x0 = 6 ∧
kd g11 (mr g11 x0 2) = 20 ∧
InB (((3 : Int32) * x2) + (2 : Int32)) (ln g11 (mr g11 x0 2)) ∧
InB (((3 : Int32) * x1) + (2 : Int32)) (ln g11 (mr g11 x0 2)) ∧
SpI k_Ho_part [.int x3, .int (1 : Int32)] g11 (fun r18 g17 =>
kd g17 (mr h x0 1) = 3 ∧
SpL k_Form_square [.ref (mr h x0 1), .long ((((mi h (mr h x0 2) (ix ((3 : Int32) * x2))) - (mi h (mr h x0 2) (ix ((3 : Int32) * x1)))) + ((24 : Int32) * r6)).toInt64), .long ((((mi g5 (mr g5 x0 2) (ix (((3 : Int32) * x2) + (1 : Int32)))) - (mi g5 (mr g5 x0 2) (ix (((3 : Int32) * x1) + (1 : Int32))))) + ((24 : Int32) * r12)).toInt64), .long ((((mi g11 (mr g11 x0 2) (ix (((3 : Int32) * x2) + (2 : Int32)))) - (mi g11 (mr g11 x0 2) (ix (((3 : Int32) * x1) + (2 : Int32))))) + ((24 : Int32) * r18)).toInt64)] g17 (fun r21 g19 =>
Rt (.long r21) g19))))) : Sp k_Model_squareBetween [.ref x0, .int x1, .int x2, .int x3] h Rt := Sp_intro2 (by decide) (by decide +kernel) rfl (Nat.le_of_ble_eq_true rfl) (WM_at (hs := HH_Model_squareBetween) G_Model_squareBetween 73 0 rfl ⟨H.1, ⟨H.1, ⟨H.2.1, ⟨H.2.2.1, ⟨H.1, ⟨H.2.1, ⟨H.2.2.2.1, SpI.mono H.2.2.2.2 (fun r6 g5 qg5 => ⟨qg5.1, ⟨qg5.2.1, ⟨qg5.2.2.1, ⟨qg5.1, ⟨qg5.2.1, ⟨qg5.2.2.2.1, SpI.mono qg5.2.2.2.2 (fun r12 g11 qg11 => ⟨qg11.1, ⟨qg11.2.1, ⟨qg11.2.2.1, ⟨qg11.1, ⟨qg11.2.1, qg11.2.2.2⟩⟩⟩⟩⟩)⟩⟩⟩⟩⟩⟩)⟩⟩⟩⟩⟩⟩⟩)
set_option maxRecDepth 100000 in
set_option maxHeartbeats 4000000 in
theorem v_Math_minJJJ (x0 : Int64) (x2 : Int64) (h : MH) (Rt : Value → MH → Prop) (H :
(0 < (lg_cmp x0 x2).toInt →
Rt (.long x2) h) ∧
(¬ 0 < (lg_cmp x0 x2).toInt →
Rt (.long x0) h)) : Sp k_Math_minJJJ [.long x0, .long x2] h Rt := Sp_intro2 (by decide) (by decide +kernel) rfl (Nat.le_of_ble_eq_true rfl) (WM_at (hs := HH_Math_minJJJ) G_Math_minJJJ 9 0 rfl H)
set_option maxRecDepth 100000 in
set_option maxHeartbeats 4000000 in
theorem v_Model_leastBetween (x0 : Nat) (x1 : Int32) (x2 : Int32) (h : MH) (Rt : Value → MH → Prop) (H :
WM k_Model_leastBetween p_Model_leastBetween_1 [.ref x0, .int x1, .int x2, .long (9223372036854775807 : Int64), Jv, .int (0 : Int32)] [] h 0 0 Rt) : Sp k_Model_leastBetween [.ref x0, .int x1, .int x2] h Rt := Sp_intro2 (by decide) (by decide +kernel) rfl (Nat.le_of_ble_eq_true rfl) (WM_at (hs := HH_Model_leastBetween) G_Model_leastBetween 26 0 rfl H)
set_option maxRecDepth 100000 in
set_option maxHeartbeats 4000000 in
theorem v_Model_leastBetween_1 (x0 : Nat) (x1 : Int32) (x2 : Int32) (x3 : Int64) (x5 : Int32) (h : MH) (Rt : Value → MH → Prop) (H :
(x5.toInt < (27 : Int32).toInt →
kd h x0 = 6 ∧
SpI k_Model_isSelf [.ref x0, .int x1, .int x2, .int x5] h (fun r3 g1 =>
(r3 = 0 →
kd g1 x0 = 6 ∧
SpL k_Model_squareBetween [.ref x0, .int x1, .int x2, .int x5] g1 (fun r6 g4 =>
SpL k_Math_minJJJ [.long x3, .long r6] g4 (fun r8 g7 =>
WM k_Model_leastBetween p_Model_leastBetween_1 [.ref x0, .int x1, .int x2, .long r8, Jv, .int (x5 + (1 : Int32))] [] g7 0 0 Rt))) ∧
(¬ r3 = 0 →
WM k_Model_leastBetween p_Model_leastBetween_1 [.ref x0, .int x1, .int x2, .long x3, Jv, .int (x5 + (1 : Int32))] [] g1 0 0 Rt))) ∧
(¬ x5.toInt < (27 : Int32).toInt →
Rt (.long x3) h)) : WM k_Model_leastBetween p_Model_leastBetween_1 [.ref x0, .int x1, .int x2, .long x3, Jv, .int x5] [] h 0 0 Rt := WM_at (hs := HH_Model_leastBetween) G_Model_leastBetween 26 4 rfl H
set_option maxRecDepth 100000 in
set_option maxHeartbeats 4000000 in
theorem v_Ho_distance (x0 : Nat) (x1 : Int32) (x2 : Int32) (x3 : Int32) (h : MH) (Rt : Value → MH → Prop) (H :
kd h x0 = 12 ∧
SpR k_Ho_modelAt [.ref x0, .int x1] h (fun r3 g1 =>
(r3 = 0 →
Rt (.long (0 : Int64)) g1) ∧
(¬ r3 = 0 →
kd g1 r3 = 6 ∧
SpI k_Model_holds [.ref r3, .int x2] g1 (fun r6 g4 =>
(r6 = 0 →
Rt (.long (0 : Int64)) g4) ∧
(¬ r6 = 0 →
kd g4 r3 = 6 ∧
SpI k_Model_holds [.ref r3, .int x3] g4 (fun r9 g7 =>
(r9 = 0 →
Rt (.long (0 : Int64)) g7) ∧
(¬ r9 = 0 →
kd g7 r3 = 6 ∧
SpL k_Model_leastBetween [.ref r3, .int x2, .int x3] g7 (fun r12 g10 =>
Rt (.long r12) g10)))))))) : Sp k_Ho_distance [.ref x0, .int x1, .int x2, .int x3] h Rt := Sp_intro2 (by decide) (by decide +kernel) rfl (Nat.le_of_ble_eq_true rfl) (WM_at (hs := HH_Ho_distance) G_Ho_distance 22 0 rfl H)
set_option maxRecDepth 100000 in
set_option maxHeartbeats 4000000 in
theorem v_Ref_apart (x0 : Nat) (x1 : Int32) (x2 : Int32) (x3 : Int32) (x4 : Int32) (h : MH) (Rt : Value → MH → Prop) (H :
kd h x0 = 13 ∧
kd h (mr h x0 42) = 20 ∧
InB (((300 : Int32) * x1) + x2) (ln h (mr h x0 42)) ∧
InB (((300 : Int32) * x1) + x3) (ln h (mr h x0 42)) ∧
WM k_Ref_apart p_Ref_apart_1 [.ref x0, .int x1, Jv, Jv, Jv, Jv, Jv, .long (((((mi h (mr h x0 42) (ix (((300 : Int32) * x1) + x3))) / (576 : Int32)) - ((mi h (mr h x0 42) (ix (((300 : Int32) * x1) + x2))) / (576 : Int32))) + ((24 : Int32) * ((x4 / (9 : Int32)) - (1 : Int32)))).toInt64), Jv, .long ((((irm ((mi h (mr h x0 42) (ix (((300 : Int32) * x1) + x3))) / (24 : Int32)) (24 : Int32)) - (irm ((mi h (mr h x0 42) (ix (((300 : Int32) * x1) + x2))) / (24 : Int32)) (24 : Int32))) + ((24 : Int32) * ((irm (x4 / (3 : Int32)) (3 : Int32)) - (1 : Int32)))).toInt64), Jv, .long ((((irm (mi h (mr h x0 42) (ix (((300 : Int32) * x1) + x3))) (24 : Int32)) - (irm (mi h (mr h x0 42) (ix (((300 : Int32) * x1) + x2))) (24 : Int32))) + ((24 : Int32) * ((irm x4 (3 : Int32)) - (1 : Int32)))).toInt64), Jv] [] h 0 0 Rt) : Sp k_Ref_apart [.ref x0, .int x1, .int x2, .int x3, .int x4] h Rt := Sp_intro2 (by decide) (by decide +kernel) rfl (Nat.le_of_ble_eq_true rfl) (WM_at (hs := HH_Ref_apart) G_Ref_apart 92 0 rfl ⟨H.1, ⟨H.2.1, ⟨H.2.2.1, ⟨H.1, ⟨H.2.1, ⟨H.2.2.2.1, ⟨(by decide), ⟨(by decide), ⟨(by decide), ⟨(by decide), ⟨(by decide), ⟨(by decide), ⟨(by decide), ⟨(by decide), ⟨(by decide), ⟨(by decide), ⟨(by decide), ⟨(by decide), H.2.2.2.2⟩⟩⟩⟩⟩⟩⟩⟩⟩⟩⟩⟩⟩⟩⟩⟩⟩⟩)
set_option maxRecDepth 100000 in
set_option maxHeartbeats 4000000 in
theorem v_Ref_apart_1 (x0 : Nat) (x1 : Int32) (x7 : Int64) (x9 : Int64) (x11 : Int64) (h : MH) (Rt : Value → MH → Prop) (H :
kd h x0 = 13 ∧
kd h (mr h x0 39) = 20 ∧
InB x1 (ln h (mr h x0 39)) ∧
SpL k_Ref_dot [.ref (mr h x0 29), .int ((6 : Int32) * (mi h (mr h x0 39) (ix x1))), .long x7, .long x9, .long x11, .long x7, .long x9, .long x11] h (fun r5 g4 =>
Rt (.long r5) g4)) : WM k_Ref_apart p_Ref_apart_1 [.ref x0, .int x1, Jv, Jv, Jv, Jv, Jv, .long x7, Jv, .long x9, Jv, .long x11, Jv] [] h 0 0 Rt := WM_at (hs := HH_Ref_apart) G_Ref_apart 92 75 rfl ⟨H.1, ⟨H.1, H.2⟩⟩
set_option maxRecDepth 100000 in
set_option maxHeartbeats 4000000 in
theorem v_Ref_distance (x0 : Nat) (x1 : Int32) (x2 : Int32) (x3 : Int32) (h : MH) (Rt : Value → MH → Prop) (H :
kd h x0 = 13 ∧
SpI k_Ref_isPlaced [.ref x0, .int x1, .int x2] h (fun r3 g1 =>
(r3 = 0 →
Rt (.long (0 : Int64)) g1) ∧
(¬ r3 = 0 →
kd g1 x0 = 13 ∧
SpI k_Ref_isPlaced [.ref x0, .int x1, .int x3] g1 (fun r6 g4 =>
(r6 = 0 →
Rt (.long (0 : Int64)) g4) ∧
(¬ r6 = 0 →
WM k_Ref_distance p_Ref_distance_1 [.ref x0, .int x1, .int x2, .int x3, .long (-1 : Int64), Jv, .int (0 : Int32), Jv, Jv] [] g4 0 0 Rt))))) : Sp k_Ref_distance [.ref x0, .int x1, .int x2, .int x3] h Rt := Sp_intro2 (by decide) (by decide +kernel) rfl (Nat.le_of_ble_eq_true rfl) (WM_at (hs := HH_Ref_distance) G_Ref_distance 48 0 rfl H)
set_option maxRecDepth 100000 in
set_option maxHeartbeats 4000000 in
theorem v_Ref_distance_1 (x0 : Nat) (x1 : Int32) (x2 : Int32) (x3 : Int32) (x4 : Int64) (x6 : Int32) (h : MH) (Rt : Value → MH → Prop) (H :
(x6.toInt < (27 : Int32).toInt →
(x2 = x3 →
(x6 = (13 : Int32) →
WM k_Ref_distance p_Ref_distance_1 [.ref x0, .int x1, .int x2, .int x3, .long x4, Jv, .int (x6 + (1 : Int32)), Jv, Jv] [] h 0 0 Rt) ∧
(¬ x6 = (13 : Int32) →
WM k_Ref_distance p_Ref_distance_2 [.ref x0, .int x1, .int x2, .int x3, .long x4, Jv, .int x6, Jv, Jv] [] h 0 0 Rt)) ∧
(¬ x2 = x3 →
WM k_Ref_distance p_Ref_distance_2 [.ref x0, .int x1, .int x2, .int x3, .long x4, Jv, .int x6, Jv, Jv] [] h 0 0 Rt)) ∧
(¬ x6.toInt < (27 : Int32).toInt →
Rt (.long x4) h)) : WM k_Ref_distance p_Ref_distance_1 [.ref x0, .int x1, .int x2, .int x3, .long x4, Jv, .int x6, Jv, Jv] [] h 0 0 Rt := WM_at (hs := HH_Ref_distance) G_Ref_distance 48 16 rfl H
set_option maxRecDepth 100000 in
set_option maxHeartbeats 4000000 in
theorem v_Ref_distance_2 (x0 : Nat) (x1 : Int32) (x2 : Int32) (x3 : Int32) (x4 : Int64) (x6 : Int32) (h : MH) (Rt : Value → MH → Prop) (H :
kd h x0 = 13 ∧
SpL k_Ref_apart [.ref x0, .int x1, .int x2, .int x3, .int x6] h (fun r3 g1 =>
((lg_cmp x4 (0 : Int64)).toInt < 0 →
WM k_Ref_distance p_Ref_distance_1 [.ref x0, .int x1, .int x2, .int x3, .long r3, Jv, .int (x6 + (1 : Int32)), Jv, Jv] [] g1 0 0 Rt) ∧
(¬ (lg_cmp x4 (0 : Int64)).toInt < 0 →
((lg_cmp r3 x4).toInt < 0 →
WM k_Ref_distance p_Ref_distance_1 [.ref x0, .int x1, .int x2, .int x3, .long r3, Jv, .int (x6 + (1 : Int32)), Jv, Jv] [] g1 0 0 Rt) ∧
(¬ (lg_cmp r3 x4).toInt < 0 →
WM k_Ref_distance p_Ref_distance_1 [.ref x0, .int x1, .int x2, .int x3, .long x4, Jv, .int (x6 + (1 : Int32)), Jv, Jv] [] g1 0 0 Rt)))) : WM k_Ref_distance p_Ref_distance_2 [.ref x0, .int x1, .int x2, .int x3, .long x4, Jv, .int x6, Jv, Jv] [] h 0 0 Rt := WM_at (hs := HH_Ref_distance) G_Ref_distance 48 26 rfl H
set_option maxRecDepth 100000 in
set_option maxHeartbeats 4000000 in
theorem v_Model_countAround (x0 : Nat) (x1 : Int32) (x2 : Int64) (h : MH) (Rt : Value → MH → Prop) (H :
WM k_Model_countAround p_Model_countAround_1 [.ref x0, .int x1, .long x2, Jv, .int (0 : Int32), .int (0 : Int32), Jv] [] h 0 0 Rt) : Sp k_Model_countAround [.ref x0, .int x1, .long x2] h Rt := Sp_intro2 (by decide) (by decide +kernel) rfl (Nat.le_of_ble_eq_true rfl) (WM_at (hs := HH_Model_countAround) G_Model_countAround 35 0 rfl H)
set_option maxRecDepth 100000 in
set_option maxHeartbeats 4000000 in
theorem v_Model_countAround_1 (x0 : Nat) (x1 : Int32) (x2 : Int64) (x4 : Int32) (x5 : Int32) (h : MH) (Rt : Value → MH → Prop) (H :
kd h x0 = 6 ∧
(x5.toInt < (mi h x0 4).toInt →
WM k_Model_countAround p_Model_countAround_2 [.ref x0, .int x1, .long x2, Jv, .int x4, .int x5, .int (0 : Int32)] [] h 0 0 Rt) ∧
(¬ x5.toInt < (mi h x0 4).toInt →
Rt (.int x4) h)) : WM k_Model_countAround p_Model_countAround_1 [.ref x0, .int x1, .long x2, Jv, .int x4, .int x5, Jv] [] h 0 0 Rt := WM_at (hs := HH_Model_countAround) G_Model_countAround 35 4 rfl H
set_option maxRecDepth 100000 in
set_option maxHeartbeats 4000000 in
theorem v_Model_countAround_2 (x0 : Nat) (x1 : Int32) (x2 : Int64) (x4 : Int32) (x5 : Int32) (x6 : Int32) (h : MH) (Rt : Value → MH → Prop) (H :
(x6.toInt < (27 : Int32).toInt →
kd h x0 = 6 ∧
SpI k_Model_isSelf [.ref x0, .int x1, .int x5, .int x6] h (fun r3 g1 =>
(r3 = 0 →
kd g1 x0 = 6 ∧
SpL k_Model_squareBetween [.ref x0, .int x1, .int x5, .int x6] g1 (fun r6 g4 =>
(0 < (lg_cmp r6 x2).toInt →
WM k_Model_countAround p_Model_countAround_2 [.ref x0, .int x1, .long x2, Jv, .int x4, .int x5, .int (x6 + (1 : Int32))] [] g4 0 0 Rt) ∧
(¬ 0 < (lg_cmp r6 x2).toInt →
WM k_Model_countAround p_Model_countAround_2 [.ref x0, .int x1, .long x2, Jv, .int (x4 + (1 : Int32)), .int x5, .int (x6 + (1 : Int32))] [] g4 0 0 Rt))) ∧
(¬ r3 = 0 →
WM k_Model_countAround p_Model_countAround_2 [.ref x0, .int x1, .long x2, Jv, .int x4, .int x5, .int (x6 + (1 : Int32))] [] g1 0 0 Rt))) ∧
(¬ x6.toInt < (27 : Int32).toInt →
WM k_Model_countAround p_Model_countAround_1 [.ref x0, .int x1, .long x2, Jv, .int x4, .int (x5 + (1 : Int32)), Jv] [] h 0 0 Rt)) : WM k_Model_countAround p_Model_countAround_2 [.ref x0, .int x1, .long x2, Jv, .int x4, .int x5, .int x6] [] h 0 0 Rt := WM_at (hs := HH_Model_countAround) G_Model_countAround 35 10 rfl H
set_option maxRecDepth 100000 in
set_option maxHeartbeats 4000000 in
theorem v_Ho_near (x0 : Nat) (x1 : Int32) (x2 : Int32) (x3 : Int64) (h : MH) (Rt : Value → MH → Prop) (H :
kd h x0 = 12 ∧
SpR k_Ho_modelAt [.ref x0, .int x1] h (fun r3 g1 =>
(r3 = 0 →
Rt (.int (-1 : Int32)) g1) ∧
(¬ r3 = 0 →
kd g1 r3 = 6 ∧
SpI k_Model_holds [.ref r3, .int x2] g1 (fun r6 g4 =>
(r6 = 0 →
Rt (.int (-1 : Int32)) g4) ∧
(¬ r6 = 0 →
kd g4 r3 = 6 ∧
SpI k_Model_countAround [.ref r3, .int x2, .long x3] g4 (fun r9 g7 =>
Rt (.int r9) g7)))))) : Sp k_Ho_near [.ref x0, .int x1, .int x2, .long x3] h Rt := Sp_intro2 (by decide) (by decide +kernel) rfl (Nat.le_of_ble_eq_true rfl) (WM_at (hs := HH_Ho_near) G_Ho_near 18 0 rfl H)
set_option maxRecDepth 100000 in
set_option maxHeartbeats 4000000 in
theorem v_Ref_near (x0 : Nat) (x1 : Int32) (x2 : Int32) (x3 : Int64) (h : MH) (Rt : Value → MH → Prop) (H :
kd h x0 = 13 ∧
SpI k_Ref_isPlaced [.ref x0, .int x1, .int x2] h (fun r3 g1 =>
(r3 = 0 →
Rt (.int (-1 : Int32)) g1) ∧
(¬ r3 = 0 →
WM k_Ref_near p_Ref_near_1 [.ref x0, .int x1, .int x2, .long x3, Jv, .int (0 : Int32), .int (0 : Int32), Jv] [] g1 0 0 Rt))) : Sp k_Ref_near [.ref x0, .int x1, .int x2, .long x3] h Rt := Sp_intro2 (by decide) (by decide +kernel) rfl (Nat.le_of_ble_eq_true rfl) (WM_at (hs := HH_Ref_near) G_Ref_near 45 0 rfl H)
set_option maxRecDepth 100000 in
set_option maxHeartbeats 4000000 in
theorem v_Ref_near_1 (x0 : Nat) (x1 : Int32) (x2 : Int32) (x3 : Int64) (x5 : Int32) (x6 : Int32) (h : MH) (Rt : Value → MH → Prop) (H :
kd h x0 = 13 ∧
kd h (mr h x0 41) = 20 ∧
InB x1 (ln h (mr h x0 41)) ∧
(x6.toInt < (mi h (mr h x0 41) (ix x1)).toInt →
WM k_Ref_near p_Ref_near_2 [.ref x0, .int x1, .int x2, .long x3, Jv, .int x5, .int x6, .int (0 : Int32)] [] h 0 0 Rt) ∧
(¬ x6.toInt < (mi h (mr h x0 41) (ix x1)).toInt →
Rt (.int x5) h)) : WM k_Ref_near p_Ref_near_1 [.ref x0, .int x1, .int x2, .long x3, Jv, .int x5, .int x6, Jv] [] h 0 0 Rt := WM_at (hs := HH_Ref_near) G_Ref_near 45 11 rfl H
set_option maxRecDepth 100000 in
set_option maxHeartbeats 4000000 in
theorem v_Ref_near_2 (x0 : Nat) (x1 : Int32) (x2 : Int32) (x3 : Int64) (x5 : Int32) (x6 : Int32) (x7 : Int32) (h : MH) (Rt : Value → MH → Prop) (H :
(x7.toInt < (27 : Int32).toInt →
(x2 = x6 →
(x7 = (13 : Int32) →
WM k_Ref_near p_Ref_near_2 [.ref x0, .int x1, .int x2, .long x3, Jv, .int x5, .int x6, .int (x7 + (1 : Int32))] [] h 0 0 Rt) ∧
(¬ x7 = (13 : Int32) →
WM k_Ref_near p_Ref_near_3 [.ref x0, .int x1, .int x2, .long x3, Jv, .int x5, .int x6, .int x7] [] h 0 0 Rt)) ∧
(¬ x2 = x6 →
WM k_Ref_near p_Ref_near_3 [.ref x0, .int x1, .int x2, .long x3, Jv, .int x5, .int x6, .int x7] [] h 0 0 Rt)) ∧
(¬ x7.toInt < (27 : Int32).toInt →
WM k_Ref_near p_Ref_near_1 [.ref x0, .int x1, .int x2, .long x3, Jv, .int x5, .int (x6 + (1 : Int32)), Jv] [] h 0 0 Rt)) : WM k_Ref_near p_Ref_near_2 [.ref x0, .int x1, .int x2, .long x3, Jv, .int x5, .int x6, .int x7] [] h 0 0 Rt := WM_at (hs := HH_Ref_near) G_Ref_near 45 19 rfl H
set_option maxRecDepth 100000 in
set_option maxHeartbeats 4000000 in
theorem v_Ref_near_3 (x0 : Nat) (x1 : Int32) (x2 : Int32) (x3 : Int64) (x5 : Int32) (x6 : Int32) (x7 : Int32) (h : MH) (Rt : Value → MH → Prop) (H :
kd h x0 = 13 ∧
SpL k_Ref_apart [.ref x0, .int x1, .int x2, .int x6, .int x7] h (fun r3 g1 =>
(0 < (lg_cmp r3 x3).toInt →
WM k_Ref_near p_Ref_near_2 [.ref x0, .int x1, .int x2, .long x3, Jv, .int x5, .int x6, .int (x7 + (1 : Int32))] [] g1 0 0 Rt) ∧
(¬ 0 < (lg_cmp r3 x3).toInt →
WM k_Ref_near p_Ref_near_2 [.ref x0, .int x1, .int x2, .long x3, Jv, .int (x5 + (1 : Int32)), .int x6, .int (x7 + (1 : Int32))] [] g1 0 0 Rt))) : WM k_Ref_near p_Ref_near_3 [.ref x0, .int x1, .int x2, .long x3, Jv, .int x5, .int x6, .int x7] [] h 0 0 Rt := WM_at (hs := HH_Ref_near) G_Ref_near 45 28 rfl H
set_option maxRecDepth 100000 in
set_option maxHeartbeats 4000000 in
theorem v_Lines_init (x0 : Nat) (x1 : Int32) (h : MH) (Rt : Value → MH → Prop) (H :
x0 ≠ 0 ∧
kd h x0 = 5 ∧
SpI k_Math_maxIII [.int ((((((2 : Int32) * x1) + (1 : Int32)) * (((2 : Int32) * x1) + (1 : Int32))) * (((2 : Int32) * x1) + (1 : Int32))) / (2 : Int32)), .int (0 : Int32)] (wi (wi (wi h x0 3 (0 : Int32)) x0 4 (0 : Int32)) x0 0 x1) (fun r4 g3 =>
0 ≤ ((6 : Int32) * r4).toInt ∧
gd (0 + ix ((6 : Int32) * r4)) 7686 (
kd (nw g3 21 (ix ((6 : Int32) * r4))) x0 = 5 ∧
WM k_Lines_init p_Lines_init_1 [.ref x0, Jv, Jv, .int r4] [] (wr (nw g3 21 (ix ((6 : Int32) * r4))) x0 1 (hn g3)) 1 (0 + ix ((6 : Int32) * r4)) Rt))) : Sp k_Lines_init [.ref x0, .int x1] h Rt := Sp_intro2 (by decide) (by decide +kernel) rfl (Nat.le_of_ble_eq_true rfl) (WM_at (hs := HH_Lines_init) G_Lines_init 39 0 rfl ⟨H.1, ⟨H.2.1, ⟨H.2.1, ⟨H.2.1, ⟨(by decide), H.2.2⟩⟩⟩⟩⟩)
set_option maxRecDepth 100000 in
set_option maxHeartbeats 4000000 in
theorem v_Lines_init_1 (x0 : Nat) (x3 : Int32) (cc ss : Nat) (h : MH) (Rt : Value → MH → Prop) (H :
0 ≤ x3.toInt ∧
gd (cc + 1) 2 (
gd (ss + ix x3) 7686 (
kd (nw h 20 (ix x3)) x0 = 5 ∧
gd (cc + 1) 2 (
gd (ss + ix x3) 7686 (
Rt .null (wr (nw h 20 (ix x3)) x0 2 (hn h))))))) : WM k_Lines_init p_Lines_init_1 [.ref x0, Jv, Jv, .int x3] [] h cc ss Rt := WM_at (hs := HH_Lines_init) G_Lines_init 39 33 rfl H
set_option maxRecDepth 100000 in
set_option maxHeartbeats 4000000 in
theorem v_Lines_reciprocal (x0 : Nat) (h : MH) (Rt : Value → MH → Prop) (H :
kd h x0 = 3 ∧
kd (nw h 3 0) (hn h) = 3 ∧
SpV k_Form_init [.ref (hn h)] (nw h 3 0) (fun g2 =>
kd g2 x0 = 3 ∧
kd g2 (hn h) = 3 ∧
SpV k_Form_set [.ref (hn h), .long (((ml g2 x0 1) * (ml g2 x0 2)) - (((ml h x0 3) / (2 : Int64)) * ((ml h x0 3) / (2 : Int64)))), .long (((ml g2 x0 0) * (ml g2 x0 2)) - (((ml h x0 4) / (2 : Int64)) * ((ml h x0 4) / (2 : Int64)))), .long (((ml g2 x0 0) * (ml g2 x0 1)) - (((ml h x0 5) / (2 : Int64)) * ((ml h x0 5) / (2 : Int64)))), .long ((2 : Int64) * ((((ml h x0 4) / (2 : Int64)) * ((ml h x0 5) / (2 : Int64))) - ((ml g2 x0 0) * ((ml h x0 3) / (2 : Int64))))), .long ((2 : Int64) * ((((ml h x0 3) / (2 : Int64)) * ((ml h x0 5) / (2 : Int64))) - ((ml g2 x0 1) * ((ml h x0 4) / (2 : Int64))))), .long ((2 : Int64) * ((((ml h x0 3) / (2 : Int64)) * ((ml h x0 4) / (2 : Int64))) - ((ml g2 x0 2) * ((ml h x0 5) / (2 : Int64)))))] g2 (fun g5 =>
WM k_Lines_reciprocal p_Lines_reciprocal_1 [Jv, Jv, Jv, Jv, Jv, Jv, Jv, .ref (hn h)] [] g5 1 6 Rt))) : Sp k_Lines_reciprocal [.ref x0] h Rt := Sp_intro2 (by decide) (by decide +kernel) rfl (Nat.le_of_ble_eq_true rfl) (WM_at (hs := HH_Lines_reciprocal) G_Lines_reciprocal 81 0 rfl ⟨H.1, ⟨(by decide), ⟨H.1, ⟨(by decide), ⟨H.1, ⟨(by decide), ⟨H.2.1, SpV.mono H.2.2 (fun g2 qg2 => ⟨qg2.1, ⟨qg2.1, ⟨qg2.1, ⟨qg2.1, ⟨qg2.1, ⟨qg2.1, ⟨qg2.1, ⟨qg2.1, ⟨qg2.1, qg2.2⟩⟩⟩⟩⟩⟩⟩⟩⟩)⟩⟩⟩⟩⟩⟩⟩)
set_option maxRecDepth 100000 in
set_option maxHeartbeats 4000000 in
theorem v_Lines_reciprocal_1 (x7 : Nat) (cc ss : Nat) (h : MH) (Rt : Value → MH → Prop) (H :
gd cc 1 (
gd ss 6 (
Rt (.ref x7) h))) : WM k_Lines_reciprocal p_Lines_reciprocal_1 [Jv, Jv, Jv, Jv, Jv, Jv, Jv, .ref x7] [] h cc ss Rt := WM_at (hs := HH_Lines_reciprocal) G_Lines_reciprocal 81 78 rfl H
set_option maxRecDepth 100000 in
set_option maxHeartbeats 4000000 in
theorem v_Wave_isZero (x0 : Nat) (h : MH) (Rt : Value → MH → Prop) (H :
kd h x0 = 11 ∧
kd h (mr h x0 2) = 21 ∧
InB (0 : Int32) (ln h (mr h x0 2)) ∧
((lg_cmp (ml h (mr h x0 2) (ix (0 : Int32))) (0 : Int64)) = 0 →
Rt (.int (1 : Int32)) h) ∧
(¬ (lg_cmp (ml h (mr h x0 2) (ix (0 : Int32))) (0 : Int64)) = 0 →
Rt (.int (0 : Int32)) h)) : Sp k_Wave_isZero [.ref x0] h Rt := Sp_intro2 (by decide) (by decide +kernel) rfl (Nat.le_of_ble_eq_true rfl) (WM_at (hs := HH_Wave_isZero) G_Wave_isZero 12 0 rfl ⟨H.1, ⟨H.2.1, ⟨H.2.2.1, ⟨fun c4 => ⟨(Or.inr rfl), (H.2.2.2.1 c4)⟩, fun c4 => ⟨(Or.inl rfl), (H.2.2.2.2 c4)⟩⟩⟩⟩⟩)
set_option maxRecDepth 100000 in
set_option maxHeartbeats 4000000 in
theorem v_Lines_seat (x0 : Nat) (x1 : Int64) (h : MH) (Rt : Value → MH → Prop) (H :
kd h x0 = 5 ∧
WM k_Lines_seat p_Lines_seat_1 [.ref x0, .long x1, Jv, .int (0 : Int32), .int (mi h x0 3), .int (0 : Int32), Jv] [] h 0 0 Rt) : Sp k_Lines_seat [.ref x0, .long x1] h Rt := Sp_intro2 (by decide) (by decide +kernel) rfl (Nat.le_of_ble_eq_true rfl) (WM_at (hs := HH_Lines_seat) G_Lines_seat 43 0 rfl H)
set_option maxRecDepth 100000 in
set_option maxHeartbeats 4000000 in
theorem v_Lines_seat_1 (x0 : Nat) (x1 : Int64) (x3 : Int32) (x4 : Int32) (x5 : Int32) (h : MH) (Rt : Value → MH → Prop) (H :
(x5.toInt < (32 : Int32).toInt →
(x3.toInt < x4.toInt →
kd h x0 = 5 ∧
kd h (mr h x0 2) = 20 ∧
InB (((x3 + x4).toUInt32 >>> ((1 : Int32).toUInt32 &&& Int32.toUInt32 31)).toInt32) (ln h (mr h x0 2)) ∧
kd h (mr h x0 1) = 21 ∧
InB ((6 : Int32) * (mi h (mr h x0 2) (ix (((x3 + x4).toUInt32 >>> ((1 : Int32).toUInt32 &&& Int32.toUInt32 31)).toInt32)))) (ln h (mr h x0 1)) ∧
((lg_cmp (ml h (mr h x0 1) (ix ((6 : Int32) * (mi h (mr h x0 2) (ix (((x3 + x4).toUInt32 >>> ((1 : Int32).toUInt32 &&& Int32.toUInt32 31)).toInt32)))))) x1).toInt < 0 →
WM k_Lines_seat p_Lines_seat_1 [.ref x0, .long x1, Jv, .int (((x3 + x4).toUInt32 >>> ((1 : Int32).toUInt32 &&& Int32.toUInt32 31)).toInt32 + (1 : Int32)), .int x4, .int (x5 + (1 : Int32)), Jv] [] h 0 0 Rt) ∧
(¬ (lg_cmp (ml h (mr h x0 1) (ix ((6 : Int32) * (mi h (mr h x0 2) (ix (((x3 + x4).toUInt32 >>> ((1 : Int32).toUInt32 &&& Int32.toUInt32 31)).toInt32)))))) x1).toInt < 0 →
WM k_Lines_seat p_Lines_seat_1 [.ref x0, .long x1, Jv, .int x3, .int (((x3 + x4).toUInt32 >>> ((1 : Int32).toUInt32 &&& Int32.toUInt32 31)).toInt32), .int (x5 + (1 : Int32)), Jv] [] h 0 0 Rt)) ∧
(¬ x3.toInt < x4.toInt →
Rt (.int x3) h)) ∧
(¬ x5.toInt < (32 : Int32).toInt →
Rt (.int x3) h)) : WM k_Lines_seat p_Lines_seat_1 [.ref x0, .long x1, Jv, .int x3, .int x4, .int x5, Jv] [] h 0 0 Rt := WM_at (hs := HH_Lines_seat) G_Lines_seat 43 7 rfl ⟨fun c6 => ⟨fun c7 => ⟨((H.1 c6).1 c7).1, ⟨((H.1 c6).1 c7).1, ((H.1 c6).1 c7).2⟩⟩, (H.1 c6).2⟩, H.2⟩
set_option maxRecDepth 100000 in
set_option maxHeartbeats 4000000 in
theorem v_Lines_startRow (x0 : Nat) (x1 : Int32) (x2 : Int64) (h : MH) (Rt : Value → MH → Prop) (H :
kd h x0 = 5 ∧
kd h (mr h x0 1) = 21 ∧
InB x1 (ln h (mr h x0 1)) ∧
WM k_Lines_startRow p_Lines_startRow_1 [.ref x0, .int x1, Jv, Jv, .int (1 : Int32)] [] (wl h (mr h x0 1) (ix x1) x2) 0 0 Rt) : Sp k_Lines_startRow [.ref x0, .int x1, .long x2] h Rt := Sp_intro2 (by decide) (by decide +kernel) rfl (Nat.le_of_ble_eq_true rfl) (WM_at (hs := HH_Lines_startRow) G_Lines_startRow 21 0 rfl H)
set_option maxRecDepth 100000 in
set_option maxHeartbeats 4000000 in
theorem v_Lines_startRow_1 (x0 : Nat) (x1 : Int32) (x4 : Int32) (h : MH) (Rt : Value → MH → Prop) (H :
(x4.toInt < (6 : Int32).toInt →
kd h x0 = 5 ∧
kd h (mr h x0 1) = 21 ∧
InB (x1 + x4) (ln h (mr h x0 1)) ∧
WM k_Lines_startRow p_Lines_startRow_1 [.ref x0, .int x1, Jv, Jv, .int (x4 + (1 : Int32))] [] (wl h (mr h x0 1) (ix (x1 + x4)) (0 : Int64)) 0 0 Rt) ∧
(¬ x4.toInt < (6 : Int32).toInt →
Rt .null h)) : WM k_Lines_startRow p_Lines_startRow_1 [.ref x0, .int x1, Jv, Jv, .int x4] [] h 0 0 Rt := WM_at (hs := HH_Lines_startRow) G_Lines_startRow 21 7 rfl H
set_option maxRecDepth 100000 in
set_option maxHeartbeats 4000000 in
theorem v_Lines_addPair (x0 : Nat) (x1 : Int64) (x3 : Nat) (h : MH) (Rt : Value → MH → Prop) (H :
kd h x0 = 5 ∧
SpI k_Lines_seat [.ref x0, .long x1] h (fun r3 g1 =>
kd g1 x0 = 5 ∧
(r3.toInt < (mi g1 x0 3).toInt →
kd g1 (mr g1 x0 2) = 20 ∧
InB r3 (ln g1 (mr g1 x0 2)) ∧
kd g1 (mr g1 x0 1) = 21 ∧
InB ((6 : Int32) * (mi g1 (mr g1 x0 2) (ix r3))) (ln g1 (mr g1 x0 1)) ∧
((lg_cmp (ml g1 (mr g1 x0 1) (ix ((6 : Int32) * (mi g1 (mr g1 x0 2) (ix r3))))) x1) = 0 →
WM k_Lines_addPair p_Lines_addPair_2 [.ref x0, Jv, Jv, .ref x3, .int r3, Jv, Jv] [] g1 0 0 Rt) ∧
(¬ (lg_cmp (ml g1 (mr g1 x0 1) (ix ((6 : Int32) * (mi g1 (mr g1 x0 2) (ix r3))))) x1) = 0 →
WM k_Lines_addPair p_Lines_addPair_1 [.ref x0, .long x1, Jv, .ref x3, .int r3, Jv, Jv] [] g1 0 0 Rt)) ∧
(¬ r3.toInt < (mi g1 x0 3).toInt →
WM k_Lines_addPair p_Lines_addPair_1 [.ref x0, .long x1, Jv, .ref x3, .int r3, Jv, Jv] [] g1 0 0 Rt))) : Sp k_Lines_addPair [.ref x0, .long x1, .ref x3] h Rt := Sp_intro2 (by decide) (by decide +kernel) rfl (Nat.le_of_ble_eq_true rfl) (WM_at (hs := HH_Lines_addPair) G_Lines_addPair 101 0 rfl ⟨H.1, SpI.mono H.2 (fun r3 g1 qg1 => ⟨qg1.1, ⟨fun c9 => ⟨qg1.1, ⟨qg1.1, (qg1.2.1 c9)⟩⟩, qg1.2.2⟩⟩)⟩)
set_option maxRecDepth 100000 in
set_option maxHeartbeats 4000000 in
theorem v_Lines_addPair_1 (x0 : Nat) (x1 : Int64) (x3 : Nat) (x4 : Int32) (h : MH) (Rt : Value → MH → Prop) (H :
kd h x0 = 5 ∧
kd h (mr h x0 2) = 20 ∧
((mi h x0 3).toInt < (Int32.ofNat (ln h (mr h x0 2))).toInt →
(0 ≤ x4.toInt ∧ 0 ≤ (x4 + (1 : Int32)).toInt ∧ 0 ≤ ((mi h x0 3) - x4).toInt ∧ x4.toInt + ((mi h x0 3) - x4).toInt ≤ ln h (mr h x0 2) ∧ (x4 + (1 : Int32)).toInt + ((mi h x0 3) - x4).toInt ≤ ln h (mr h x0 2)) ∧
InB x4 (ln h (mr h x0 2)) ∧
SpV k_Lines_startRow [.ref x0, .int ((6 : Int32) * (mi (wi (cpI h (mr h x0 2) (ix x4) (mr h x0 2) (ix (x4 + (1 : Int32))) (ix ((mi h x0 3) - x4))) (mr h x0 2) (ix x4) (mi (cpI h (mr h x0 2) (ix x4) (mr h x0 2) (ix (x4 + (1 : Int32))) (ix ((mi h x0 3) - x4))) x0 3)) x0 3)), .long x1] (wi (cpI h (mr h x0 2) (ix x4) (mr h x0 2) (ix (x4 + (1 : Int32))) (ix ((mi h x0 3) - x4))) (mr h x0 2) (ix x4) (mi (cpI h (mr h x0 2) (ix x4) (mr h x0 2) (ix (x4 + (1 : Int32))) (ix ((mi h x0 3) - x4))) x0 3)) (fun g5 =>
kd g5 x0 = 5 ∧
WM k_Lines_addPair p_Lines_addPair_2 [.ref x0, Jv, Jv, .ref x3, .int x4, Jv, Jv] [] (wi g5 x0 3 ((mi g5 x0 3) + (1 : Int32))) 0 0 Rt)) ∧
(¬ (mi h x0 3).toInt < (Int32.ofNat (ln h (mr h x0 2))).toInt →
Rt .null h)) : WM k_Lines_addPair p_Lines_addPair_1 [.ref x0, .long x1, Jv, .ref x3, .int x4, Jv, Jv] [] h 0 0 Rt := WM_at (hs := HH_Lines_addPair) G_Lines_addPair 101 20 rfl ⟨H.1, ⟨H.1, ⟨H.2.1, ⟨fun c7 => ⟨H.1, ⟨H.1, ⟨H.1, ⟨H.2.1, ⟨H.2.1, ⟨(H.2.2.1 c7).1, ⟨H.1, ⟨H.1, ⟨H.2.1, ⟨((H.2.2.1 c7).2).1, ⟨H.1, ⟨H.1, SpV.mono (((H.2.2.1 c7).2).2) (fun g5 qg5 => ⟨qg5.1, ⟨qg5.1, qg5.2⟩⟩)⟩⟩⟩⟩⟩⟩⟩⟩⟩⟩⟩⟩, H.2.2.2⟩⟩⟩⟩
set_option maxRecDepth 100000 in
set_option maxHeartbeats 4000000 in
theorem v_Lines_addPair_2 (x0 : Nat) (x3 : Nat) (x4 : Int32) (h : MH) (Rt : Value → MH → Prop) (H :
kd h x0 = 5 ∧
kd h (mr h x0 2) = 20 ∧
InB x4 (ln h (mr h x0 2)) ∧
kd h (mr h x0 1) = 21 ∧
InB (((6 : Int32) * (mi h (mr h x0 2) (ix x4))) + (1 : Int32)) (ln h (mr h x0 1)) ∧
WM k_Lines_addPair p_Lines_addPair_3 [.ref x0, Jv, Jv, .ref x3, Jv, .int ((6 : Int32) * (mi h (mr h x0 2) (ix x4))), .int (0 : Int32)] [] (wl h (mr h x0 1) (ix (((6 : Int32) * (mi h (mr h x0 2) (ix x4))) + (1 : Int32))) ((ml h (mr h x0 1) (ix (((6 : Int32) * (mi h (mr h x0 2) (ix x4))) + (1 : Int32)))) + (2 : Int64))) 0 0 Rt) : WM k_Lines_addPair p_Lines_addPair_2 [.ref x0, Jv, Jv, .ref x3, .int x4, Jv, Jv] [] h 0 0 Rt := WM_at (hs := HH_Lines_addPair) G_Lines_addPair 101 59 rfl ⟨H.1, ⟨H.2.1, ⟨H.2.2.1, ⟨H.1, ⟨H.2.2.2.1, ⟨H.2.2.2.2.1, ⟨H.2.2.2.1, ⟨H.2.2.2.2.1, H.2.2.2.2.2⟩⟩⟩⟩⟩⟩⟩⟩
set_option maxRecDepth 100000 in
set_option maxHeartbeats 4000000 in
theorem v_Lines_addPair_3 (x0 : Nat) (x3 : Nat) (x5 : Int32) (x6 : Int32) (h : MH) (Rt : Value → MH → Prop) (H :
(x6.toInt < (4 : Int32).toInt →
kd h x0 = 5 ∧
kd h (mr h x0 1) = 21 ∧
InB ((x5 + (2 : Int32)) + x6) (ln h (mr h x0 1)) ∧
kd h x3 = 21 ∧
InB x6 (ln h x3) ∧
WM k_Lines_addPair p_Lines_addPair_3 [.ref x0, Jv, Jv, .ref x3, Jv, .int x5, .int (x6 + (1 : Int32))] [] (wl h (mr h x0 1) (ix ((x5 + (2 : Int32)) + x6)) ((ml h (mr h x0 1) (ix ((x5 + (2 : Int32)) + x6))) + ((2 : Int64) * (ml h x3 (ix x6))))) 0 0 Rt) ∧
(¬ x6.toInt < (4 : Int32).toInt →
Rt .null h)) : WM k_Lines_addPair p_Lines_addPair_3 [.ref x0, Jv, Jv, .ref x3, Jv, .int x5, .int x6] [] h 0 0 Rt := WM_at (hs := HH_Lines_addPair) G_Lines_addPair 101 78 rfl ⟨fun c6 => ⟨(H.1 c6).1, ⟨((H.1 c6).2).1, ⟨(((H.1 c6).2).2).1, ⟨((((H.1 c6).2).2).2).1, ⟨(((((H.1 c6).2).2).2).2).1, ⟨((H.1 c6).2).1, ⟨(((H.1 c6).2).2).1, (((((H.1 c6).2).2).2).2).2⟩⟩⟩⟩⟩⟩⟩, H.2⟩
set_option maxRecDepth 100000 in
set_option maxHeartbeats 4000000 in
theorem v_Lines_gather (x0 : Nat) (x1 : Nat) (x2 : Nat) (h : MH) (Rt : Value → MH → Prop) (H :
kd h x1 = 6 ∧
SpR k_Lines_reciprocal [.ref (mr h x1 1)] h (fun r3 g2 =>
WM k_Lines_gather p_Lines_gather_1 [.ref x0, .ref x1, .ref x2, .ref r3, .int (0 : Int32), Jv, Jv] [] g2 1 6 Rt)) : Sp k_Lines_gather [.ref x0, .ref x1, .ref x2] h Rt := Sp_intro2 (by decide) (by decide +kernel) rfl (Nat.le_of_ble_eq_true rfl) (WM_at (hs := HH_Lines_gather) G_Lines_gather 65 0 rfl H)
set_option maxRecDepth 100000 in
set_option maxHeartbeats 4000000 in
theorem v_Lines_gather_1 (x0 : Nat) (x1 : Nat) (x2 : Nat) (x3 : Nat) (x4 : Int32) (cc ss : Nat) (h : MH) (Rt : Value → MH → Prop) (H :
kd h x0 = 5 ∧
((mi h x0 0).toInt < x4.toInt →
gd cc 1 (
gd ss 6 (
Rt .null h))) ∧
(¬ (mi h x0 0).toInt < x4.toInt →
(x4 = 0 →
WM k_Lines_gather p_Lines_gather_2 [.ref x0, .ref x1, .ref x2, .ref x3, .int x4, .int (0 : Int32), Jv] [] h cc ss Rt) ∧
(¬ x4 = 0 →
WM k_Lines_gather p_Lines_gather_2 [.ref x0, .ref x1, .ref x2, .ref x3, .int x4, .int (-(mi h x0 0)), Jv] [] h cc ss Rt))) : WM k_Lines_gather p_Lines_gather_1 [.ref x0, .ref x1, .ref x2, .ref x3, .int x4, Jv, Jv] [] h cc ss Rt := WM_at (hs := HH_Lines_gather) G_Lines_gather 65 6 rfl ⟨H.1, ⟨H.2.1, fun c2 => ⟨(H.2.2 c2).1, fun c3 => ⟨H.1, ((H.2.2 c2).2 c3)⟩⟩⟩⟩
set_option maxRecDepth 100000 in
set_option maxHeartbeats 4000000 in
theorem v_Lines_gather_2 (x0 : Nat) (x1 : Nat) (x2 : Nat) (x3 : Nat) (x4 : Int32) (x5 : Int32) (cc ss : Nat) (h : MH) (Rt : Value → MH → Prop) (H :
kd h x0 = 5 ∧
((mi h x0 0).toInt < x5.toInt →
WM k_Lines_gather p_Lines_gather_1 [.ref x0, .ref x1, .ref x2, .ref x3, .int (x4 + (1 : Int32)), Jv, Jv] [] h cc ss Rt) ∧
(¬ (mi h x0 0).toInt < x5.toInt →
(x4 = 0 →
(x5 = 0 →
WM k_Lines_gather p_Lines_gather_3 [.ref x0, .ref x1, .ref x2, .ref x3, .int x4, .int x5, .int (1 : Int32)] [] h cc ss Rt) ∧
(¬ x5 = 0 →
WM k_Lines_gather p_Lines_gather_3 [.ref x0, .ref x1, .ref x2, .ref x3, .int x4, .int x5, .int (-(mi h x0 0))] [] h cc ss Rt)) ∧
(¬ x4 = 0 →
WM k_Lines_gather p_Lines_gather_3 [.ref x0, .ref x1, .ref x2, .ref x3, .int x4, .int x5, .int (-(mi h x0 0))] [] h cc ss Rt))) : WM k_Lines_gather p_Lines_gather_2 [.ref x0, .ref x1, .ref x2, .ref x3, .int x4, .int x5, Jv] [] h cc ss Rt := WM_at (hs := HH_Lines_gather) G_Lines_gather 65 18 rfl ⟨H.1, ⟨H.2.1, fun c2 => ⟨fun c3 => ⟨((H.2.2 c2).1 c3).1, fun c4 => ⟨H.1, (((H.2.2 c2).1 c3).2 c4)⟩⟩, fun c3 => ⟨H.1, ((H.2.2 c2).2 c3)⟩⟩⟩⟩
set_option maxRecDepth 100000 in
set_option maxHeartbeats 4000000 in
theorem v_Lines_gather_3 (x0 : Nat) (x1 : Nat) (x2 : Nat) (x3 : Nat) (x4 : Int32) (x5 : Int32) (x6 : Int32) (cc ss : Nat) (h : MH) (Rt : Value → MH → Prop) (H :
kd h x0 = 5 ∧
((mi h x0 0).toInt < x6.toInt →
WM k_Lines_gather p_Lines_gather_2 [.ref x0, .ref x1, .ref x2, .ref x3, .int x4, .int (x5 + (1 : Int32)), Jv] [] h cc ss Rt) ∧
(¬ (mi h x0 0).toInt < x6.toInt →
kd h x2 = 11 ∧
gd (cc + 0) 1 (
gd (ss + 0) 6 (
SpV k_Wave_sum [.ref x2, .ref x1, .int x4, .int x5, .int x6] h (fun g2 =>
kd g2 x2 = 11 ∧
gd ((cc + 0) + 0) 1 (
gd ((ss + 0) + 0) 6 (
SpI k_Wave_isZero [.ref x2] g2 (fun r6 g4 =>
(r6 = 0 →
kd g4 x3 = 3 ∧
gd (((cc + 0) + 0) + 0) 1 (
gd (((ss + 0) + 0) + 0) 6 (
SpL k_Form_square [.ref x3, .long x4.toInt64, .long x5.toInt64, .long x6.toInt64] g4 (fun r9 g7 =>
kd g7 x2 = 11 ∧
kd g7 x0 = 5 ∧
gd ((((cc + 0) + 0) + 0) + 0) 1 (
gd ((((ss + 0) + 0) + 0) + 0) 6 (
SpV k_Lines_addPair [.ref x0, .long r9, .ref (mr g7 x2 2)] g7 (fun g11 =>
WM k_Lines_gather p_Lines_gather_3 [.ref x0, .ref x1, .ref x2, .ref x3, .int x4, .int x5, .int (x6 + (1 : Int32))] [] g11 ((((cc + 0) + 0) + 0) + 0) ((((ss + 0) + 0) + 0) + 0) Rt))))))) ∧
(¬ r6 = 0 →
WM k_Lines_gather p_Lines_gather_3 [.ref x0, .ref x1, .ref x2, .ref x3, .int x4, .int x5, .int (x6 + (1 : Int32))] [] g4 ((cc + 0) + 0) ((ss + 0) + 0) Rt))))))))) : WM k_Lines_gather p_Lines_gather_3 [.ref x0, .ref x1, .ref x2, .ref x3, .int x4, .int x5, .int x6] [] h cc ss Rt := WM_at (hs := HH_Lines_gather) G_Lines_gather 65 32 rfl H
set_option maxRecDepth 100000 in
set_option maxHeartbeats 4000000 in
theorem v_Lines_renew (x0 : Nat) (x1 : Nat) (x2 : Nat) (h : MH) (Rt : Value → MH → Prop) (H :
kd h x0 = 5 ∧
kd h x1 = 6 ∧
((mi h x0 4) = (mi h x1 6) →
Rt .null h) ∧
(¬ (mi h x0 4) = (mi h x1 6) →
SpV k_Lines_gather [.ref x0, .ref x1, .ref x2] (wi (wi h x0 4 (mi h x1 6)) x0 3 (0 : Int32)) (fun g3 =>
Rt .null g3))) : Sp k_Lines_renew [.ref x0, .ref x1, .ref x2] h Rt := Sp_intro2 (by decide) (by decide +kernel) rfl (Nat.le_of_ble_eq_true rfl) (WM_at (hs := HH_Lines_renew) G_Lines_renew 18 0 rfl ⟨H.1, ⟨H.2.1, ⟨H.2.2.1, fun c4 => ⟨H.2.1, ⟨H.1, ⟨H.1, ⟨H.1, (H.2.2.2 c4)⟩⟩⟩⟩⟩⟩⟩)
set_option maxRecDepth 100000 in
set_option maxHeartbeats 4000000 in
theorem v_Ho_linesAt (x0 : Nat) (x1 : Int32) (x2 : Int32) (h : MH) (Rt : Value → MH → Prop) (H :
kd h x0 = 12 ∧
SpR k_Ho_modelAt [.ref x0, .int x1] h (fun r3 g1 =>
(r3 = 0 →
Rt (.ref 0) g1) ∧
(¬ r3 = 0 →
(x2.toInt < (1 : Int32).toInt →
Rt (.ref 0) g1) ∧
(¬ x2.toInt < (1 : Int32).toInt →
((6 : Int32).toInt < x2.toInt →
Rt (.ref 0) g1) ∧
(¬ (6 : Int32).toInt < x2.toInt →
kd g1 r3 = 6 ∧
kd g1 (mr g1 r3 8) = 27 ∧
InB x2 (ln g1 (mr g1 r3 8)) ∧
((mr g1 (mr g1 r3 8) (ix x2)) = 0 →
kd (nw g1 5 0) (hn g1) = 5 ∧
SpV k_Lines_init [.ref (hn g1), .int x2] (nw g1 5 0) (fun g10 =>
kd g10 r3 = 6 ∧
kd g10 (mr g10 r3 8) = 27 ∧
InB x2 (ln g10 (mr g10 r3 8)) ∧
kd g10 (hn g1) = 5 ∧
kd g10 x0 = 12 ∧
SpV k_Lines_renew [.ref (hn g1), .ref r3, .ref (mr (wr g10 (mr g10 r3 8) (ix x2) (hn g1)) x0 17)] (wr g10 (mr g10 r3 8) (ix x2) (hn g1)) (fun g17 =>
Rt (.ref (hn g1)) g17))) ∧
(¬ (mr g1 (mr g1 r3 8) (ix x2)) = 0 →
kd g1 x0 = 12 ∧
kd g1 (mr g1 (mr g1 r3 8) (ix x2)) = 5 ∧
SpV k_Lines_renew [.ref (mr g1 (mr g1 r3 8) (ix x2)), .ref r3, .ref (mr g1 x0 17)] g1 (fun g8 =>
Rt (.ref (mr g1 (mr g1 r3 8) (ix x2))) g8))))))) : Sp k_Ho_linesAt [.ref x0, .int x1, .int x2] h Rt := Sp_intro2 (by decide) (by decide +kernel) rfl (Nat.le_of_ble_eq_true rfl) (WM_at (hs := HH_Ho_linesAt) G_Ho_linesAt 39 0 rfl ⟨H.1, SpR.mono H.2 (fun r3 g1 qg1 => ⟨qg1.1, fun c18 => ⟨(qg1.2 c18).1, fun c19 => ⟨((qg1.2 c18).2 c19).1, fun c20 => ⟨(((qg1.2 c18).2 c19).2 c20).1, ⟨((((qg1.2 c18).2 c19).2 c20).2).1, ⟨(((((qg1.2 c18).2 c19).2 c20).2).2).1, ⟨fun c21 => ⟨(((((((qg1.2 c18).2 c19).2 c20).2).2).2).1 c21).1, SpV.mono ((((((((qg1.2 c18).2 c19).2 c20).2).2).2).1 c21).2) (fun g10 qg10 => ⟨qg10.1, ⟨qg10.2.1, ⟨qg10.2.2.1, ⟨qg10.2.2.2.1, ⟨qg10.2.2.2.2.1, ⟨qg10.2.2.2.1, qg10.2.2.2.2.2⟩⟩⟩⟩⟩⟩)⟩, ((((((qg1.2 c18).2 c19).2 c20).2).2).2).2⟩⟩⟩⟩⟩⟩⟩)⟩)
set_option maxRecDepth 100000 in
set_option maxHeartbeats 4000000 in
theorem v_Ho_lines (x0 : Nat) (x1 : Int32) (x2 : Int32) (h : MH) (Rt : Value → MH → Prop) (H :
kd h x0 = 12 ∧
SpR k_Ho_linesAt [.ref x0, .int x1, .int x2] h (fun r3 g1 =>
(r3 = 0 →
Rt (.int (-1 : Int32)) g1) ∧
(¬ r3 = 0 →
kd g1 r3 = 5 ∧
Rt (.int (mi g1 r3 3)) g1))) : Sp k_Ho_lines [.ref x0, .int x1, .int x2] h Rt := Sp_intro2 (by decide) (by decide +kernel) rfl (Nat.le_of_ble_eq_true rfl) (WM_at (hs := HH_Ho_lines) G_Ho_lines 13 0 rfl H)
set_option maxRecDepth 100000 in
set_option maxHeartbeats 4000000 in
theorem v_Ref_addLine (x0 : Nat) (x1 : Int64) (h : MH) (Rt : Value → MH → Prop) (H :
kd h x0 = 13 ∧
WM k_Ref_addLine p_Ref_addLine_1 [.ref x0, .long x1, Jv, .int (mi h x0 50), Jv, Jv] [] h 0 0 Rt) : Sp k_Ref_addLine [.ref x0, .long x1] h Rt := Sp_intro2 (by decide) (by decide +kernel) rfl (Nat.le_of_ble_eq_true rfl) (WM_at (hs := HH_Ref_addLine) G_Ref_addLine 148 0 rfl H)
set_option maxRecDepth 100000 in
set_option maxHeartbeats 4000000 in
theorem v_Ref_addLine_1 (x0 : Nat) (x1 : Int64) (x3 : Int32) (h : MH) (Rt : Value → MH → Prop) (H :
(0 < x3.toInt →
kd h x0 = 13 ∧
kd h (mr h x0 47) = 21 ∧
InB (x3 - (1 : Int32)) (ln h (mr h x0 47)) ∧
(0 < (lg_cmp (ml h (mr h x0 47) (ix (x3 - (1 : Int32)))) x1).toInt →
WM k_Ref_addLine p_Ref_addLine_1 [.ref x0, .long x1, Jv, .int (x3 + (-1 : Int32)), Jv, Jv] [] h 0 0 Rt) ∧
(¬ 0 < (lg_cmp (ml h (mr h x0 47) (ix (x3 - (1 : Int32)))) x1).toInt →
WM k_Ref_addLine p_Ref_addLine_2 [.ref x0, .long x1, Jv, .int x3, Jv, Jv] [] h 0 0 Rt)) ∧
(¬ 0 < x3.toInt →
WM k_Ref_addLine p_Ref_addLine_2 [.ref x0, .long x1, Jv, .int x3, Jv, Jv] [] h 0 0 Rt)) : WM k_Ref_addLine p_Ref_addLine_1 [.ref x0, .long x1, Jv, .int x3, Jv, Jv] [] h 0 0 Rt := WM_at (hs := HH_Ref_addLine) G_Ref_addLine 148 3 rfl H
set_option maxRecDepth 100000 in
set_option maxHeartbeats 4000000 in
theorem v_Ref_addLine_2 (x0 : Nat) (x1 : Int64) (x3 : Int32) (h : MH) (Rt : Value → MH → Prop) (H :
(x3 = 0 →
kd h x0 = 13 ∧
WM k_Ref_addLine p_Ref_addLine_3 [.ref x0, .long x1, Jv, .int x3, .int (mi h x0 50), Jv] [] h 0 0 Rt) ∧
(¬ x3 = 0 →
kd h x0 = 13 ∧
kd h (mr h x0 47) = 21 ∧
InB (x3 - (1 : Int32)) (ln h (mr h x0 47)) ∧
((lg_cmp (ml h (mr h x0 47) (ix (x3 - (1 : Int32)))) x1) = 0 →
WM k_Ref_addLine p_Ref_addLine_6 [.ref x0, Jv, Jv, .int (x3 + (-1 : Int32)), Jv, Jv] [] h 0 0 Rt) ∧
(¬ (lg_cmp (ml h (mr h x0 47) (ix (x3 - (1 : Int32)))) x1) = 0 →
WM k_Ref_addLine p_Ref_addLine_3 [.ref x0, .long x1, Jv, .int x3, .int (mi h x0 50), Jv] [] h 0 0 Rt))) : WM k_Ref_addLine p_Ref_addLine_2 [.ref x0, .long x1, Jv, .int x3, Jv, Jv] [] h 0 0 Rt := WM_at (hs := HH_Ref_addLine) G_Ref_addLine 148 16 rfl ⟨H.1, fun c5 => ⟨(H.2 c5).1, ⟨((H.2 c5).2).1, ⟨(((H.2 c5).2).2).1, ⟨((((H.2 c5).2).2).2).1, fun c6 => ⟨(H.2 c5).1, (((((H.2 c5).2).2).2).2 c6)⟩⟩⟩⟩⟩⟩
set_option maxRecDepth 100000 in
set_option maxHeartbeats 4000000 in
theorem v_Ref_addLine_3 (x0 : Nat) (x1 : Int64) (x3 : Int32) (x4 : Int32) (h : MH) (Rt : Value → MH → Prop) (H :
(x3.toInt < x4.toInt →
kd h x0 = 13 ∧
kd h (mr h x0 47) = 21 ∧
InB (x4 - (1 : Int32)) (ln h (mr h x0 47)) ∧
InB x4 (ln h (mr h x0 47)) ∧
kd h (mr h x0 48) = 20 ∧
InB (x4 - (1 : Int32)) (ln h (mr h x0 48)) ∧
InB x4 (ln h (mr h x0 48)) ∧
WM k_Ref_addLine p_Ref_addLine_4 [.ref x0, .long x1, Jv, .int x3, .int x4, .int (0 : Int32)] [] (wi (wl h (mr h x0 47) (ix x4) (ml h (mr h x0 47) (ix (x4 - (1 : Int32))))) (mr h x0 48) (ix x4) (mi h (mr h x0 48) (ix (x4 - (1 : Int32))))) 0 0 Rt) ∧
(¬ x3.toInt < x4.toInt →
kd h x0 = 13 ∧
kd h (mr h x0 47) = 21 ∧
InB x3 (ln h (mr h x0 47)) ∧
kd h (mr h x0 48) = 20 ∧
InB x3 (ln h (mr h x0 48)) ∧
WM k_Ref_addLine p_Ref_addLine_5 [.ref x0, Jv, Jv, .int x3, .int (0 : Int32), Jv] [] (wi (wl h (mr h x0 47) (ix x3) x1) (mr h x0 48) (ix x3) (0 : Int32)) 0 0 Rt)) : WM k_Ref_addLine p_Ref_addLine_3 [.ref x0, .long x1, Jv, .int x3, .int x4, Jv] [] h 0 0 Rt := WM_at (hs := HH_Ref_addLine) G_Ref_addLine 148 30 rfl ⟨fun c13 => ⟨(H.1 c13).1, ⟨(H.1 c13).1, ⟨((H.1 c13).2).1, ⟨(((H.1 c13).2).2).1, ⟨((H.1 c13).2).1, ⟨((((H.1 c13).2).2).2).1, ⟨(H.1 c13).1, ⟨(H.1 c13).1, ⟨(((((H.1 c13).2).2).2).2).1, ⟨((((((H.1 c13).2).2).2).2).2).1, ⟨(((((H.1 c13).2).2).2).2).1, ((((((H.1 c13).2).2).2).2).2).2⟩⟩⟩⟩⟩⟩⟩⟩⟩⟩⟩, fun c13 => ⟨(H.2 c13).1, ⟨((H.2 c13).2).1, ⟨(((H.2 c13).2).2).1, ⟨(H.2 c13).1, (((H.2 c13).2).2).2⟩⟩⟩⟩⟩
set_option maxRecDepth 100000 in
set_option maxHeartbeats 4000000 in
theorem v_Ref_addLine_4 (x0 : Nat) (x1 : Int64) (x3 : Int32) (x4 : Int32) (x5 : Int32) (h : MH) (Rt : Value → MH → Prop) (H :
(x5.toInt < (4 : Int32).toInt →
kd h x0 = 13 ∧
kd h (mr h x0 49) = 21 ∧
InB ((((4 : Int32) * x4) - (4 : Int32)) + x5) (ln h (mr h x0 49)) ∧
InB (((4 : Int32) * x4) + x5) (ln h (mr h x0 49)) ∧
WM k_Ref_addLine p_Ref_addLine_4 [.ref x0, .long x1, Jv, .int x3, .int x4, .int (x5 + (1 : Int32))] [] (wl h (mr h x0 49) (ix (((4 : Int32) * x4) + x5)) (ml h (mr h x0 49) (ix ((((4 : Int32) * x4) - (4 : Int32)) + x5)))) 0 0 Rt) ∧
(¬ x5.toInt < (4 : Int32).toInt →
WM k_Ref_addLine p_Ref_addLine_3 [.ref x0, .long x1, Jv, .int x3, .int (x4 + (-1 : Int32)), Jv] [] h 0 0 Rt)) : WM k_Ref_addLine p_Ref_addLine_4 [.ref x0, .long x1, Jv, .int x3, .int x4, .int x5] [] h 0 0 Rt := WM_at (hs := HH_Ref_addLine) G_Ref_addLine 148 55 rfl ⟨fun c5 => ⟨(H.1 c5).1, ⟨(H.1 c5).1, ⟨((H.1 c5).2).1, ⟨(((H.1 c5).2).2).1, ⟨((H.1 c5).2).1, (((H.1 c5).2).2).2⟩⟩⟩⟩⟩, H.2⟩
set_option maxRecDepth 100000 in
set_option maxHeartbeats 4000000 in
theorem v_Ref_addLine_5 (x0 : Nat) (x3 : Int32) (x4 : Int32) (h : MH) (Rt : Value → MH → Prop) (H :
(x4.toInt < (4 : Int32).toInt →
kd h x0 = 13 ∧
kd h (mr h x0 49) = 21 ∧
InB (((4 : Int32) * x3) + x4) (ln h (mr h x0 49)) ∧
WM k_Ref_addLine p_Ref_addLine_5 [.ref x0, Jv, Jv, .int x3, .int (x4 + (1 : Int32)), Jv] [] (wl h (mr h x0 49) (ix (((4 : Int32) * x3) + x4)) (0 : Int64)) 0 0 Rt) ∧
(¬ x4.toInt < (4 : Int32).toInt →
kd h x0 = 13 ∧
WM k_Ref_addLine p_Ref_addLine_6 [.ref x0, Jv, Jv, .int x3, Jv, Jv] [] (wi h x0 50 ((mi h x0 50) + (1 : Int32))) 0 0 Rt)) : WM k_Ref_addLine p_Ref_addLine_5 [.ref x0, Jv, Jv, .int x3, .int x4, Jv] [] h 0 0 Rt := WM_at (hs := HH_Ref_addLine) G_Ref_addLine 148 92 rfl ⟨H.1, fun c5 => ⟨(H.2 c5).1, ⟨(H.2 c5).1, (H.2 c5).2⟩⟩⟩
set_option maxRecDepth 100000 in
set_option maxHeartbeats 4000000 in
theorem v_Ref_addLine_6 (x0 : Nat) (x3 : Int32) (h : MH) (Rt : Value → MH → Prop) (H :
kd h x0 = 13 ∧
kd h (mr h x0 48) = 20 ∧
InB x3 (ln h (mr h x0 48)) ∧
WM k_Ref_addLine p_Ref_addLine_7 [.ref x0, Jv, Jv, .int x3, .int (0 : Int32), Jv] [] (wi h (mr h x0 48) (ix x3) ((mi h (mr h x0 48) (ix x3)) + (1 : Int32))) 0 0 Rt) : WM k_Ref_addLine p_Ref_addLine_6 [.ref x0, Jv, Jv, .int x3, Jv, Jv] [] h 0 0 Rt := WM_at (hs := HH_Ref_addLine) G_Ref_addLine 148 114 rfl ⟨H.1, ⟨H.2.1, ⟨H.2.2.1, ⟨H.2.1, ⟨H.2.2.1, H.2.2.2⟩⟩⟩⟩⟩
set_option maxRecDepth 100000 in
set_option maxHeartbeats 4000000 in
theorem v_Ref_addLine_7 (x0 : Nat) (x3 : Int32) (x4 : Int32) (h : MH) (Rt : Value → MH → Prop) (H :
(x4.toInt < (4 : Int32).toInt →
kd h x0 = 13 ∧
kd h (mr h x0 49) = 21 ∧
InB (((4 : Int32) * x3) + x4) (ln h (mr h x0 49)) ∧
kd h (mr h x0 46) = 21 ∧
InB ((8 : Int32) + x4) (ln h (mr h x0 46)) ∧
WM k_Ref_addLine p_Ref_addLine_7 [.ref x0, Jv, Jv, .int x3, .int (x4 + (1 : Int32)), Jv] [] (wl h (mr h x0 49) (ix (((4 : Int32) * x3) + x4)) ((ml h (mr h x0 49) (ix (((4 : Int32) * x3) + x4))) + (ml h (mr h x0 46) (ix ((8 : Int32) + x4))))) 0 0 Rt) ∧
(¬ x4.toInt < (4 : Int32).toInt →
Rt .null h)) : WM k_Ref_addLine p_Ref_addLine_7 [.ref x0, Jv, Jv, .int x3, .int x4, Jv] [] h 0 0 Rt := WM_at (hs := HH_Ref_addLine) G_Ref_addLine 148 124 rfl ⟨fun c6 => ⟨(H.1 c6).1, ⟨((H.1 c6).2).1, ⟨(((H.1 c6).2).2).1, ⟨(H.1 c6).1, ⟨((((H.1 c6).2).2).2).1, ⟨(((((H.1 c6).2).2).2).2).1, ⟨((H.1 c6).2).1, ⟨(((H.1 c6).2).2).1, (((((H.1 c6).2).2).2).2).2⟩⟩⟩⟩⟩⟩⟩⟩, H.2⟩
set_option maxRecDepth 100000 in
set_option maxHeartbeats 4000000 in
theorem v_Ref_gatherLines (x0 : Nat) (x1 : Int32) (x2 : Int32) (h : MH) (Rt : Value → MH → Prop) (H :
kd h x0 = 13 ∧
((mi h x0 51) = x1 →
((mi h x0 52) = x2 →
Rt .null h) ∧
(¬ (mi h x0 52) = x2 →
WM k_Ref_gatherLines p_Ref_gatherLines_1 [.ref x0, .int x1, .int x2, Jv, Jv, Jv, Jv, Jv, Jv, Jv, Jv, Jv, Jv, Jv, Jv, Jv, Jv, Jv, Jv, Jv, Jv] [] h 0 0 Rt)) ∧
(¬ (mi h x0 51) = x1 →
WM k_Ref_gatherLines p_Ref_gatherLines_1 [.ref x0, .int x1, .int x2, Jv, Jv, Jv, Jv, Jv, Jv, Jv, Jv, Jv, Jv, Jv, Jv, Jv, Jv, Jv, Jv, Jv, Jv] [] h 0 0 Rt)) : Sp k_Ref_gatherLines [.ref x0, .int x1, .int x2] h Rt := Sp_intro2 (by decide) (by decide +kernel) rfl (Nat.le_of_ble_eq_true rfl) (WM_at (hs := HH_Ref_gatherLines) G_Ref_gatherLines 308 0 rfl ⟨H.1, ⟨fun c2 => ⟨H.1, (H.2.1 c2)⟩, H.2.2⟩⟩)
set_option maxRecDepth 100000 in
set_option maxHeartbeats 4000000 in
theorem v_Ref_gatherLines_1 (x0 : Nat) (x1 : Int32) (x2 : Int32) (h : MH) (Rt : Value → MH → Prop) (H :
kd h x0 = 13 ∧
kd h (mr h x0 39) = 20 ∧
InB x1 (ln h (mr h x0 39)) ∧
kd h (mr h x0 29) = 21 ∧
InB (((6 : Int32) * (mi (wi (wi (wi h x0 51 x1) x0 52 x2) x0 50 (0 : Int32)) (mr h x0 39) (ix x1))) + (1 : Int32)) (ln h (mr h x0 29)) ∧
InB (((6 : Int32) * (mi (wi (wi (wi h x0 51 x1) x0 52 x2) x0 50 (0 : Int32)) (mr h x0 39) (ix x1))) + (2 : Int32)) (ln h (mr h x0 29)) ∧
InB (((6 : Int32) * (mi (wi (wi (wi h x0 51 x1) x0 52 x2) x0 50 (0 : Int32)) (mr h x0 39) (ix x1))) + (3 : Int32)) (ln h (mr h x0 29)) ∧
InB ((6 : Int32) * (mi (wi (wi (wi h x0 51 x1) x0 52 x2) x0 50 (0 : Int32)) (mr h x0 39) (ix x1))) (ln h (mr h x0 29)) ∧
InB (((6 : Int32) * (mi (wi (wi (wi h x0 51 x1) x0 52 x2) x0 50 (0 : Int32)) (mr h x0 39) (ix x1))) + (4 : Int32)) (ln h (mr h x0 29)) ∧
WM k_Ref_gatherLines p_Ref_gatherLines_2 [.ref x0, .int x1, .int x2, .int ((6 : Int32) * (mi (wi (wi (wi h x0 51 x1) x0 52 x2) x0 50 (0 : Int32)) (mr h x0 39) (ix x1))), .long (((ml h (mr h x0 29) (ix (((6 : Int32) * (mi (wi (wi (wi h x0 51 x1) x0 52 x2) x0 50 (0 : Int32)) (mr h x0 39) (ix x1))) + (1 : Int32)))) * (ml h (mr h x0 29) (ix (((6 : Int32) * (mi (wi (wi (wi h x0 51 x1) x0 52 x2) x0 50 (0 : Int32)) (mr h x0 39) (ix x1))) + (2 : Int32))))) - ((ml h (mr h x0 29) (ix (((6 : Int32) * (mi (wi (wi (wi h x0 51 x1) x0 52 x2) x0 50 (0 : Int32)) (mr h x0 39) (ix x1))) + (3 : Int32)))) * (ml h (mr h x0 29) (ix (((6 : Int32) * (mi (wi (wi (wi h x0 51 x1) x0 52 x2) x0 50 (0 : Int32)) (mr h x0 39) (ix x1))) + (3 : Int32)))))), Jv, .long (((ml h (mr h x0 29) (ix ((6 : Int32) * (mi (wi (wi (wi h x0 51 x1) x0 52 x2) x0 50 (0 : Int32)) (mr h x0 39) (ix x1))))) * (ml h (mr h x0 29) (ix (((6 : Int32) * (mi (wi (wi (wi h x0 51 x1) x0 52 x2) x0 50 (0 : Int32)) (mr h x0 39) (ix x1))) + (2 : Int32))))) - ((ml h (mr h x0 29) (ix (((6 : Int32) * (mi (wi (wi (wi h x0 51 x1) x0 52 x2) x0 50 (0 : Int32)) (mr h x0 39) (ix x1))) + (4 : Int32)))) * (ml h (mr h x0 29) (ix (((6 : Int32) * (mi (wi (wi (wi h x0 51 x1) x0 52 x2) x0 50 (0 : Int32)) (mr h x0 39) (ix x1))) + (4 : Int32)))))), Jv, Jv, Jv, Jv, Jv, Jv, Jv, Jv, Jv, Jv, Jv, Jv, Jv, Jv] [] (wi (wi (wi h x0 51 x1) x0 52 x2) x0 50 (0 : Int32)) 0 0 Rt) : WM k_Ref_gatherLines p_Ref_gatherLines_1 [.ref x0, .int x1, .int x2, Jv, Jv, Jv, Jv, Jv, Jv, Jv, Jv, Jv, Jv, Jv, Jv, Jv, Jv, Jv, Jv, Jv, Jv] [] h 0 0 Rt := WM_at (hs := HH_Ref_gatherLines) G_Ref_gatherLines 308 9 rfl ⟨H.1, ⟨H.1, ⟨H.1, ⟨H.1, ⟨H.2.1, ⟨H.2.2.1, ⟨H.1, ⟨H.2.2.2.1, ⟨H.2.2.2.2.1, ⟨H.1, ⟨H.2.2.2.1, ⟨H.2.2.2.2.2.1, ⟨H.1, ⟨H.2.2.2.1, ⟨H.2.2.2.2.2.2.1, ⟨H.1, ⟨H.2.2.2.1, ⟨H.2.2.2.2.2.2.1, ⟨H.1, ⟨H.2.2.2.1, ⟨H.2.2.2.2.2.2.2.1, ⟨H.1, ⟨H.2.2.2.1, ⟨H.2.2.2.2.2.1, ⟨H.1, ⟨H.2.2.2.1, ⟨H.2.2.2.2.2.2.2.2.1, ⟨H.1, ⟨H.2.2.2.1, ⟨H.2.2.2.2.2.2.2.2.1, H.2.2.2.2.2.2.2.2.2⟩⟩⟩⟩⟩⟩⟩⟩⟩⟩⟩⟩⟩⟩⟩⟩⟩⟩⟩⟩⟩⟩⟩⟩⟩⟩⟩⟩⟩⟩
set_option maxRecDepth 100000 in
set_option maxHeartbeats 4000000 in
theorem v_Ref_gatherLines_2 (x0 : Nat) (x1 : Int32) (x2 : Int32) (x3 : Int32) (x4 : Int64) (x6 : Int64) (h : MH) (Rt : Value → MH → Prop) (H :
kd h x0 = 13 ∧
kd h (mr h x0 29) = 21 ∧
InB x3 (ln h (mr h x0 29)) ∧
InB (x3 + (1 : Int32)) (ln h (mr h x0 29)) ∧
InB (x3 + (5 : Int32)) (ln h (mr h x0 29)) ∧
InB (x3 + (4 : Int32)) (ln h (mr h x0 29)) ∧
InB (x3 + (3 : Int32)) (ln h (mr h x0 29)) ∧
WM k_Ref_gatherLines p_Ref_gatherLines_3 [.ref x0, .int x1, .int x2, .int x3, .long x4, Jv, .long x6, Jv, .long (((ml h (mr h x0 29) (ix x3)) * (ml h (mr h x0 29) (ix (x3 + (1 : Int32))))) - ((ml h (mr h x0 29) (ix (x3 + (5 : Int32)))) * (ml h (mr h x0 29) (ix (x3 + (5 : Int32)))))), Jv, .long (((ml h (mr h x0 29) (ix (x3 + (4 : Int32)))) * (ml h (mr h x0 29) (ix (x3 + (5 : Int32))))) - ((ml h (mr h x0 29) (ix x3)) * (ml h (mr h x0 29) (ix (x3 + (3 : Int32)))))), Jv, .long (((ml h (mr h x0 29) (ix (x3 + (3 : Int32)))) * (ml h (mr h x0 29) (ix (x3 + (5 : Int32))))) - ((ml h (mr h x0 29) (ix (x3 + (1 : Int32)))) * (ml h (mr h x0 29) (ix (x3 + (4 : Int32)))))), Jv, Jv, Jv, Jv, Jv, Jv, Jv, Jv] [] h 0 0 Rt) : WM k_Ref_gatherLines p_Ref_gatherLines_2 [.ref x0, .int x1, .int x2, .int x3, .long x4, Jv, .long x6, Jv, Jv, Jv, Jv, Jv, Jv, Jv, Jv, Jv, Jv, Jv, Jv, Jv, Jv] [] h 0 0 Rt := WM_at (hs := HH_Ref_gatherLines) G_Ref_gatherLines 308 79 rfl ⟨H.1, ⟨H.2.1, ⟨H.2.2.1, ⟨H.1, ⟨H.2.1, ⟨H.2.2.2.1, ⟨H.1, ⟨H.2.1, ⟨H.2.2.2.2.1, ⟨H.1, ⟨H.2.1, ⟨H.2.2.2.2.1, ⟨H.1, ⟨H.2.1, ⟨H.2.2.2.2.2.1, ⟨H.1, ⟨H.2.1, ⟨H.2.2.2.2.1, ⟨H.1, ⟨H.2.1, ⟨H.2.2.1, ⟨H.1, ⟨H.2.1, ⟨H.2.2.2.2.2.2.1, ⟨H.1, ⟨H.2.1, ⟨H.2.2.2.2.2.2.1, ⟨H.1, ⟨H.2.1, ⟨H.2.2.2.2.1, ⟨H.1, ⟨H.2.1, ⟨H.2.2.2.1, ⟨H.1, ⟨H.2.1, ⟨H.2.2.2.2.2.1, H.2.2.2.2.2.2.2⟩⟩⟩⟩⟩⟩⟩⟩⟩⟩⟩⟩⟩⟩⟩⟩⟩⟩⟩⟩⟩⟩⟩⟩⟩⟩⟩⟩⟩⟩⟩⟩⟩⟩⟩⟩
set_option maxRecDepth 100000 in
set_option maxHeartbeats 4000000 in
theorem v_Ref_gatherLines_3 (x0 : Nat) (x1 : Int32) (x2 : Int32) (x3 : Int32) (x4 : Int64) (x6 : Int64) (x8 : Int64) (x10 : Int64) (x12 : Int64) (h : MH) (Rt : Value → MH → Prop) (H :
kd h x0 = 13 ∧
kd h (mr h x0 29) = 21 ∧
InB (x3 + (3 : Int32)) (ln h (mr h x0 29)) ∧
InB (x3 + (4 : Int32)) (ln h (mr h x0 29)) ∧
InB (x3 + (2 : Int32)) (ln h (mr h x0 29)) ∧
InB (x3 + (5 : Int32)) (ln h (mr h x0 29)) ∧
WM k_Ref_gatherLines p_Ref_gatherLines_4 [.ref x0, .int x1, .int x2, Jv, .long x4, Jv, .long x6, Jv, .long x8, Jv, .long x10, Jv, .long x12, Jv, .long (((ml h (mr h x0 29) (ix (x3 + (3 : Int32)))) * (ml h (mr h x0 29) (ix (x3 + (4 : Int32))))) - ((ml h (mr h x0 29) (ix (x3 + (2 : Int32)))) * (ml h (mr h x0 29) (ix (x3 + (5 : Int32)))))), Jv, .int (-x2), Jv, Jv, Jv, Jv] [] h 0 0 Rt) : WM k_Ref_gatherLines p_Ref_gatherLines_3 [.ref x0, .int x1, .int x2, .int x3, .long x4, Jv, .long x6, Jv, .long x8, Jv, .long x10, Jv, .long x12, Jv, Jv, Jv, Jv, Jv, Jv, Jv, Jv] [] h 0 0 Rt := WM_at (hs := HH_Ref_gatherLines) G_Ref_gatherLines 308 159 rfl ⟨H.1, ⟨H.2.1, ⟨H.2.2.1, ⟨H.1, ⟨H.2.1, ⟨H.2.2.2.1, ⟨H.1, ⟨H.2.1, ⟨H.2.2.2.2.1, ⟨H.1, ⟨H.2.1, H.2.2.2.2.2⟩⟩⟩⟩⟩⟩⟩⟩⟩⟩⟩
set_option maxRecDepth 100000 in
set_option maxHeartbeats 4000000 in
theorem v_Ref_gatherLines_4 (x0 : Nat) (x1 : Int32) (x2 : Int32) (x4 : Int64) (x6 : Int64) (x8 : Int64) (x10 : Int64) (x12 : Int64) (x14 : Int64) (x16 : Int32) (h : MH) (Rt : Value → MH → Prop) (H :
(x2.toInt < x16.toInt →
Rt .null h) ∧
(¬ x2.toInt < x16.toInt →
WM k_Ref_gatherLines p_Ref_gatherLines_5 [.ref x0, .int x1, .int x2, Jv, .long x4, Jv, .long x6, Jv, .long x8, Jv, .long x10, Jv, .long x12, Jv, .long x14, Jv, .int x16, .int (-x2), Jv, Jv, Jv] [] h 0 0 Rt)) : WM k_Ref_gatherLines p_Ref_gatherLines_4 [.ref x0, .int x1, .int x2, Jv, .long x4, Jv, .long x6, Jv, .long x8, Jv, .long x10, Jv, .long x12, Jv, .long x14, Jv, .int x16, Jv, Jv, Jv, Jv] [] h 0 0 Rt := WM_at (hs := HH_Ref_gatherLines) G_Ref_gatherLines 308 190 rfl H
set_option maxRecDepth 100000 in
set_option maxHeartbeats 4000000 in
theorem v_Ref_gatherLines_5 (x0 : Nat) (x1 : Int32) (x2 : Int32) (x4 : Int64) (x6 : Int64) (x8 : Int64) (x10 : Int64) (x12 : Int64) (x14 : Int64) (x16 : Int32) (x17 : Int32) (h : MH) (Rt : Value → MH → Prop) (H :
(x2.toInt < x17.toInt →
WM k_Ref_gatherLines p_Ref_gatherLines_4 [.ref x0, .int x1, .int x2, Jv, .long x4, Jv, .long x6, Jv, .long x8, Jv, .long x10, Jv, .long x12, Jv, .long x14, Jv, .int (x16 + (1 : Int32)), Jv, Jv, Jv, Jv] [] h 0 0 Rt) ∧
(¬ x2.toInt < x17.toInt →
WM k_Ref_gatherLines p_Ref_gatherLines_6 [.ref x0, .int x1, .int x2, Jv, .long x4, Jv, .long x6, Jv, .long x8, Jv, .long x10, Jv, .long x12, Jv, .long x14, Jv, .int x16, .int x17, .int (-x2), Jv, Jv] [] h 0 0 Rt)) : WM k_Ref_gatherLines p_Ref_gatherLines_5 [.ref x0, .int x1, .int x2, Jv, .long x4, Jv, .long x6, Jv, .long x8, Jv, .long x10, Jv, .long x12, Jv, .long x14, Jv, .int x16, .int x17, Jv, Jv, Jv] [] h 0 0 Rt := WM_at (hs := HH_Ref_gatherLines) G_Ref_gatherLines 308 196 rfl H
set_option maxRecDepth 100000 in
set_option maxHeartbeats 4000000 in
theorem v_Ref_gatherLines_6 (x0 : Nat) (x1 : Int32) (x2 : Int32) (x4 : Int64) (x6 : Int64) (x8 : Int64) (x10 : Int64) (x12 : Int64) (x14 : Int64) (x16 : Int32) (x17 : Int32) (x18 : Int32) (h : MH) (Rt : Value → MH → Prop) (H :
(x2.toInt < x18.toInt →
WM k_Ref_gatherLines p_Ref_gatherLines_5 [.ref x0, .int x1, .int x2, Jv, .long x4, Jv, .long x6, Jv, .long x8, Jv, .long x10, Jv, .long x12, Jv, .long x14, Jv, .int x16, .int (x17 + (1 : Int32)), Jv, Jv, Jv] [] h 0 0 Rt) ∧
(¬ x2.toInt < x18.toInt →
(x16 = 0 →
(x17 = 0 →
(x18 = 0 →
WM k_Ref_gatherLines p_Ref_gatherLines_6 [.ref x0, .int x1, .int x2, Jv, .long x4, Jv, .long x6, Jv, .long x8, Jv, .long x10, Jv, .long x12, Jv, .long x14, Jv, .int x16, .int x17, .int (x18 + (1 : Int32)), Jv, Jv] [] h 0 0 Rt) ∧
(¬ x18 = 0 →
WM k_Ref_gatherLines p_Ref_gatherLines_7 [.ref x0, .int x1, .int x2, Jv, .long x4, Jv, .long x6, Jv, .long x8, Jv, .long x10, Jv, .long x12, Jv, .long x14, Jv, .int x16, .int x17, .int x18, Jv, Jv] [] h 0 0 Rt)) ∧
(¬ x17 = 0 →
WM k_Ref_gatherLines p_Ref_gatherLines_7 [.ref x0, .int x1, .int x2, Jv, .long x4, Jv, .long x6, Jv, .long x8, Jv, .long x10, Jv, .long x12, Jv, .long x14, Jv, .int x16, .int x17, .int x18, Jv, Jv] [] h 0 0 Rt)) ∧
(¬ x16 = 0 →
WM k_Ref_gatherLines p_Ref_gatherLines_7 [.ref x0, .int x1, .int x2, Jv, .long x4, Jv, .long x6, Jv, .long x8, Jv, .long x10, Jv, .long x12, Jv, .long x14, Jv, .int x16, .int x17, .int x18, Jv, Jv] [] h 0 0 Rt))) : WM k_Ref_gatherLines p_Ref_gatherLines_6 [.ref x0, .int x1, .int x2, Jv, .long x4, Jv, .long x6, Jv, .long x8, Jv, .long x10, Jv, .long x12, Jv, .long x14, Jv, .int x16, .int x17, .int x18, Jv, Jv] [] h 0 0 Rt := WM_at (hs := HH_Ref_gatherLines) G_Ref_gatherLines 308 202 rfl H
set_option maxRecDepth 100000 in
set_option maxHeartbeats 4000000 in
theorem v_Ref_gatherLines_7 (x0 : Nat) (x1 : Int32) (x2 : Int32) (x4 : Int64) (x6 : Int64) (x8 : Int64) (x10 : Int64) (x12 : Int64) (x14 : Int64) (x16 : Int32) (x17 : Int32) (x18 : Int32) (h : MH) (Rt : Value → MH → Prop) (H :
kd h x0 = 13 ∧
SpV k_Ref_waveOf [.ref x0, .int x1, .int x16, .int x17, .int x18] h (fun g1 =>
kd g1 x0 = 13 ∧
kd g1 (mr g1 x0 46) = 21 ∧
InB (8 : Int32) (ln g1 (mr g1 x0 46)) ∧
((lg_cmp (ml g1 (mr g1 x0 46) (ix (8 : Int32))) (0 : Int64)) = 0 →
InB (9 : Int32) (ln g1 (mr g1 x0 46)) ∧
((lg_cmp (ml g1 (mr g1 x0 46) (ix (9 : Int32))) (0 : Int64)) = 0 →
InB (10 : Int32) (ln g1 (mr g1 x0 46)) ∧
((lg_cmp (ml g1 (mr g1 x0 46) (ix (10 : Int32))) (0 : Int64)) = 0 →
InB (11 : Int32) (ln g1 (mr g1 x0 46)) ∧
((lg_cmp (ml g1 (mr g1 x0 46) (ix (11 : Int32))) (0 : Int64)) = 0 →
WM k_Ref_gatherLines p_Ref_gatherLines_6 [.ref x0, .int x1, .int x2, Jv, .long x4, Jv, .long x6, Jv, .long x8, Jv, .long x10, Jv, .long x12, Jv, .long x14, Jv, .int x16, .int x17, .int (x18 + (1 : Int32)), Jv, Jv] [] g1 0 0 Rt) ∧
(¬ (lg_cmp (ml g1 (mr g1 x0 46) (ix (11 : Int32))) (0 : Int64)) = 0 →
WM k_Ref_gatherLines p_Ref_gatherLines_8 [.ref x0, .int x1, .int x2, Jv, .long x4, Jv, .long x6, Jv, .long x8, Jv, .long x10, Jv, .long x12, Jv, .long x14, Jv, .int x16, .int x17, .int x18, Jv, Jv] [] g1 0 0 Rt)) ∧
(¬ (lg_cmp (ml g1 (mr g1 x0 46) (ix (10 : Int32))) (0 : Int64)) = 0 →
WM k_Ref_gatherLines p_Ref_gatherLines_8 [.ref x0, .int x1, .int x2, Jv, .long x4, Jv, .long x6, Jv, .long x8, Jv, .long x10, Jv, .long x12, Jv, .long x14, Jv, .int x16, .int x17, .int x18, Jv, Jv] [] g1 0 0 Rt)) ∧
(¬ (lg_cmp (ml g1 (mr g1 x0 46) (ix (9 : Int32))) (0 : Int64)) = 0 →
WM k_Ref_gatherLines p_Ref_gatherLines_8 [.ref x0, .int x1, .int x2, Jv, .long x4, Jv, .long x6, Jv, .long x8, Jv, .long x10, Jv, .long x12, Jv, .long x14, Jv, .int x16, .int x17, .int x18, Jv, Jv] [] g1 0 0 Rt)) ∧
(¬ (lg_cmp (ml g1 (mr g1 x0 46) (ix (8 : Int32))) (0 : Int64)) = 0 →
WM k_Ref_gatherLines p_Ref_gatherLines_8 [.ref x0, .int x1, .int x2, Jv, .long x4, Jv, .long x6, Jv, .long x8, Jv, .long x10, Jv, .long x12, Jv, .long x14, Jv, .int x16, .int x17, .int x18, Jv, Jv] [] g1 0 0 Rt))) : WM k_Ref_gatherLines p_Ref_gatherLines_7 [.ref x0, .int x1, .int x2, Jv, .long x4, Jv, .long x6, Jv, .long x8, Jv, .long x10, Jv, .long x12, Jv, .long x14, Jv, .int x16, .int x17, .int x18, Jv, Jv] [] h 0 0 Rt := WM_at (hs := HH_Ref_gatherLines) G_Ref_gatherLines 308 212 rfl ⟨H.1, SpV.mono H.2 (fun g1 qg1 => ⟨qg1.1, ⟨qg1.2.1, ⟨qg1.2.2.1, ⟨fun c9 => ⟨qg1.1, ⟨qg1.2.1, ⟨(qg1.2.2.2.1 c9).1, ⟨fun c10 => ⟨qg1.1, ⟨qg1.2.1, ⟨(((qg1.2.2.2.1 c9).2).1 c10).1, ⟨fun c11 => ⟨qg1.1, ⟨qg1.2.1, (((((qg1.2.2.2.1 c9).2).1 c10).2).1 c11)⟩⟩, ((((qg1.2.2.2.1 c9).2).1 c10).2).2⟩⟩⟩⟩, ((qg1.2.2.2.1 c9).2).2⟩⟩⟩⟩, qg1.2.2.2.2⟩⟩⟩⟩)⟩
set_option maxRecDepth 100000 in
set_option maxHeartbeats 4000000 in
theorem v_Ref_gatherLines_8 (x0 : Nat) (x1 : Int32) (x2 : Int32) (x4 : Int64) (x6 : Int64) (x8 : Int64) (x10 : Int64) (x12 : Int64) (x14 : Int64) (x16 : Int32) (x17 : Int32) (x18 : Int32) (h : MH) (Rt : Value → MH → Prop) (H :
kd h x0 = 13 ∧
SpV k_Ref_addLine [.ref x0, .long (((((x4 * x16.toInt64) * x16.toInt64) + ((x6 * x17.toInt64) * x17.toInt64)) + ((x8 * x18.toInt64) * x18.toInt64)) + ((2 : Int64) * ((((x10 * x17.toInt64) * x18.toInt64) + ((x12 * x16.toInt64) * x18.toInt64)) + ((x14 * x16.toInt64) * x17.toInt64))))] h (fun g1 =>
WM k_Ref_gatherLines p_Ref_gatherLines_6 [.ref x0, .int x1, .int x2, Jv, .long x4, Jv, .long x6, Jv, .long x8, Jv, .long x10, Jv, .long x12, Jv, .long x14, Jv, .int x16, .int x17, .int (x18 + (1 : Int32)), Jv, Jv] [] g1 0 0 Rt)) : WM k_Ref_gatherLines p_Ref_gatherLines_8 [.ref x0, .int x1, .int x2, Jv, .long x4, Jv, .long x6, Jv, .long x8, Jv, .long x10, Jv, .long x12, Jv, .long x14, Jv, .int x16, .int x17, .int x18, Jv, Jv] [] h 0 0 Rt := WM_at (hs := HH_Ref_gatherLines) G_Ref_gatherLines 308 247 rfl H
set_option maxRecDepth 100000 in
set_option maxHeartbeats 4000000 in
theorem v_Ref_lines (x0 : Nat) (x1 : Int32) (x2 : Int32) (h : MH) (Rt : Value → MH → Prop) (H :
kd h x0 = 13 ∧
SpI k_Ref_isModel [.ref x0, .int x1] h (fun r3 g1 =>
(r3 = 0 →
Rt (.int (-1 : Int32)) g1) ∧
(¬ r3 = 0 →
(x2.toInt < (1 : Int32).toInt →
Rt (.int (-1 : Int32)) g1) ∧
(¬ x2.toInt < (1 : Int32).toInt →
((6 : Int32).toInt < x2.toInt →
Rt (.int (-1 : Int32)) g1) ∧
(¬ (6 : Int32).toInt < x2.toInt →
kd g1 x0 = 13 ∧
SpV k_Ref_gatherLines [.ref x0, .int x1, .int x2] g1 (fun g4 =>
kd g4 x0 = 13 ∧
Rt (.int (mi g4 x0 50)) g4)))))) : Sp k_Ref_lines [.ref x0, .int x1, .int x2] h Rt := Sp_intro2 (by decide) (by decide +kernel) rfl (Nat.le_of_ble_eq_true rfl) (WM_at (hs := HH_Ref_lines) G_Ref_lines 20 0 rfl H)
set_option maxRecDepth 100000 in
set_option maxHeartbeats 4000000 in
theorem v_Ho_line (x0 : Nat) (x1 : Int32) (x2 : Int32) (x3 : Int32) (x4 : Int32) (h : MH) (Rt : Value → MH → Prop) (H :
kd h x0 = 12 ∧
SpR k_Ho_linesAt [.ref x0, .int x1, .int x2] h (fun r3 g1 =>
(r3 = 0 →
Rt (.long (0 : Int64)) g1) ∧
(¬ r3 = 0 →
(x3.toInt < 0 →
Rt (.long (0 : Int64)) g1) ∧
(¬ x3.toInt < 0 →
kd g1 r3 = 5 ∧
(x3.toInt < (mi g1 r3 3).toInt →
(x4.toInt < 0 →
Rt (.long (0 : Int64)) g1) ∧
(¬ x4.toInt < 0 →
((5 : Int32).toInt < x4.toInt →
Rt (.long (0 : Int64)) g1) ∧
(¬ (5 : Int32).toInt < x4.toInt →
kd g1 (mr g1 r3 2) = 20 ∧
InB x3 (ln g1 (mr g1 r3 2)) ∧
kd g1 (mr g1 r3 1) = 21 ∧
InB (((6 : Int32) * (mi g1 (mr g1 r3 2) (ix x3))) + x4) (ln g1 (mr g1 r3 1)) ∧
Rt (.long (ml g1 (mr g1 r3 1) (ix (((6 : Int32) * (mi g1 (mr g1 r3 2) (ix x3))) + x4)))) g1))) ∧
(¬ x3.toInt < (mi g1 r3 3).toInt →
Rt (.long (0 : Int64)) g1))))) : Sp k_Ho_line [.ref x0, .int x1, .int x2, .int x3, .int x4] h Rt := Sp_intro2 (by decide) (by decide +kernel) rfl (Nat.le_of_ble_eq_true rfl) (WM_at (hs := HH_Ho_line) G_Ho_line 33 0 rfl ⟨H.1, SpR.mono H.2 (fun r3 g1 qg1 => ⟨qg1.1, fun c9 => ⟨(qg1.2 c9).1, fun c10 => ⟨((qg1.2 c9).2 c10).1, ⟨fun c11 => ⟨((((qg1.2 c9).2 c10).2).1 c11).1, fun c12 => ⟨(((((qg1.2 c9).2 c10).2).1 c11).2 c12).1, fun c13 => ⟨((qg1.2 c9).2 c10).1, ⟨((qg1.2 c9).2 c10).1, ((((((qg1.2 c9).2 c10).2).1 c11).2 c12).2 c13)⟩⟩⟩⟩, (((qg1.2 c9).2 c10).2).2⟩⟩⟩⟩)⟩)
set_option maxRecDepth 100000 in
set_option maxHeartbeats 4000000 in
theorem v_Ref_line (x0 : Nat) (x1 : Int32) (x2 : Int32) (x3 : Int32) (x4 : Int32) (h : MH) (Rt : Value → MH → Prop) (H :
kd h x0 = 13 ∧
SpI k_Ref_isModel [.ref x0, .int x1] h (fun r3 g1 =>
(r3 = 0 →
Rt (.long (0 : Int64)) g1) ∧
(¬ r3 = 0 →
(x2.toInt < (1 : Int32).toInt →
Rt (.long (0 : Int64)) g1) ∧
(¬ x2.toInt < (1 : Int32).toInt →
((6 : Int32).toInt < x2.toInt →
Rt (.long (0 : Int64)) g1) ∧
(¬ (6 : Int32).toInt < x2.toInt →
(x4.toInt < 0 →
Rt (.long (0 : Int64)) g1) ∧
(¬ x4.toInt < 0 →
((5 : Int32).toInt < x4.toInt →
Rt (.long (0 : Int64)) g1) ∧
(¬ (5 : Int32).toInt < x4.toInt →
(x3.toInt < 0 →
Rt (.long (0 : Int64)) g1) ∧
(¬ x3.toInt < 0 →
kd g1 x0 = 13 ∧
SpV k_Ref_gatherLines [.ref x0, .int x1, .int x2] g1 (fun g4 =>
kd g4 x0 = 13 ∧
(x3.toInt < (mi g4 x0 50).toInt →
(x4 = 0 →
kd g4 (mr g4 x0 47) = 21 ∧
InB x3 (ln g4 (mr g4 x0 47)) ∧
Rt (.long (ml g4 (mr g4 x0 47) (ix x3))) g4) ∧
(¬ x4 = 0 →
(x4 = (1 : Int32) →
kd g4 (mr g4 x0 48) = 20 ∧
InB x3 (ln g4 (mr g4 x0 48)) ∧
Rt (.long ((mi g4 (mr g4 x0 48) (ix x3)).toInt64)) g4) ∧
(¬ x4 = (1 : Int32) →
kd g4 (mr g4 x0 49) = 21 ∧
InB ((((4 : Int32) * x3) + x4) - (2 : Int32)) (ln g4 (mr g4 x0 49)) ∧
Rt (.long (ml g4 (mr g4 x0 49) (ix ((((4 : Int32) * x3) + x4) - (2 : Int32))))) g4))) ∧
(¬ x3.toInt < (mi g4 x0 50).toInt →
Rt (.long (0 : Int64)) g4)))))))))) : Sp k_Ref_line [.ref x0, .int x1, .int x2, .int x3, .int x4] h Rt := Sp_intro2 (by decide) (by decide +kernel) rfl (Nat.le_of_ble_eq_true rfl) (WM_at (hs := HH_Ref_line) G_Ref_line 57 0 rfl ⟨H.1, SpI.mono H.2 (fun r3 g1 qg1 => ⟨qg1.1, fun c13 => ⟨(qg1.2 c13).1, fun c14 => ⟨((qg1.2 c13).2 c14).1, fun c15 => ⟨(((qg1.2 c13).2 c14).2 c15).1, fun c16 => ⟨((((qg1.2 c13).2 c14).2 c15).2 c16).1, fun c17 => ⟨(((((qg1.2 c13).2 c14).2 c15).2 c16).2 c17).1, fun c18 => ⟨((((((qg1.2 c13).2 c14).2 c15).2 c16).2 c17).2 c18).1, SpV.mono (((((((qg1.2 c13).2 c14).2 c15).2 c16).2 c17).2 c18).2) (fun g4 qg4 => ⟨qg4.1, ⟨fun c19 => ⟨fun c20 => ⟨qg4.1, ((qg4.2.1 c19).1 c20)⟩, fun c20 => ⟨fun c21 => ⟨qg4.1, (((qg4.2.1 c19).2 c20).1 c21)⟩, fun c21 => ⟨qg4.1, (((qg4.2.1 c19).2 c20).2 c21)⟩⟩⟩, qg4.2.2⟩⟩)⟩⟩⟩⟩⟩⟩⟩)⟩)
